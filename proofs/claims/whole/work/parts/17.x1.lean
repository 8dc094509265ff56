section
variable {G : GP} {p : Program} {l : Launch} {e : Env} {s : State} {m : MethodId} {args : Array Value} {below : List Frame} {meth : Method} {c : Code} {Q : State → Prop} {A : Nat → Prop}
def fX0_sets (N : Nat) (σ : St) : Option Int32 :=
  some (σ.1 10)
set_option maxHeartbeats 4000000 in
set_option maxRecDepth 100000 in
theorem ctX0_sets {G : GP} {l : Launch} {q : Nat → Nat} (N : Nat) (σ : St) (r : Int32) (h : fX0_sets N σ = some r) : CI G l yX0_sets cX0_sets 1 (some .int) 0 [.ref (q 4)] (xW G q σ) (xW G q σ) r := by
  refine enterI (own := RX0) (by decide) rfl (Nat.le_of_ble_eq_true rfl) ?_
  intro p e s m args below meth c A C hP hD hS ls hl
  obtain ⟨hx, hb, hml, hown, hts, hK, hZ, hA, hlk, hr⟩ := id C
  have hl : lv_has ls 1 [(0, .ref (q 4))] := hl
  rw [fX0_sets.eq_1] at h
  refine lv_aload_n hx hb dX0_sets_0 rfl (lv_at hl 0 rfl) ?_
  refine gf_RX0_24 C hP dX0_sets_1 ?_
  obtain rfl := so1 h
  exact retI C hP hD hS dX0_sets_4

def fX0_lines (N : Nat) (σ : St) : Option Int32 :=
  some (σ.1 11)
set_option maxHeartbeats 4000000 in
set_option maxRecDepth 100000 in
theorem ctX0_lines {G : GP} {l : Launch} {q : Nat → Nat} (N : Nat) (σ : St) (r : Int32) (h : fX0_lines N σ = some r) : CI G l yX0_lines cX0_lines 1 (some .int) 0 [.ref (q 4)] (xW G q σ) (xW G q σ) r := by
  refine enterI (own := RX0) (by decide) rfl (Nat.le_of_ble_eq_true rfl) ?_
  intro p e s m args below meth c A C hP hD hS ls hl
  obtain ⟨hx, hb, hml, hown, hts, hK, hZ, hA, hlk, hr⟩ := id C
  have hl : lv_has ls 1 [(0, .ref (q 4))] := hl
  rw [fX0_lines.eq_1] at h
  refine lv_aload_n hx hb dX0_lines_0 rfl (lv_at hl 0 rfl) ?_
  refine gf_RX0_28 C hP dX0_lines_1 ?_
  obtain rfl := so1 h
  exact retI C hP hD hS dX0_lines_4

def fX1_middle (N : Nat) (σ : St) : Option Int32 :=
  some (σ.2 2 (0 : Int32).toNatClampNeg)
set_option maxHeartbeats 4000000 in
set_option maxRecDepth 100000 in
theorem ctX1_middle {G : GP} {l : Launch} {q : Nat → Nat} (N : Nat) (σ : St) (r : Int32) (h : fX1_middle N σ = some r) : CI G l yX1_middle cX1_middle 1 (some .int) 0 [.ref (q 1)] (xW G q σ) (xW G q σ) r := by
  refine enterI (own := RX1) (by decide) rfl (Nat.le_of_ble_eq_true rfl) ?_
  intro p e s m args below meth c A C hP hD hS ls hl
  obtain ⟨hx, hb, hml, hown, hts, hK, hZ, hA, hlk, hr⟩ := id C
  have hl : lv_has ls 1 [(0, .ref (q 1))] := hl
  rw [fX1_middle.eq_1] at h
  refine lv_aload_n hx hb dX1_middle_0 rfl (lv_at hl 0 rfl) ?_
  refine gf_RX1_18 C hP dX1_middle_1 ?_
  refine lv_iconst (v := 0) hx hb dX1_middle_4 (by decide) ?_
  refine ldX_2 C hP (vin (by decide)) dX1_middle_5 ?_
  obtain rfl := so1 h
  exact retI C hP hD hS dX1_middle_6

def fX5_ownParts (N : Nat) (σ : St) : Option St :=
  bd1 (fX1_middle N σ ) (fun r2 => some (sA σ 4 (5 : Int32).toNatClampNeg r2))
set_option maxHeartbeats 4000000 in
set_option maxRecDepth 100000 in
theorem ctX5_ownParts {G : GP} {l : Launch} {q : Nat → Nat} (N : Nat) (σ σ' : St) (h : fX5_ownParts N σ = some σ') : CQ G l yX5_ownParts cX5_ownParts 1 (some (.array .int)) 1 [.ref (q 3)] (xW G q σ) (xW G q (σ')) (some (q 10)) := by
  refine enterQ (own := RX5) (by decide) rfl (Nat.le_of_ble_eq_true rfl) ?_
  intro p e s m args below meth c A C hP hD hS ls hl
  obtain ⟨hx, hb, hml, hown, hts, hK, hZ, hA, hlk, hr⟩ := id C
  have hl : lv_has ls 1 [(0, .ref (q 3))] := hl
  rw [fX5_ownParts.eq_1] at h
  refine lv_aload_n hx hb dX5_ownParts_0 rfl (lv_at hl 0 rfl) ?_
  refine gf_RX5_9 C hP dX5_ownParts_1 ?_
  refine lv_iconst (v := 5) hx hb dX5_ownParts_4 (by decide) ?_
  refine lv_aload_n hx hb dX5_ownParts_5 rfl (lv_at hl 0 rfl) ?_
  refine gf_RX5_40 C hP dX5_ownParts_6 ?_
  obtain ⟨r2, h1, h⟩ := bd1_some h
  refine goI C hD hS (runV (As := []) (rest := [.int 5, .ref (q 10)]) (w := (xW G q σ)) C lc_RX5_44 (ctX1_middle N σ  r2 h1 _) hP hD hS (va_recv C.2.2.2.2.2.1 hP (ci := 1) (q0 := 1) rfl rfl) hl.1 rfl rfl (by decide) (by decide) (Nat.le_of_ble_eq_true rfl) dX5_ownParts_9) (fun H locs hP hD hS => ?_)
  refine stX_4 C hP hD hS (vin (by decide)) dX5_ownParts_12 (fun H locs hP hD hS => ?_)
  refine lv_aload_n hx hb dX5_ownParts_13 rfl (lv_at hl 0 rfl) ?_
  refine gf_RX5_9 C hP dX5_ownParts_14 ?_
  obtain rfl := so1 h
  exact retQ (r := some (q 10)) C (Or.inr ⟨_, rfl⟩) hP hD hS dX5_ownParts_17

def fX6_within (N : Nat) (a1 : Int32) (a2 : Int32) (a3 : Int32) : Option Int32 :=
  (if a1 < a2 then some 0 else (if a3 < a1 then some 0 else some 1))
set_option maxHeartbeats 4000000 in
set_option maxRecDepth 100000 in
theorem ctX6_within {G : GP} {l : Launch} {w : va_W} (N : Nat) (a1 : Int32) (a2 : Int32) (a3 : Int32) (r : Int32) (h : fX6_within N a1 a2 a3 = some r) : CI G l yX6_within cX6_within 3 (some .boolean) 0 [.int a1, .int a2, .int a3] w w r := by
  refine enterI (own := RX6) (by decide) rfl (Nat.le_of_ble_eq_true rfl) ?_
  intro p e s m args below meth c A C hP hD hS ls hl
  obtain ⟨hx, hb, hml, hown, hts, hK, hZ, hA, hlk, hr⟩ := id C
  have hl : lv_has ls 3 [(0, .int a1), (1, .int a2), (2, .int a3)] := hl
  rw [fX6_within.eq_1] at h
  refine lv_iload_n hx hb dX6_within_0 rfl (lv_at hl 0 rfl) ?_
  refine lv_iload_n hx hb dX6_within_1 rfl (lv_at hl 1 rfl) ?_
  refine lv_icmp_lt (tgt := 14) hx hb dX6_within_2 (by decide) (fun c1 => ?_) (fun c1 => ?_)
  · replace h := ifp c1 h
    refine lv_iconst (v := 0) hx hb dX6_within_14 (by decide) ?_
    obtain rfl := so1 h
    exact retZ C hP hD hS (by decide) dX6_within_15
  · replace h := ifn c1 h
    refine lv_iload_n hx hb dX6_within_5 rfl (lv_at hl 0 rfl) ?_
    refine lv_iload_n hx hb dX6_within_6 rfl (lv_at hl 2 rfl) ?_
    refine lv_icmp_gt (tgt := 14) hx hb dX6_within_7 (by decide) (fun c2 => ?_) (fun c2 => ?_)
    · replace h := ifp c2 h
      refine lv_iconst (v := 0) hx hb dX6_within_14 (by decide) ?_
      obtain rfl := so1 h
      exact retZ C hP hD hS (by decide) dX6_within_15
    · replace h := ifn c2 h
      refine lv_iconst (v := 1) hx hb dX6_within_10 (by decide) ?_
      refine lv_goto (tgt := 15) hx hb dX6_within_11 (by decide) ?_
      obtain rfl := so1 h
      exact retZ C hP hD hS (by decide) dX6_within_15

def fX0_find (N : Nat) (σ : St) (a1 : Int32) : Option (Option Nat) :=
  bd1 (fX6_within N a1 0 ((σ.1 10) - 1)) (fun r2 => (if r2 = 0 then some (none) else gi a1 10 (gk a1.toNatClampNeg σ (some (some a1.toNatClampNeg)))))
set_option maxHeartbeats 4000000 in
set_option maxRecDepth 100000 in
theorem ctX0_find {G : GP} {l : Launch} {q : Nat → Nat} (N : Nat) (σ : St) (a1 : Int32) (r : Option Nat) (h : fX0_find N σ a1 = some r) : CQ G l yX0_find cX0_find 2 (some (.object "RadioRoom$RadioSet")) 1 [.ref (q 4), .int a1] (xW G q σ) (xW G q σ) (sAd q r) := by
  refine enterQ (own := RX0) (by decide) rfl (Nat.le_of_ble_eq_true rfl) ?_
  intro p e s m args below meth c A C hP hD hS ls hl
  obtain ⟨hx, hb, hml, hown, hts, hK, hZ, hA, hlk, hr⟩ := id C
  have hl : lv_has ls 2 [(0, .ref (q 4)), (1, .int a1)] := hl
  rw [fX0_find.eq_1] at h
  refine lv_iload_n hx hb dX0_find_0 rfl (lv_at hl 1 rfl) ?_
  refine lv_iconst (v := 0) hx hb dX0_find_1 (by decide) ?_
  refine lv_aload_n hx hb dX0_find_2 rfl (lv_at hl 0 rfl) ?_
  refine gf_RX0_24 C hP dX0_find_3 ?_
  refine lv_iconst (v := 1) hx hb dX0_find_6 (by decide) ?_
  refine lv_isub hx hb dX0_find_7 ?_
  obtain ⟨r2, h1, h⟩ := bd1_some h
  refine goI C hD hS (runN (As := [.int a1, .int 0, .int ((σ.1 10) - 1)]) (rest := []) (w := (xW G q σ)) C lc_RX0_52 C.2.2.2.2.2.2.1.2.2.1.2.2.2.2.2.2.1 (ctX6_within (w := (xW G q σ)) N a1 0 ((σ.1 10) - 1) r2 h1 _) hP hD hS hl.1 rfl rfl (by decide) (by decide) (Nat.le_of_ble_eq_true rfl) dX0_find_8) (fun H locs hP hD hS => ?_)
  refine lv_if_eq (tgt := 23) hx hb dX0_find_11 (by decide) (fun c3 => ?_) (fun c3 => ?_)
  · replace h := ifp c3 h
    refine lv_null hx hb dX0_find_23 ?_
    refine lv_cvv (y := va_rf (sAd q none)) rfl ?_
    obtain rfl := so1 h
    exact retQ C (Or.inl ⟨_, rfl⟩) hP hD hS dX0_find_24
  · replace h := ifn c3 h
    refine lv_aload_n hx hb dX0_find_14 rfl (lv_at hl 0 rfl) ?_
    refine gf_RX0_11 C hP dX0_find_15 ?_
    refine lv_iload_n hx hb dX0_find_18 rfl (lv_at hl 1 rfl) ?_
    obtain ⟨i4, h⟩ := gi_some h
    obtain ⟨k5, h⟩ := gk_some h
    refine va_aldq hx hb hK hP 21 2 rfl rfl i4 dX0_find_19 ?_
    refine lv_cvv (y := va_rf (sAd q (some a1.toNatClampNeg))) (by show va_rf (if _ then _ else _) = _; rw [if_pos k5]; rfl) ?_
    refine lv_goto (tgt := 24) hx hb dX0_find_20 (by decide) ?_
    obtain rfl := so1 h
    exact retQ C (Or.inl ⟨_, rfl⟩) hP hD hS dX0_find_24

def fX0_isPart (N : Nat) (a1 : Int32) : Option Int32 :=
  bd1 (fX6_within N a1 0 5) (fun r2 => bz r2 (some r2))
set_option maxHeartbeats 4000000 in
set_option maxRecDepth 100000 in
theorem ctX0_isPart {G : GP} {l : Launch} {w : va_W} (N : Nat) (a1 : Int32) (r : Int32) (h : fX0_isPart N a1 = some r) : CI G l yX0_isPart cX0_isPart 1 (some .boolean) 1 [.int a1] w w r := by
  refine enterI (own := RX0) (by decide) rfl (Nat.le_of_ble_eq_true rfl) ?_
  intro p e s m args below meth c A C hP hD hS ls hl
  obtain ⟨hx, hb, hml, hown, hts, hK, hZ, hA, hlk, hr⟩ := id C
  have hl : lv_has ls 1 [(0, .int a1)] := hl
  rw [fX0_isPart.eq_1] at h
  refine lv_iload_n hx hb dX0_isPart_0 rfl (lv_at hl 0 rfl) ?_
  refine lv_iconst (v := 0) hx hb dX0_isPart_1 (by decide) ?_
  refine lv_iconst (v := 5) hx hb dX0_isPart_2 (by decide) ?_
  obtain ⟨r2, h1, h⟩ := bd1_some h
  refine goI C hD hS (runN (As := [.int a1, .int 0, .int 5]) (rest := []) (w := w) C lc_RX0_52 C.2.2.2.2.2.2.1.2.2.1.2.2.2.2.2.2.1 (ctX6_within (w := w) N a1 0 5 r2 h1 _) hP hD hS hl.1 rfl rfl (by decide) (by decide) (Nat.le_of_ble_eq_true rfl) dX0_isPart_3) (fun H locs hP hD hS => ?_)
  obtain ⟨b3, h⟩ := bz_some h
  obtain rfl := so1 h
  exact retZ C hP hD hS b3 dX0_isPart_6

def fX3_settle (N : Nat) (g0 : Nat) (σ : St) (a1 : Int32) : Option St :=
  gk g0 σ (gi a1 6 (gi a1 6 (gi a1 6 (gi a1 6 (gi a1 6 (gi a1 6 (some (sA σ (18 + 4 * g0) a1.toNatClampNeg (jmax (st2 a1.toNatClampNeg) (jmin (st3 a1.toNatClampNeg) (((σ.2 (15 + 4 * g0) a1.toNatClampNeg) + (σ.2 (16 + 4 * g0) a1.toNatClampNeg)) + (σ.2 (17 + 4 * g0) a1.toNatClampNeg))))))))))))
set_option maxHeartbeats 4000000 in
set_option maxRecDepth 100000 in
theorem ctX3_settle {G : GP} {l : Launch} {q : Nat → Nat} (N : Nat) (g0 : Nat) (σ σ' : St) (a1 : Int32) (h : fX3_settle N g0 σ a1 = some σ') : CV G l yX3_settle cX3_settle 3 none 1 [.ref (q (22 + 5 * g0)), .int a1] (xW G q σ) (xW G q (σ')) := by
  refine enterV (own := RX3) (by decide) rfl (Nat.le_of_ble_eq_true rfl) ?_
  intro p e s m args below meth c A C hP hD hS ls hl
  obtain ⟨hx, hb, hml, hown, hts, hK, hZ, hA, hlk, hr⟩ := id C
  have hl : lv_has ls 3 [(0, .ref (q (22 + 5 * g0))), (1, .int a1)] := hl
  rw [fX3_settle.eq_1] at h
  obtain ⟨hk, h⟩ := gk_some h
  refine lv_aload_n hx hb dX3_settle_0 rfl (lv_at hl 0 rfl) ?_
  refine gs_RX3_23 C hk hP dX3_settle_1 ?_
  refine lv_iload_n hx hb dX3_settle_4 rfl (lv_at hl 1 rfl) ?_
  obtain ⟨i1, h⟩ := gi_some h
  refine ldS_0 C hk hP i1 dX3_settle_5 ?_
  refine lv_aload_n hx hb dX3_settle_6 rfl (lv_at hl 0 rfl) ?_
  refine gs_RX3_9 C hk hP dX3_settle_7 ?_
  refine lv_iload_n hx hb dX3_settle_10 rfl (lv_at hl 1 rfl) ?_
  obtain ⟨i2, h⟩ := gi_some h
  refine ldS_1 C hk hP i2 dX3_settle_11 ?_
  refine lv_iadd hx hb dX3_settle_12 ?_
  refine lv_aload_n hx hb dX3_settle_13 rfl (lv_at hl 0 rfl) ?_
  refine gs_RX3_15 C hk hP dX3_settle_14 ?_
  refine lv_iload_n hx hb dX3_settle_17 rfl (lv_at hl 1 rfl) ?_
  obtain ⟨i3, h⟩ := gi_some h
  refine ldS_2 C hk hP i3 dX3_settle_18 ?_
  refine lv_iadd hx hb dX3_settle_19 ?_
  refine lv_istore_n (lv' := [(2, .int (((σ.2 (15 + 4 * g0) a1.toNatClampNeg) + (σ.2 (16 + 4 * g0) a1.toNatClampNeg)) + (σ.2 (17 + 4 * g0) a1.toNatClampNeg))), (0, .ref (q (22 + 5 * g0))), (1, .int a1)]) hx hb dX3_settle_20 rfl hl (by decide) rfl (fun ls hl => ?_)
  refine lv_aload_n hx hb dX3_settle_21 rfl (lv_at hl 1 rfl) ?_
  refine gs_RX3_26 C hk hP dX3_settle_22 ?_
  refine lv_iload_n hx hb dX3_settle_25 rfl (lv_at hl 2 rfl) ?_
  refine va_getsN hx hb hZ.1.2.2.1.1 hS hown (va_Nw.use rfl hZ.2.1.2.2.2.2.1) (fun _ h9 => h9) dX3_settle_26 ?_
  refine lv_iload_n hx hb dX3_settle_29 rfl (lv_at hl 2 rfl) ?_
  obtain ⟨i4, h⟩ := gi_some h
  refine va_ti (v := .int (st2 a1.toNatClampNeg)) hx hb hZ.1.2.2.1.2 hS i4 rfl dX3_settle_30 ?_
  refine va_getsN hx hb hZ.1.2.2.2.1 hS hown (va_Nw.use rfl hZ.2.1.2.2.2.2.2) (fun _ h9 => h9) dX3_settle_31 ?_
  refine lv_iload_n hx hb dX3_settle_34 rfl (lv_at hl 2 rfl) ?_
  obtain ⟨i5, h⟩ := gi_some h
  refine va_ti (v := .int (st3 a1.toNatClampNeg)) hx hb hZ.1.2.2.2.2 hS i5 rfl dX3_settle_35 ?_
  refine lv_iload_n hx hb dX3_settle_36 rfl (lv_at hl 0 rfl) ?_
  refine rmin C lc_RX3_39 hl.1 (Nat.le_of_ble_eq_true rfl) dX3_settle_37 ?_
  refine rmax C lc_RX3_45 hl.1 (Nat.le_of_ble_eq_true rfl) dX3_settle_40 ?_
  obtain ⟨i6, h⟩ := gi_some h
  refine stS_3 C hk hP hD hS i6 dX3_settle_43 (fun H locs hP hD hS => ?_)
  obtain rfl := so1 h
  exact retV C hP hD hS dX3_settle_44

def fX3_changeOffset (N : Nat) (g0 : Nat) (σ : St) (a1 : Int32) (a2 : Int32) : Option (Int32 × St) :=
  gk g0 σ (gi a1 6 (gi a1 6 (bd1 (fX3_settle N g0 (sA σ (16 + 4 * g0) a1.toNatClampNeg a2) a1) (fun σ5 => some ((σ.2 (16 + 4 * g0) a1.toNatClampNeg), σ5)))))
set_option maxHeartbeats 4000000 in
set_option maxRecDepth 100000 in
theorem ctX3_changeOffset {G : GP} {l : Launch} {q : Nat → Nat} (N : Nat) (g0 : Nat) (σ σ' : St) (a1 : Int32) (a2 : Int32) (r : Int32) (h : fX3_changeOffset N g0 σ a1 a2 = some (r, σ')) : CI G l yX3_changeOffset cX3_changeOffset 4 (some .int) 2 [.ref (q (22 + 5 * g0)), .int a1, .int a2] (xW G q σ) (xW G q (σ')) r := by
  refine enterI (own := RX3) (by decide) rfl (Nat.le_of_ble_eq_true rfl) ?_
  intro p e s m args below meth c A C hP hD hS ls hl
  obtain ⟨hx, hb, hml, hown, hts, hK, hZ, hA, hlk, hr⟩ := id C
  have hl : lv_has ls 4 [(0, .ref (q (22 + 5 * g0))), (1, .int a1), (2, .int a2)] := hl
  rw [fX3_changeOffset.eq_1] at h
  obtain ⟨hk, h⟩ := gk_some h
  refine lv_aload_n hx hb dX3_changeOffset_0 rfl (lv_at hl 0 rfl) ?_
  refine gs_RX3_9 C hk hP dX3_changeOffset_1 ?_
  refine lv_iload_n hx hb dX3_changeOffset_4 rfl (lv_at hl 1 rfl) ?_
  obtain ⟨i1, h⟩ := gi_some h
  refine ldS_1 C hk hP i1 dX3_changeOffset_5 ?_
  refine lv_istore_n (lv' := [(3, .int (σ.2 (16 + 4 * g0) a1.toNatClampNeg)), (0, .ref (q (22 + 5 * g0))), (1, .int a1), (2, .int a2)]) hx hb dX3_changeOffset_6 rfl hl (by decide) rfl (fun ls hl => ?_)
  refine lv_aload_n hx hb dX3_changeOffset_7 rfl (lv_at hl 1 rfl) ?_
  refine gs_RX3_9 C hk hP dX3_changeOffset_8 ?_
  refine lv_iload_n hx hb dX3_changeOffset_11 rfl (lv_at hl 2 rfl) ?_
  refine lv_iload_n hx hb dX3_changeOffset_12 rfl (lv_at hl 3 rfl) ?_
  obtain ⟨i2, h⟩ := gi_some h
  refine stS_1 C hk hP hD hS i2 dX3_changeOffset_13 (fun H locs hP hD hS => ?_)
  refine lv_aload_n hx hb dX3_changeOffset_14 rfl (lv_at hl 1 rfl) ?_
  refine lv_iload_n hx hb dX3_changeOffset_15 rfl (lv_at hl 2 rfl) ?_
  obtain ⟨σ5, h4, h⟩ := bd1_some h
  have k3 := (gk_some ((fX3_settle.eq_1 _ _ _ _).symm.trans h4)).1
  refine goV C hD hS (runV (As := [.int a1]) (rest := []) (w := (xW G q (sA σ (16 + 4 * g0) a1.toNatClampNeg a2))) C lc_RX3_29 (ctX3_settle N g0 (sA σ (16 + 4 * g0) a1.toNatClampNeg a2) σ5 a1 h4 _) hP hD hS (rcS C k3 hP) hl.1 rfl rfl (by decide) (by decide) (Nat.le_of_ble_eq_true rfl) dX3_changeOffset_16) (fun H locs hP hD hS => ?_)
  refine lv_iload_n hx hb dX3_changeOffset_19 rfl (lv_at hl 0 rfl) ?_
  obtain ⟨rfl, rfl⟩ := so2 h
  exact retI C hP hD hS dX3_changeOffset_20

def fX0_putOff (N : Nat) (σ : St) (a1 : Int32) (a2 : Int32) (a3 : Int32) : Option (Int32 × St) :=
  bd1 (fX0_find N σ a1) (fun o1 => mo o1 (some ((-2000000000), σ)) (fun k3 => bd1 (fX0_isPart N a2) (fun r5 => (if r5 = 0 then some ((-2000000000), σ) else bd1 (fX6_within N a3 (-50) 50) (fun r8 => (if r8 = 0 then some ((-2000000000), σ) else bd2 (fX3_changeOffset N k3 σ a2 a3) (fun r13 σ12 => some (r13, σ12))))))))
set_option maxHeartbeats 4000000 in
set_option maxRecDepth 100000 in
theorem ctX0_putOff {G : GP} {l : Launch} {q : Nat → Nat} (N : Nat) (σ σ' : St) (a1 : Int32) (a2 : Int32) (a3 : Int32) (r : Int32) (h : fX0_putOff N σ a1 a2 a3 = some (r, σ')) : CI G l yX0_putOff cX0_putOff 5 (some .int) 3 [.ref (q 4), .int a1, .int a2, .int a3] (xW G q σ) (xW G q (σ')) r := by
  refine enterI (own := RX0) (by decide) rfl (Nat.le_of_ble_eq_true rfl) ?_
  intro p e s m args below meth c A C hP hD hS ls hl
  obtain ⟨hx, hb, hml, hown, hts, hK, hZ, hA, hlk, hr⟩ := id C
  have hl : lv_has ls 5 [(0, .ref (q 4)), (1, .int a1), (2, .int a2), (3, .int a3)] := hl
  rw [fX0_putOff.eq_1] at h
  refine lv_aload_n hx hb dX0_putOff_0 rfl (lv_at hl 0 rfl) ?_
  refine lv_iload_n hx hb dX0_putOff_1 rfl (lv_at hl 1 rfl) ?_
  obtain ⟨o1, h2, h⟩ := bd1_some h
  refine goQ C hD hS (runV (As := [.int a1]) (rest := []) (w := (xW G q σ)) C lc_RX0_44 (ctX0_find N σ a1 o1 h2 _) hP hD hS (va_recv C.2.2.2.2.2.1 hP (ci := 0) (q0 := 4) rfl rfl) hl.1 rfl rfl (by decide) (by decide) (Nat.le_of_ble_eq_true rfl) dX0_putOff_2) (fun H locs hP hD hS => ?_)
  rcases o1 with _ | k3
  · replace h := mo_n h
    refine lv_cvv (y := .null) rfl ?_
    refine lv_astoreN (lv' := [(4, .null), (0, .ref (q 4)), (1, .int a1), (2, .int a2), (3, .int a3)]) hx hb dX0_putOff_5 hl (by decide) rfl (fun ls hl => ?_)
    refine lv_aloadN hx hb dX0_putOff_7 (lv_at hl 0 rfl) ?_
    refine lv_ifnullN (tgt := 30) hx hb dX0_putOff_9 (by decide) ?_
    refine lv_ldc hx hb hown (hts _ (List.mem_cons_of_mem _ kc_RX0_56)) dX0_putOff_30 ?_
    obtain ⟨rfl, rfl⟩ := so2 h
    exact retI C hP hD hS dX0_putOff_32
  · replace h := mo_s h
    refine lv_cvv (y := .ref (q (22 + 5 * k3))) rfl ?_
    refine lv_astore (lv' := [(4, .ref (q (22 + 5 * k3))), (0, .ref (q 4)), (1, .int a1), (2, .int a2), (3, .int a3)]) hx hb dX0_putOff_5 hl (by decide) rfl (fun ls hl => ?_)
    refine lv_aload hx hb dX0_putOff_7 (lv_at hl 0 rfl) ?_
    refine lv_ifnull hx hb dX0_putOff_9 ?_
    refine lv_iload_n hx hb dX0_putOff_12 rfl (lv_at hl 3 rfl) ?_
    obtain ⟨r5, h4, h⟩ := bd1_some h
    refine goI C hD hS (runS (As := [.int a2]) (rest := []) (w := (xW G q σ)) C lc_RX0_48 (ctX0_isPart (w := (xW G q σ)) N a2 r5 h4 _) hP hD hS hl.1 rfl rfl (by decide) (by decide) (Nat.le_of_ble_eq_true rfl) dX0_putOff_13) (fun H locs hP hD hS => ?_)
    refine lv_if_eq (tgt := 30) hx hb dX0_putOff_16 (by decide) (fun c6 => ?_) (fun c6 => ?_)
    · replace h := ifp c6 h
      refine lv_ldc hx hb hown (hts _ (List.mem_cons_of_mem _ kc_RX0_56)) dX0_putOff_30 ?_
      obtain ⟨rfl, rfl⟩ := so2 h
      exact retI C hP hD hS dX0_putOff_32
    · replace h := ifn c6 h
      refine lv_iload_n hx hb dX0_putOff_19 rfl (lv_at hl 4 rfl) ?_
      refine lv_bipush (v := (-50)) hx hb dX0_putOff_20 (by decide) ?_
      refine lv_bipush (v := 50) hx hb dX0_putOff_22 (by decide) ?_
      obtain ⟨r8, h7, h⟩ := bd1_some h
      refine goI C hD hS (runN (As := [.int a3, .int (-50), .int 50]) (rest := []) (w := (xW G q σ)) C lc_RX0_52 C.2.2.2.2.2.2.1.2.2.1.2.2.2.2.2.2.1 (ctX6_within (w := (xW G q σ)) N a3 (-50) 50 r8 h7 _) hP hD hS hl.1 rfl rfl (by decide) (by decide) (Nat.le_of_ble_eq_true rfl) dX0_putOff_24) (fun H locs hP hD hS => ?_)
      refine lv_if_ne (tgt := 33) hx hb dX0_putOff_27 (by decide) (fun c9 => ?_) (fun c9 => ?_)
      · replace h := ifn c9 h
        refine lv_aload hx hb dX0_putOff_33 (lv_at hl 0 rfl) ?_
        refine lv_iload_n hx hb dX0_putOff_35 rfl (lv_at hl 3 rfl) ?_
        refine lv_iload_n hx hb dX0_putOff_36 rfl (lv_at hl 4 rfl) ?_
        obtain ⟨r13, σ12, h11, h⟩ := bd2_some h
        have k10 := (gk_some ((fX3_changeOffset.eq_1 _ _ _ _ _).symm.trans h11)).1
        refine goI C hD hS (runV (As := [.int a2, .int a3]) (rest := []) (w := (xW G q σ)) C lc_RX0_57 (ctX3_changeOffset N k3 σ σ12 a2 a3 r13 h11 _) hP hD hS (rcS C k10 hP) hl.1 rfl rfl (by decide) (by decide) (Nat.le_of_ble_eq_true rfl) dX0_putOff_37) (fun H locs hP hD hS => ?_)
        obtain ⟨rfl, rfl⟩ := so2 h
        exact retI C hP hD hS dX0_putOff_40
      · replace h := ifp c9 h
        refine lv_ldc hx hb hown (hts _ (List.mem_cons_of_mem _ kc_RX0_56)) dX0_putOff_30 ?_
        obtain ⟨rfl, rfl⟩ := so2 h
        exact retI C hP hD hS dX0_putOff_32

def fX3_partsNow (N : Nat) (g0 : Nat) (σ : St) : Option Unit :=
  gk g0 σ (some ())
set_option maxHeartbeats 4000000 in
set_option maxRecDepth 100000 in
theorem ctX3_partsNow {G : GP} {l : Launch} {q : Nat → Nat} (N : Nat) (g0 : Nat) (σ : St) (r : Unit) (h : fX3_partsNow N g0 σ = some r) : CQ G l yX3_partsNow cX3_partsNow 1 (some (.array .int)) 0 [.ref (q (22 + 5 * g0))] (xW G q σ) (xW G q σ) (some (q (26 + 5 * g0))) := by
  refine enterQ (own := RX3) (by decide) rfl (Nat.le_of_ble_eq_true rfl) ?_
  intro p e s m args below meth c A C hP hD hS ls hl
  obtain ⟨hx, hb, hml, hown, hts, hK, hZ, hA, hlk, hr⟩ := id C
  have hl : lv_has ls 1 [(0, .ref (q (22 + 5 * g0)))] := hl
  rw [fX3_partsNow.eq_1] at h
  obtain ⟨hk, h⟩ := gk_some h
  refine lv_aload_n hx hb dX3_partsNow_0 rfl (lv_at hl 0 rfl) ?_
  refine gs_RX3_26 C hk hP dX3_partsNow_1 ?_
  exact retQ (r := some (q (26 + 5 * g0))) C (Or.inr ⟨_, rfl⟩) hP hD hS dX3_partsNow_4

def fX3_turnedBy (N : Nat) (g0 : Nat) (σ : St) (a1 : Int32) : Option Int32 :=
  gk g0 σ (gi a1 6 (some (σ.2 (17 + 4 * g0) a1.toNatClampNeg)))
set_option maxHeartbeats 4000000 in
set_option maxRecDepth 100000 in
theorem ctX3_turnedBy {G : GP} {l : Launch} {q : Nat → Nat} (N : Nat) (g0 : Nat) (σ : St) (a1 : Int32) (r : Int32) (h : fX3_turnedBy N g0 σ a1 = some r) : CI G l yX3_turnedBy cX3_turnedBy 2 (some .int) 0 [.ref (q (22 + 5 * g0)), .int a1] (xW G q σ) (xW G q σ) r := by
  refine enterI (own := RX3) (by decide) rfl (Nat.le_of_ble_eq_true rfl) ?_
  intro p e s m args below meth c A C hP hD hS ls hl
  obtain ⟨hx, hb, hml, hown, hts, hK, hZ, hA, hlk, hr⟩ := id C
  have hl : lv_has ls 2 [(0, .ref (q (22 + 5 * g0))), (1, .int a1)] := hl
  rw [fX3_turnedBy.eq_1] at h
  obtain ⟨hk, h⟩ := gk_some h
  refine lv_aload_n hx hb dX3_turnedBy_0 rfl (lv_at hl 0 rfl) ?_
  refine gs_RX3_15 C hk hP dX3_turnedBy_1 ?_
  refine lv_iload_n hx hb dX3_turnedBy_4 rfl (lv_at hl 1 rfl) ?_
  obtain ⟨i1, h⟩ := gi_some h
  refine ldS_2 C hk hP i1 dX3_turnedBy_5 ?_
  obtain rfl := so1 h
  exact retI C hP hD hS dX3_turnedBy_6

def fX0_ofPart (N : Nat) (σ : St) (a1 : Int32) (a2 : Int32) (a3 : Int32) : Option Int32 :=
  bd1 (fX0_find N σ a1) (fun o1 => mo o1 (some (-2000000000)) (fun k3 => bd1 (fX0_isPart N a2) (fun r5 => (if r5 = 0 then some (-2000000000) else bd1 (fX6_within N a3 0 1) (fun r8 => (if r8 = 0 then some (-2000000000) else (if a3 = 0 then bd1 (fX3_partsNow N k3 σ) (fun _ => gi a2 6 (some (σ.2 (gAi (some k3)) a2.toNatClampNeg))) else bd1 (fX3_turnedBy N k3 σ a2) (fun r13 => some r13))))))))
set_option maxHeartbeats 4000000 in
set_option maxRecDepth 100000 in
theorem ctX0_ofPart {G : GP} {l : Launch} {q : Nat → Nat} (N : Nat) (σ : St) (a1 : Int32) (a2 : Int32) (a3 : Int32) (r : Int32) (h : fX0_ofPart N σ a1 a2 a3 = some r) : CI G l yX0_ofPart cX0_ofPart 5 (some .int) 2 [.ref (q 4), .int a1, .int a2, .int a3] (xW G q σ) (xW G q σ) r := by
  refine enterI (own := RX0) (by decide) rfl (Nat.le_of_ble_eq_true rfl) ?_
  intro p e s m args below meth c A C hP hD hS ls hl
  obtain ⟨hx, hb, hml, hown, hts, hK, hZ, hA, hlk, hr⟩ := id C
  have hl : lv_has ls 5 [(0, .ref (q 4)), (1, .int a1), (2, .int a2), (3, .int a3)] := hl
  rw [fX0_ofPart.eq_1] at h
  refine lv_aload_n hx hb dX0_ofPart_0 rfl (lv_at hl 0 rfl) ?_
  refine lv_iload_n hx hb dX0_ofPart_1 rfl (lv_at hl 1 rfl) ?_
  obtain ⟨o1, h2, h⟩ := bd1_some h
  refine goQ C hD hS (runV (As := [.int a1]) (rest := []) (w := (xW G q σ)) C lc_RX0_44 (ctX0_find N σ a1 o1 h2 _) hP hD hS (va_recv C.2.2.2.2.2.1 hP (ci := 0) (q0 := 4) rfl rfl) hl.1 rfl rfl (by decide) (by decide) (Nat.le_of_ble_eq_true rfl) dX0_ofPart_2) (fun H locs hP hD hS => ?_)
  rcases o1 with _ | k3
  · replace h := mo_n h
    refine lv_cvv (y := .null) rfl ?_
    refine lv_astoreN (lv' := [(4, .null), (0, .ref (q 4)), (1, .int a1), (2, .int a2), (3, .int a3)]) hx hb dX0_ofPart_5 hl (by decide) rfl (fun ls hl => ?_)
    refine lv_aloadN hx hb dX0_ofPart_7 (lv_at hl 0 rfl) ?_
    refine lv_ifnullN (tgt := 28) hx hb dX0_ofPart_9 (by decide) ?_
    refine lv_ldc hx hb hown (hts _ (List.mem_cons_of_mem _ kc_RX0_56)) dX0_ofPart_28 ?_
    obtain rfl := so1 h
    exact retI C hP hD hS dX0_ofPart_30
  · replace h := mo_s h
    refine lv_cvv (y := .ref (q (22 + 5 * k3))) rfl ?_
    refine lv_astore (lv' := [(4, .ref (q (22 + 5 * k3))), (0, .ref (q 4)), (1, .int a1), (2, .int a2), (3, .int a3)]) hx hb dX0_ofPart_5 hl (by decide) rfl (fun ls hl => ?_)
    refine lv_aload hx hb dX0_ofPart_7 (lv_at hl 0 rfl) ?_
    refine lv_ifnull hx hb dX0_ofPart_9 ?_
    refine lv_iload_n hx hb dX0_ofPart_12 rfl (lv_at hl 3 rfl) ?_
    obtain ⟨r5, h4, h⟩ := bd1_some h
    refine goI C hD hS (runS (As := [.int a2]) (rest := []) (w := (xW G q σ)) C lc_RX0_48 (ctX0_isPart (w := (xW G q σ)) N a2 r5 h4 _) hP hD hS hl.1 rfl rfl (by decide) (by decide) (Nat.le_of_ble_eq_true rfl) dX0_ofPart_13) (fun H locs hP hD hS => ?_)
    refine lv_if_eq (tgt := 28) hx hb dX0_ofPart_16 (by decide) (fun c6 => ?_) (fun c6 => ?_)
    · replace h := ifp c6 h
      refine lv_ldc hx hb hown (hts _ (List.mem_cons_of_mem _ kc_RX0_56)) dX0_ofPart_28 ?_
      obtain rfl := so1 h
      exact retI C hP hD hS dX0_ofPart_30
    · replace h := ifn c6 h
      refine lv_iload_n hx hb dX0_ofPart_19 rfl (lv_at hl 4 rfl) ?_
      refine lv_iconst (v := 0) hx hb dX0_ofPart_20 (by decide) ?_
      refine lv_iconst (v := 1) hx hb dX0_ofPart_21 (by decide) ?_
      obtain ⟨r8, h7, h⟩ := bd1_some h
      refine goI C hD hS (runN (As := [.int a3, .int 0, .int 1]) (rest := []) (w := (xW G q σ)) C lc_RX0_52 C.2.2.2.2.2.2.1.2.2.1.2.2.2.2.2.2.1 (ctX6_within (w := (xW G q σ)) N a3 0 1 r8 h7 _) hP hD hS hl.1 rfl rfl (by decide) (by decide) (Nat.le_of_ble_eq_true rfl) dX0_ofPart_22) (fun H locs hP hD hS => ?_)
      refine lv_if_ne (tgt := 31) hx hb dX0_ofPart_25 (by decide) (fun c9 => ?_) (fun c9 => ?_)
      · replace h := ifn c9 h
        refine lv_iload_n hx hb dX0_ofPart_31 rfl (lv_at hl 4 rfl) ?_
        refine lv_if_ne (tgt := 45) hx hb dX0_ofPart_32 (by decide) (fun c10 => ?_) (fun c10 => ?_)
        · replace h := ifn c10 h
          refine lv_aload hx hb dX0_ofPart_45 (lv_at hl 0 rfl) ?_
          refine lv_iload_n hx hb dX0_ofPart_47 rfl (lv_at hl 3 rfl) ?_
          obtain ⟨r13, h12, h⟩ := bd1_some h
          have k11 := (gk_some ((fX3_turnedBy.eq_1 _ _ _ _).symm.trans h12)).1
          refine goI C hD hS (runV (As := [.int a2]) (rest := []) (w := (xW G q σ)) C lc_RX0_64 (ctX3_turnedBy N k3 σ a2 r13 h12 _) hP hD hS (rcS C k11 hP) hl.1 rfl rfl (by decide) (by decide) (Nat.le_of_ble_eq_true rfl) dX0_ofPart_48) (fun H locs hP hD hS => ?_)
          obtain rfl := so1 h
          exact retI C hP hD hS dX0_ofPart_51
        · replace h := ifp c10 h
          refine lv_aload hx hb dX0_ofPart_35 (lv_at hl 0 rfl) ?_
          obtain ⟨_, h14, h⟩ := bd1_some h
          have k15 : k3 < (σ.1 10).toNatClampNeg := by rw [fX3_partsNow.eq_1] at h14; exact (gk_some h14).1
          refine goQ C hD hS (runV (As := []) (rest := []) (w := (xW G q σ)) C lc_RX0_61 (ctX3_partsNow N k3 σ () h14 _) hP hD hS (rcS C k15 hP) hl.1 rfl rfl (by decide) (by decide) (Nat.le_of_ble_eq_true rfl) dX0_ofPart_37) (fun H locs hP hD hS => ?_)
          refine lv_cvv (y := .ref (q (gAd (some k3)))) rfl ?_
          refine lv_iload_n hx hb dX0_ofPart_40 rfl (lv_at hl 3 rfl) ?_
          obtain ⟨i16, h⟩ := gi_some h
          refine ldG C (fun b e => by cases e; exact k15) hP i16 dX0_ofPart_41 ?_
          refine lv_goto (tgt := 51) hx hb dX0_ofPart_42 (by decide) ?_
          obtain rfl := so1 h
          exact retI C hP hD hS dX0_ofPart_51
      · replace h := ifp c9 h
        refine lv_ldc hx hb hown (hts _ (List.mem_cons_of_mem _ kc_RX0_56)) dX0_ofPart_28 ?_
        obtain rfl := so1 h
        exact retI C hP hD hS dX0_ofPart_30

def fX3_builtMiddle (N : Nat) (g0 : Nat) (σ : St) : Option Int32 :=
  gk g0 σ (some (σ.2 (15 + 4 * g0) (5 : Int32).toNatClampNeg))
set_option maxHeartbeats 4000000 in
set_option maxRecDepth 100000 in
theorem ctX3_builtMiddle {G : GP} {l : Launch} {q : Nat → Nat} (N : Nat) (g0 : Nat) (σ : St) (r : Int32) (h : fX3_builtMiddle N g0 σ = some r) : CI G l yX3_builtMiddle cX3_builtMiddle 1 (some .int) 0 [.ref (q (22 + 5 * g0))] (xW G q σ) (xW G q σ) r := by
  refine enterI (own := RX3) (by decide) rfl (Nat.le_of_ble_eq_true rfl) ?_
  intro p e s m args below meth c A C hP hD hS ls hl
  obtain ⟨hx, hb, hml, hown, hts, hK, hZ, hA, hlk, hr⟩ := id C
  have hl : lv_has ls 1 [(0, .ref (q (22 + 5 * g0)))] := hl
  rw [fX3_builtMiddle.eq_1] at h
  obtain ⟨hk, h⟩ := gk_some h
  refine lv_aload_n hx hb dX3_builtMiddle_0 rfl (lv_at hl 0 rfl) ?_
  refine gs_RX3_23 C hk hP dX3_builtMiddle_1 ?_
  refine lv_iconst (v := 5) hx hb dX3_builtMiddle_4 (by decide) ?_
  refine ldS_0 C hk hP (vin (by decide)) dX3_builtMiddle_5 ?_
  obtain rfl := so1 h
  exact retI C hP hD hS dX3_builtMiddle_6

def fX1_isOver (N : Nat) (σ : St) : Option Int32 :=
  (if (σ.2 2 (1 : Int32).toNatClampNeg) = 1 then some 1 else some 0)
set_option maxHeartbeats 4000000 in
set_option maxRecDepth 100000 in
theorem ctX1_isOver {G : GP} {l : Launch} {q : Nat → Nat} (N : Nat) (σ : St) (r : Int32) (h : fX1_isOver N σ = some r) : CI G l yX1_isOver cX1_isOver 1 (some .boolean) 0 [.ref (q 1)] (xW G q σ) (xW G q σ) r := by
  refine enterI (own := RX1) (by decide) rfl (Nat.le_of_ble_eq_true rfl) ?_
  intro p e s m args below meth c A C hP hD hS ls hl
  obtain ⟨hx, hb, hml, hown, hts, hK, hZ, hA, hlk, hr⟩ := id C
  have hl : lv_has ls 1 [(0, .ref (q 1))] := hl
  rw [fX1_isOver.eq_1] at h
  refine lv_aload_n hx hb dX1_isOver_0 rfl (lv_at hl 0 rfl) ?_
  refine gf_RX1_18 C hP dX1_isOver_1 ?_
  refine lv_iconst (v := 1) hx hb dX1_isOver_4 (by decide) ?_
  refine ldX_2 C hP (vin (by decide)) dX1_isOver_5 ?_
  refine lv_iconst (v := 1) hx hb dX1_isOver_6 (by decide) ?_
  refine lv_icmp_ne (tgt := 14) hx hb dX1_isOver_7 (by decide) (fun c1 => ?_) (fun c1 => ?_)
  · replace h := ifn c1 h
    refine lv_iconst (v := 0) hx hb dX1_isOver_14 (by decide) ?_
    obtain rfl := so1 h
    exact retZ C hP hD hS (by decide) dX1_isOver_15
  · replace h := ifp c1 h
    refine lv_iconst (v := 1) hx hb dX1_isOver_10 (by decide) ?_
    refine lv_goto (tgt := 15) hx hb dX1_isOver_11 (by decide) ?_
    obtain rfl := so1 h
    exact retZ C hP hD hS (by decide) dX1_isOver_15

def fX5_capacityAt (N : Nat) (σ : St) (a1 : Int32) : Option Int32 :=
  some ((σ.1 6) + ((((σ.1 7) - (σ.1 6)) * a1) / 100))
set_option maxHeartbeats 4000000 in
set_option maxRecDepth 100000 in
theorem ctX5_capacityAt {G : GP} {l : Launch} {q : Nat → Nat} (N : Nat) (σ : St) (a1 : Int32) (r : Int32) (h : fX5_capacityAt N σ a1 = some r) : CI G l yX5_capacityAt cX5_capacityAt 2 (some .int) 0 [.ref (q 3), .int a1] (xW G q σ) (xW G q σ) r := by
  refine enterI (own := RX5) (by decide) rfl (Nat.le_of_ble_eq_true rfl) ?_
  intro p e s m args below meth c A C hP hD hS ls hl
  obtain ⟨hx, hb, hml, hown, hts, hK, hZ, hA, hlk, hr⟩ := id C
  have hl : lv_has ls 2 [(0, .ref (q 3)), (1, .int a1)] := hl
  rw [fX5_capacityAt.eq_1] at h
  refine lv_aload_n hx hb dX5_capacityAt_0 rfl (lv_at hl 0 rfl) ?_
  refine gf_RX5_18 C hP dX5_capacityAt_1 ?_
  refine lv_aload_n hx hb dX5_capacityAt_4 rfl (lv_at hl 0 rfl) ?_
  refine gf_RX5_22 C hP dX5_capacityAt_5 ?_
  refine lv_aload_n hx hb dX5_capacityAt_8 rfl (lv_at hl 0 rfl) ?_
  refine gf_RX5_18 C hP dX5_capacityAt_9 ?_
  refine lv_isub hx hb dX5_capacityAt_12 ?_
  refine lv_iload_n hx hb dX5_capacityAt_13 rfl (lv_at hl 1 rfl) ?_
  refine lv_imul hx hb dX5_capacityAt_14 ?_
  refine lv_bipush (v := 100) hx hb dX5_capacityAt_15 (by decide) ?_
  refine lv_idiv hx hb dX5_capacityAt_17 (by decide) ?_
  refine lv_iadd hx hb dX5_capacityAt_18 ?_
  obtain rfl := so1 h
  exact retI C hP hD hS dX5_capacityAt_19

def fX5_padded (N : Nat) (a1 : Int32) (a2 : Int32) : Option Int32 :=
  (if 1 ≤ (a1 + a2) then nz (a1 + a2) ((if 1 ≤ ((a1 * a2) / (a1 + a2)) then some ((a1 * a2) / (a1 + a2)) else some 1)) else (if (1 : Int32) ≤ 0 then some 0 else some 1))
set_option maxHeartbeats 4000000 in
set_option maxRecDepth 100000 in
theorem ctX5_padded {G : GP} {l : Launch} {w : va_W} (N : Nat) (a1 : Int32) (a2 : Int32) (r : Int32) (h : fX5_padded N a1 a2 = some r) : CI G l yX5_padded cX5_padded 4 (some .int) 0 [.int a1, .int a2] w w r := by
  refine enterI (own := RX5) (by decide) rfl (Nat.le_of_ble_eq_true rfl) ?_
  intro p e s m args below meth c A C hP hD hS ls hl
  obtain ⟨hx, hb, hml, hown, hts, hK, hZ, hA, hlk, hr⟩ := id C
  have hl : lv_has ls 4 [(0, .int a1), (1, .int a2)] := hl
  rw [fX5_padded.eq_1] at h
  refine lv_iload_n hx hb dX5_padded_0 rfl (lv_at hl 0 rfl) ?_
  refine lv_iload_n hx hb dX5_padded_1 rfl (lv_at hl 1 rfl) ?_
  refine lv_iadd hx hb dX5_padded_2 ?_
  refine lv_istore_n (lv' := [(2, .int (a1 + a2)), (0, .int a1), (1, .int a2)]) hx hb dX5_padded_3 rfl hl (by decide) rfl (fun ls hl => ?_)
  refine lv_iload_n hx hb dX5_padded_4 rfl (lv_at hl 0 rfl) ?_
  refine lv_iconst (v := 1) hx hb dX5_padded_5 (by decide) ?_
  refine lv_icmp_ge (tgt := 13) hx hb dX5_padded_6 (by decide) (fun c1 => ?_) (fun c1 => ?_)
  · replace h := ifp c1 h
    refine lv_iload_n hx hb dX5_padded_13 rfl (lv_at hl 1 rfl) ?_
    refine lv_iload_n hx hb dX5_padded_14 rfl (lv_at hl 2 rfl) ?_
    refine lv_imul hx hb dX5_padded_15 ?_
    refine lv_iload_n hx hb dX5_padded_16 rfl (lv_at hl 0 rfl) ?_
    obtain ⟨n2, h⟩ := nz_some h
    refine lv_idiv hx hb dX5_padded_17 n2 ?_
    refine lv_istore_n (lv' := [(3, .int ((a1 * a2) / (a1 + a2))), (2, .int (a1 + a2)), (0, .int a1), (1, .int a2)]) hx hb dX5_padded_18 rfl hl (by decide) rfl (fun ls hl => ?_)
    refine lv_iload_n hx hb dX5_padded_19 rfl (lv_at hl 0 rfl) ?_
    refine lv_iconst (v := 1) hx hb dX5_padded_20 (by decide) ?_
    refine lv_icmp_ge (tgt := 28) hx hb dX5_padded_21 (by decide) (fun c3 => ?_) (fun c3 => ?_)
    · replace h := ifp c3 h
      refine lv_iload_n hx hb dX5_padded_28 rfl (lv_at hl 0 rfl) ?_
      obtain rfl := so1 h
      exact retI C hP hD hS dX5_padded_29
    · replace h := ifn c3 h
      refine lv_iconst (v := 1) hx hb dX5_padded_24 (by decide) ?_
      refine lv_goto (tgt := 29) hx hb dX5_padded_25 (by decide) ?_
      obtain rfl := so1 h
      exact retI C hP hD hS dX5_padded_29
  · replace h := ifn c1 h
    refine lv_iconst (v := 0) hx hb dX5_padded_9 (by decide) ?_
    refine lv_goto (tgt := 18) hx hb dX5_padded_10 (by decide) ?_
    refine lv_istore_n (lv' := [(3, .int 0), (2, .int (a1 + a2)), (0, .int a1), (1, .int a2)]) hx hb dX5_padded_18 rfl hl (by decide) rfl (fun ls hl => ?_)
    refine lv_iload_n hx hb dX5_padded_19 rfl (lv_at hl 0 rfl) ?_
    refine lv_iconst (v := 1) hx hb dX5_padded_20 (by decide) ?_
    refine lv_icmp_ge (tgt := 28) hx hb dX5_padded_21 (by decide) (fun c4 => ?_) (fun c4 => ?_)
    · replace h := ifp c4 h
      refine lv_iload_n hx hb dX5_padded_28 rfl (lv_at hl 0 rfl) ?_
      obtain rfl := so1 h
      exact retI C hP hD hS dX5_padded_29
    · replace h := ifn c4 h
      refine lv_iconst (v := 1) hx hb dX5_padded_24 (by decide) ?_
      refine lv_goto (tgt := 29) hx hb dX5_padded_25 (by decide) ?_
      obtain rfl := so1 h
      exact retI C hP hD hS dX5_padded_29

def fX5_tunedTo_L31 (N : Nat) (v4 : Int64) : Nat → Int64 → Int64 → Option Int32
  | 0, _, _ => none
  | n + 1, v6, v8 => (if (lg_cmp v8 0) ≤ 0 then some ((v6 : Int64).toInt32) else (if 0 < (lg_cmp ((v6 + v8) * (v6 + v8)) v4) then fX5_tunedTo_L31 N v4 n v6 (v8 >>> ((1 : Int32).toInt64 &&& 63)) else fX5_tunedTo_L31 N v4 n (v6 + v8) (v8 >>> ((1 : Int32).toInt64 &&& 63))))
set_option maxHeartbeats 4000000 in
set_option maxRecDepth 100000 in
theorem wX5_tunedTo_L31 {w : va_W} (C : Cx G p s m args meth c cX5_tunedTo 12 (some .int) (Cond.code yX5_tunedTo cX5_tunedTo 12 (some .int)) RX5 A) (N : Nat) (v4 : Int64) (r : Int32) : ∀ (n : Nat) (v6 : Int64) (v8 : Int64) (H : Heap) (locs : List Loc) (ls : Array Slot), fX5_tunedTo_L31 N v4 n v6 v8 = some r → va_P G.1 vwCl w H → va_D A w → va_S A s.heap H locs → lv_has ls 12 [(4, .long v4), (6, .long v6), (8, .long v8)] → W p l e (rmD 0) s m args below meth c H locs 0 0 (QI G below args s A w r) (F0 m 31 ls []) := by
  obtain ⟨hx, hb, hml, hown, hts, hK, hZ, hA, hlk, hr⟩ := id C
  intro n
  induction n with
  | zero =>
    intro v6 v8 H locs ls h
    cases h
  | succ n ih =>
    intro v6 v8 H locs ls h hP hD hS hl
    rw [fX5_tunedTo_L31.eq_2] at h
    refine lv_lload hx hb dX5_tunedTo_31 (lv_at hl 2 rfl) ?_
    refine lv_lconst (v := 0) hx hb dX5_tunedTo_33 (by decide) ?_
    refine W.lcmp hx hb dX5_tunedTo_34 ?_
    refine lv_if_le (tgt := 69) hx hb dX5_tunedTo_35 (by decide) (fun c3 => ?_) (fun c3 => ?_)
    · replace h := ifp c3 h
      refine lv_lload hx hb dX5_tunedTo_69 (lv_at hl 1 rfl) ?_
      refine lv_l2i hx hb dX5_tunedTo_71 rfl ?_
      obtain rfl := so1 h
      exact retI C hP hD hS dX5_tunedTo_72
    · replace h := ifn c3 h
      refine lv_lload hx hb dX5_tunedTo_38 (lv_at hl 1 rfl) ?_
      refine lv_lload hx hb dX5_tunedTo_40 (lv_at hl 2 rfl) ?_
      refine lv_ladd hx hb dX5_tunedTo_42 ?_
      refine lv_lstore (lv' := [(10, .long (v6 + v8)), (4, .long v4), (6, .long v6), (8, .long v8)]) hx hb dX5_tunedTo_43 hl (by decide) rfl (fun ls hl => ?_)
      refine lv_lload hx hb dX5_tunedTo_45 (lv_at hl 0 rfl) ?_
      refine lv_lload hx hb dX5_tunedTo_47 (lv_at hl 0 rfl) ?_
      refine lv_lmul hx hb dX5_tunedTo_49 ?_
      refine lv_lload hx hb dX5_tunedTo_50 (lv_at hl 1 rfl) ?_
      refine W.lcmp hx hb dX5_tunedTo_52 ?_
      refine lv_if_gt (tgt := 60) hx hb dX5_tunedTo_53 (by decide) (fun c4 => ?_) (fun c4 => ?_)
      · replace h := ifp c4 h
        refine lv_lload hx hb dX5_tunedTo_60 (lv_at hl 3 rfl) ?_
        refine lv_iconst (v := 1) hx hb dX5_tunedTo_62 (by decide) ?_
        refine lv_lshr hx hb dX5_tunedTo_63 rfl ?_
        refine lv_lstore (lv' := [(8, .long (v8 >>> ((1 : Int32).toInt64 &&& 63))), (10, .long (v6 + v8)), (4, .long v4), (6, .long v6)]) hx hb dX5_tunedTo_64 hl (by decide) rfl (fun ls hl => ?_)
        refine lv_goto (tgt := 31) hx hb dX5_tunedTo_66 (by decide) ?_
        exact ih v6 (v8 >>> ((1 : Int32).toInt64 &&& 63)) _ _ _ h hP hD hS (lv_sub hl [2, 3, 0] rfl)
      · replace h := ifn c4 h
        refine lv_lload hx hb dX5_tunedTo_56 (lv_at hl 0 rfl) ?_
        refine lv_lstore (lv' := [(6, .long (v6 + v8)), (10, .long (v6 + v8)), (4, .long v4), (8, .long v8)]) hx hb dX5_tunedTo_58 hl (by decide) rfl (fun ls hl => ?_)
        refine lv_lload hx hb dX5_tunedTo_60 (lv_at hl 3 rfl) ?_
        refine lv_iconst (v := 1) hx hb dX5_tunedTo_62 (by decide) ?_
        refine lv_lshr hx hb dX5_tunedTo_63 rfl ?_
        refine lv_lstore (lv' := [(8, .long (v8 >>> ((1 : Int32).toInt64 &&& 63))), (6, .long (v6 + v8)), (10, .long (v6 + v8)), (4, .long v4)]) hx hb dX5_tunedTo_64 hl (by decide) rfl (fun ls hl => ?_)
        refine lv_goto (tgt := 31) hx hb dX5_tunedTo_66 (by decide) ?_
        exact ih (v6 + v8) (v8 >>> ((1 : Int32).toInt64 &&& 63)) _ _ _ h hP hD hS (lv_sub hl [3, 1, 0] rfl)

def fX5_tunedTo (N : Nat) (a1 : Int32) (a2 : Int32) : Option Int32 :=
  (if 0 ≤ (lg_cmp ((a1 : Int32).toInt64 * (a2 : Int32).toInt64) 1) then nzl ((a1 : Int32).toInt64 * (a2 : Int32).toInt64) (fX5_tunedTo_L31 N (25330296000 / ((a1 : Int32).toInt64 * (a2 : Int32).toInt64)) N 0 131072) else fX5_tunedTo_L31 N 0 N 0 131072)
set_option maxHeartbeats 4000000 in
set_option maxRecDepth 100000 in
theorem ctX5_tunedTo {G : GP} {l : Launch} {w : va_W} (N : Nat) (a1 : Int32) (a2 : Int32) (r : Int32) (h : fX5_tunedTo N a1 a2 = some r) : CI G l yX5_tunedTo cX5_tunedTo 12 (some .int) 0 [.int a1, .int a2] w w r := by
  refine enterI (own := RX5) (by decide) rfl (Nat.le_of_ble_eq_true rfl) ?_
  intro p e s m args below meth c A C hP hD hS ls hl
  obtain ⟨hx, hb, hml, hown, hts, hK, hZ, hA, hlk, hr⟩ := id C
  have hl : lv_has ls 12 [(0, .int a1), (1, .int a2)] := hl
  rw [fX5_tunedTo.eq_1] at h
  refine lv_iload_n hx hb dX5_tunedTo_0 rfl (lv_at hl 0 rfl) ?_
  refine lv_i2l hx hb dX5_tunedTo_1 rfl ?_
  refine lv_iload_n hx hb dX5_tunedTo_2 rfl (lv_at hl 1 rfl) ?_
  refine lv_i2l hx hb dX5_tunedTo_3 rfl ?_
  refine lv_lmul hx hb dX5_tunedTo_4 ?_
  refine lv_lstore_n (lv' := [(2, .long ((a1 : Int32).toInt64 * (a2 : Int32).toInt64)), (0, .int a1), (1, .int a2)]) hx hb dX5_tunedTo_5 rfl hl (by decide) rfl (fun ls hl => ?_)
  refine lv_lload_n hx hb dX5_tunedTo_6 rfl (lv_at hl 0 rfl) ?_
  refine lv_lconst (v := 1) hx hb dX5_tunedTo_7 (by decide) ?_
  refine W.lcmp hx hb dX5_tunedTo_8 ?_
  refine lv_if_ge (tgt := 16) hx hb dX5_tunedTo_9 (by decide) (fun c1 => ?_) (fun c1 => ?_)
  · replace h := ifp c1 h
    refine lv_ldc2 hx hb hown (hts _ (List.mem_cons_of_mem _ kc_RX5_107)) dX5_tunedTo_16 ?_
    refine lv_lload_n hx hb dX5_tunedTo_19 rfl (lv_at hl 0 rfl) ?_
    obtain ⟨n2, h⟩ := nzl_some h
    refine lv_ldiv hx hb dX5_tunedTo_20 n2 ?_
    refine lv_lstore (lv' := [(4, .long (25330296000 / ((a1 : Int32).toInt64 * (a2 : Int32).toInt64))), (2, .long ((a1 : Int32).toInt64 * (a2 : Int32).toInt64)), (0, .int a1), (1, .int a2)]) hx hb dX5_tunedTo_21 hl (by decide) rfl (fun ls hl => ?_)
    refine lv_lconst (v := 0) hx hb dX5_tunedTo_23 (by decide) ?_
    refine lv_lstore (lv' := [(6, .long 0), (4, .long (25330296000 / ((a1 : Int32).toInt64 * (a2 : Int32).toInt64))), (2, .long ((a1 : Int32).toInt64 * (a2 : Int32).toInt64)), (0, .int a1), (1, .int a2)]) hx hb dX5_tunedTo_24 hl (by decide) rfl (fun ls hl => ?_)
    refine lv_ldc2 hx hb hown (hts _ (List.mem_cons_of_mem _ kc_RX5_109)) dX5_tunedTo_26 ?_
    refine lv_lstore (lv' := [(8, .long 131072), (6, .long 0), (4, .long (25330296000 / ((a1 : Int32).toInt64 * (a2 : Int32).toInt64))), (2, .long ((a1 : Int32).toInt64 * (a2 : Int32).toInt64)), (0, .int a1), (1, .int a2)]) hx hb dX5_tunedTo_29 hl (by decide) rfl (fun ls hl => ?_)
    exact wX5_tunedTo_L31 C N (25330296000 / ((a1 : Int32).toInt64 * (a2 : Int32).toInt64)) r N 0 131072 _ _ _ h hP hD hS (lv_sub hl [2, 1, 0] rfl)
  · replace h := ifn c1 h
    refine lv_lconst (v := 0) hx hb dX5_tunedTo_12 (by decide) ?_
    refine lv_goto (tgt := 21) hx hb dX5_tunedTo_13 (by decide) ?_
    refine lv_lstore (lv' := [(4, .long 0), (2, .long ((a1 : Int32).toInt64 * (a2 : Int32).toInt64)), (0, .int a1), (1, .int a2)]) hx hb dX5_tunedTo_21 hl (by decide) rfl (fun ls hl => ?_)
    refine lv_lconst (v := 0) hx hb dX5_tunedTo_23 (by decide) ?_
    refine lv_lstore (lv' := [(6, .long 0), (4, .long 0), (2, .long ((a1 : Int32).toInt64 * (a2 : Int32).toInt64)), (0, .int a1), (1, .int a2)]) hx hb dX5_tunedTo_24 hl (by decide) rfl (fun ls hl => ?_)
    refine lv_ldc2 hx hb hown (hts _ (List.mem_cons_of_mem _ kc_RX5_109)) dX5_tunedTo_26 ?_
    refine lv_lstore (lv' := [(8, .long 131072), (6, .long 0), (4, .long 0), (2, .long ((a1 : Int32).toInt64 * (a2 : Int32).toInt64)), (0, .int a1), (1, .int a2)]) hx hb dX5_tunedTo_29 hl (by decide) rfl (fun ls hl => ?_)
    exact wX5_tunedTo_L31 C N 0 r N 0 131072 _ _ _ h hP hD hS (lv_sub hl [2, 1, 0] rfl)

def fX5_errorAt (N : Nat) (g : Option Nat) (σ : St) (a2 : Int32) : Option Int32 :=
  gg g σ (bd1 (fX5_capacityAt N σ a2) (fun r2 => bd1 (fX5_tunedTo N (σ.2 (gAi g) (3 : Int32).toNatClampNeg) (r2 + (σ.2 (gAi g) (0 : Int32).toNatClampNeg))) (fun r4 => bd1 (fX5_padded N (σ.2 (gAi g) (2 : Int32).toNatClampNeg) (r2 + (σ.2 (gAi g) (1 : Int32).toNatClampNeg))) (fun r6 => bd1 (fX5_tunedTo N (σ.2 (gAi g) (4 : Int32).toNatClampNeg) r6) (fun r8 => bd1 (fX1_isOver N σ ) (fun r10 => (if r10 = 0 then some ((r4 - r8) - (σ.2 (gAi g) (5 : Int32).toNatClampNeg)) else some ((r8 - r4) - (σ.2 (gAi g) (5 : Int32).toNatClampNeg)))))))))
set_option maxHeartbeats 4000000 in
set_option maxRecDepth 100000 in
theorem ctX5_errorAt {G : GP} {l : Launch} {q : Nat → Nat} (N : Nat) (g : Option Nat) (σ : St) (a2 : Int32) (r : Int32) (h : fX5_errorAt N g σ a2 = some r) : CI G l yX5_errorAt cX5_errorAt 7 (some .int) 1 [.ref (q 3), .ref (q (gAd g)), .int a2] (xW G q σ) (xW G q σ) r := by
  refine enterI (own := RX5) (by decide) rfl (Nat.le_of_ble_eq_true rfl) ?_
  intro p e s m args below meth c A C hP hD hS ls hl
  obtain ⟨hx, hb, hml, hown, hts, hK, hZ, hA, hlk, hr⟩ := id C
  have hl : lv_has ls 7 [(0, .ref (q 3)), (1, .ref (q (gAd g))), (2, .int a2)] := hl
  rw [fX5_errorAt.eq_1] at h
  obtain ⟨hg, h⟩ := gg_some h
  refine lv_aload_n hx hb dX5_errorAt_0 rfl (lv_at hl 0 rfl) ?_
  refine lv_iload_n hx hb dX5_errorAt_1 rfl (lv_at hl 2 rfl) ?_
  obtain ⟨r2, h1, h⟩ := bd1_some h
  refine goI C hD hS (runV (As := [.int a2]) (rest := []) (w := (xW G q σ)) C lc_RX5_64 (ctX5_capacityAt N σ a2 r2 h1 _) hP hD hS (va_recv C.2.2.2.2.2.1 hP (ci := 5) (q0 := 3) rfl rfl) hl.1 rfl rfl (by decide) (by decide) (Nat.le_of_ble_eq_true rfl) dX5_errorAt_2) (fun H locs hP hD hS => ?_)
  refine lv_istore_n (lv' := [(3, .int r2), (0, .ref (q 3)), (1, .ref (q (gAd g))), (2, .int a2)]) hx hb dX5_errorAt_5 rfl hl (by decide) rfl (fun ls hl => ?_)
  refine lv_aload_n hx hb dX5_errorAt_6 rfl (lv_at hl 2 rfl) ?_
  refine lv_iconst (v := 3) hx hb dX5_errorAt_7 (by decide) ?_
  refine ldG C hg hP (vin (by decide)) dX5_errorAt_8 ?_
  refine lv_iload_n hx hb dX5_errorAt_9 rfl (lv_at hl 0 rfl) ?_
  refine lv_aload_n hx hb dX5_errorAt_10 rfl (lv_at hl 2 rfl) ?_
  refine lv_iconst (v := 0) hx hb dX5_errorAt_11 (by decide) ?_
  refine ldG C hg hP (vin (by decide)) dX5_errorAt_12 ?_
  refine lv_iadd hx hb dX5_errorAt_13 ?_
  obtain ⟨r4, h3, h⟩ := bd1_some h
  refine goI C hD hS (runS (As := [.int (σ.2 (gAi g) (3 : Int32).toNatClampNeg), .int (r2 + (σ.2 (gAi g) (0 : Int32).toNatClampNeg))]) (rest := []) (w := (xW G q σ)) C lc_RX5_71 (ctX5_tunedTo (w := (xW G q σ)) N (σ.2 (gAi g) (3 : Int32).toNatClampNeg) (r2 + (σ.2 (gAi g) (0 : Int32).toNatClampNeg)) r4 h3 _) hP hD hS hl.1 rfl rfl (by decide) (by decide) (Nat.le_of_ble_eq_true rfl) dX5_errorAt_14) (fun H locs hP hD hS => ?_)
  refine lv_istore (lv' := [(4, .int r4), (3, .int r2), (0, .ref (q 3)), (1, .ref (q (gAd g))), (2, .int a2)]) hx hb dX5_errorAt_17 hl (by decide) rfl (fun ls hl => ?_)
  refine lv_aload_n hx hb dX5_errorAt_19 rfl (lv_at hl 3 rfl) ?_
  refine lv_iconst (v := 4) hx hb dX5_errorAt_20 (by decide) ?_
  refine ldG C hg hP (vin (by decide)) dX5_errorAt_21 ?_
  refine lv_aload_n hx hb dX5_errorAt_22 rfl (lv_at hl 3 rfl) ?_
  refine lv_iconst (v := 2) hx hb dX5_errorAt_23 (by decide) ?_
  refine ldG C hg hP (vin (by decide)) dX5_errorAt_24 ?_
  refine lv_iload_n hx hb dX5_errorAt_25 rfl (lv_at hl 1 rfl) ?_
  refine lv_aload_n hx hb dX5_errorAt_26 rfl (lv_at hl 3 rfl) ?_
  refine lv_iconst (v := 1) hx hb dX5_errorAt_27 (by decide) ?_
  refine ldG C hg hP (vin (by decide)) dX5_errorAt_28 ?_
  refine lv_iadd hx hb dX5_errorAt_29 ?_
  obtain ⟨r6, h5, h⟩ := bd1_some h
  refine goI C hD hS (runS (As := [.int (σ.2 (gAi g) (2 : Int32).toNatClampNeg), .int (r2 + (σ.2 (gAi g) (1 : Int32).toNatClampNeg))]) (rest := [.int (σ.2 (gAi g) (4 : Int32).toNatClampNeg)]) (w := (xW G q σ)) C lc_RX5_67 (ctX5_padded (w := (xW G q σ)) N (σ.2 (gAi g) (2 : Int32).toNatClampNeg) (r2 + (σ.2 (gAi g) (1 : Int32).toNatClampNeg)) r6 h5 _) hP hD hS hl.1 rfl rfl (by decide) (by decide) (Nat.le_of_ble_eq_true rfl) dX5_errorAt_30) (fun H locs hP hD hS => ?_)
  obtain ⟨r8, h7, h⟩ := bd1_some h
  refine goI C hD hS (runS (As := [.int (σ.2 (gAi g) (4 : Int32).toNatClampNeg), .int r6]) (rest := []) (w := (xW G q σ)) C lc_RX5_71 (ctX5_tunedTo (w := (xW G q σ)) N (σ.2 (gAi g) (4 : Int32).toNatClampNeg) r6 r8 h7 _) hP hD hS hl.1 rfl rfl (by decide) (by decide) (Nat.le_of_ble_eq_true rfl) dX5_errorAt_33) (fun H locs hP hD hS => ?_)
  refine lv_istore (lv' := [(5, .int r8), (4, .int r4), (3, .int r2), (0, .ref (q 3)), (1, .ref (q (gAd g))), (2, .int a2)]) hx hb dX5_errorAt_36 hl (by decide) rfl (fun ls hl => ?_)
  refine lv_aload_n hx hb dX5_errorAt_38 rfl (lv_at hl 3 rfl) ?_
  refine gf_RX5_40 C hP dX5_errorAt_39 ?_
  obtain ⟨r10, h9, h⟩ := bd1_some h
  refine goI C hD hS (runV (As := []) (rest := []) (w := (xW G q σ)) C lc_RX5_74 (ctX1_isOver N σ  r10 h9 _) hP hD hS (va_recv C.2.2.2.2.2.1 hP (ci := 1) (q0 := 1) rfl rfl) hl.1 rfl rfl (by decide) (by decide) (Nat.le_of_ble_eq_true rfl) dX5_errorAt_42) (fun H locs hP hD hS => ?_)
  refine lv_if_eq (tgt := 56) hx hb dX5_errorAt_45 (by decide) (fun c11 => ?_) (fun c11 => ?_)
  · replace h := ifp c11 h
    refine lv_iload hx hb dX5_errorAt_56 (lv_at hl 1 rfl) ?_
    refine lv_iload hx hb dX5_errorAt_58 (lv_at hl 0 rfl) ?_
    refine lv_isub hx hb dX5_errorAt_60 ?_
    refine lv_istore (lv' := [(6, .int (r4 - r8)), (5, .int r8), (4, .int r4), (3, .int r2), (0, .ref (q 3)), (1, .ref (q (gAd g))), (2, .int a2)]) hx hb dX5_errorAt_61 hl (by decide) rfl (fun ls hl => ?_)
    refine lv_iload hx hb dX5_errorAt_63 (lv_at hl 0 rfl) ?_
    refine lv_aload_n hx hb dX5_errorAt_65 rfl (lv_at hl 5 rfl) ?_
    refine lv_iconst (v := 5) hx hb dX5_errorAt_66 (by decide) ?_
    refine ldG C hg hP (vin (by decide)) dX5_errorAt_67 ?_
    refine lv_isub hx hb dX5_errorAt_68 ?_
    obtain rfl := so1 h
    exact retI C hP hD hS dX5_errorAt_69
  · replace h := ifn c11 h
    refine lv_iload hx hb dX5_errorAt_48 (lv_at hl 0 rfl) ?_
    refine lv_iload hx hb dX5_errorAt_50 (lv_at hl 1 rfl) ?_
    refine lv_isub hx hb dX5_errorAt_52 ?_
    refine lv_goto (tgt := 61) hx hb dX5_errorAt_53 (by decide) ?_
    refine lv_istore (lv' := [(6, .int (r8 - r4)), (5, .int r8), (4, .int r4), (3, .int r2), (0, .ref (q 3)), (1, .ref (q (gAd g))), (2, .int a2)]) hx hb dX5_errorAt_61 hl (by decide) rfl (fun ls hl => ?_)
    refine lv_iload hx hb dX5_errorAt_63 (lv_at hl 0 rfl) ?_
    refine lv_aload_n hx hb dX5_errorAt_65 rfl (lv_at hl 5 rfl) ?_
    refine lv_iconst (v := 5) hx hb dX5_errorAt_66 (by decide) ?_
    refine ldG C hg hP (vin (by decide)) dX5_errorAt_67 ?_
    refine lv_isub hx hb dX5_errorAt_68 ?_
    obtain rfl := so1 h
    exact retI C hP hD hS dX5_errorAt_69

def fX5_errorWith_L15 (N : Nat) (g : Option Nat) (σ : St) : Nat → Int32 → Int32 → Option Int32
  | 0, _, _ => none
  | n + 1, v3, v4 => (if (σ.1 8) ≤ v4 then some v3 else gi v4 5 (bd1 (fX5_errorAt N g σ (σ.2 5 v4.toNatClampNeg)) (fun r4 => fX5_errorWith_L15 N g σ n (v3 + (jabs r4)) (v4 + 1))))
set_option maxHeartbeats 4000000 in
set_option maxRecDepth 100000 in
theorem wX5_errorWith_L15 {q : Nat → Nat} (C : Cx G p s m args meth c cX5_errorWith 5 (some .int) (Cond.code yX5_errorWith cX5_errorWith 5 (some .int)) RX5 A) (N : Nat) (g : Option Nat) (σ : St) (r : Int32) : ∀ (n : Nat) (v3 : Int32) (v4 : Int32) (H : Heap) (locs : List Loc) (ls : Array Slot), fX5_errorWith_L15 N g σ n v3 v4 = some r → va_P G.1 vwCl (xW G q σ) H → va_D A (xW G q σ) → va_S A s.heap H locs → lv_has ls 5 [(0, .ref (q 3)), (1, .ref (q (gAd g))), (3, .int v3), (4, .int v4)] → W p l e (rmD 2) s m args below meth c H locs 0 0 (QI G below args s A (xW G q σ) r) (F0 m 15 ls []) := by
  obtain ⟨hx, hb, hml, hown, hts, hK, hZ, hA, hlk, hr⟩ := id C
  intro n
  induction n with
  | zero =>
    intro v3 v4 H locs ls h
    cases h
  | succ n ih =>
    intro v3 v4 H locs ls h hP hD hS hl
    rw [fX5_errorWith_L15.eq_2] at h
    refine lv_iload hx hb dX5_errorWith_15 (lv_at hl 3 rfl) ?_
    refine lv_aload_n hx hb dX5_errorWith_17 rfl (lv_at hl 0 rfl) ?_
    refine gf_RX5_25 C hP dX5_errorWith_18 ?_
    refine lv_icmp_ge (tgt := 48) hx hb dX5_errorWith_21 (by decide) (fun c1 => ?_) (fun c1 => ?_)
    · replace h := ifp c1 h
      refine lv_iload_n hx hb dX5_errorWith_48 rfl (lv_at hl 2 rfl) ?_
      obtain rfl := so1 h
      exact retI C hP hD hS dX5_errorWith_49
    · replace h := ifn c1 h
      refine lv_iload_n hx hb dX5_errorWith_24 rfl (lv_at hl 2 rfl) ?_
      refine lv_aload_n hx hb dX5_errorWith_25 rfl (lv_at hl 0 rfl) ?_
      refine lv_aload_n hx hb dX5_errorWith_26 rfl (lv_at hl 1 rfl) ?_
      refine lv_aload_n hx hb dX5_errorWith_27 rfl (lv_at hl 0 rfl) ?_
      refine gf_RX5_15 C hP dX5_errorWith_28 ?_
      refine lv_iload hx hb dX5_errorWith_31 (lv_at hl 3 rfl) ?_
      obtain ⟨i2, h⟩ := gi_some h
      refine ldX_5 C hP i2 dX5_errorWith_33 ?_
      obtain ⟨r4, h3, h⟩ := bd1_some h
      refine goI C hD hS (runV (As := [.ref (q (gAd g)), .int (σ.2 5 v4.toNatClampNeg)]) (rest := [.int v3]) (w := (xW G q σ)) C lc_RX5_83 (ctX5_errorAt N g σ (σ.2 5 v4.toNatClampNeg) r4 h3 _) hP hD hS (va_recv C.2.2.2.2.2.1 hP (ci := 5) (q0 := 3) rfl rfl) hl.1 rfl rfl (by decide) (by decide) (Nat.le_of_ble_eq_true rfl) dX5_errorWith_34) (fun H locs hP hD hS => ?_)
      refine rabs C lc_RX5_78 hl.1 (Nat.le_of_ble_eq_true rfl) dX5_errorWith_37 ?_
      refine lv_iadd hx hb dX5_errorWith_40 ?_
      refine lv_istore_n (lv' := [(3, .int (v3 + (jabs r4))), (0, .ref (q 3)), (1, .ref (q (gAd g))), (4, .int v4)]) hx hb dX5_errorWith_41 rfl hl (by decide) rfl (fun ls hl => ?_)
      refine lv_iinc (v := (v4 + 1)) (lv' := [(4, .int (v4 + 1)), (3, .int (v3 + (jabs r4))), (0, .ref (q 3)), (1, .ref (q (gAd g)))]) hx hb dX5_errorWith_42 hl (k := 3) rfl (by first | rfl | decide) (by decide) rfl (fun ls hl => ?_)
      refine lv_goto (tgt := 15) hx hb dX5_errorWith_45 (by decide) ?_
      exact ih (v3 + (jabs r4)) (v4 + 1) _ _ _ h hP hD hS (lv_sub hl [2, 3, 1, 0] rfl)

def fX5_errorWith (N : Nat) (g : Option Nat) (σ : St) (a2 : Int32) : Option Int32 :=
  gg g σ (fX5_errorWith_L15 N g σ N (10 * (jabs ((σ.2 (gAi g) (5 : Int32).toNatClampNeg) - a2))) 0)
set_option maxHeartbeats 4000000 in
set_option maxRecDepth 100000 in
theorem ctX5_errorWith {G : GP} {l : Launch} {q : Nat → Nat} (N : Nat) (g : Option Nat) (σ : St) (a2 : Int32) (r : Int32) (h : fX5_errorWith N g σ a2 = some r) : CI G l yX5_errorWith cX5_errorWith 5 (some .int) 2 [.ref (q 3), .ref (q (gAd g)), .int a2] (xW G q σ) (xW G q σ) r := by
  refine enterI (own := RX5) (by decide) rfl (Nat.le_of_ble_eq_true rfl) ?_
  intro p e s m args below meth c A C hP hD hS ls hl
  obtain ⟨hx, hb, hml, hown, hts, hK, hZ, hA, hlk, hr⟩ := id C
  have hl : lv_has ls 5 [(0, .ref (q 3)), (1, .ref (q (gAd g))), (2, .int a2)] := hl
  rw [fX5_errorWith.eq_1] at h
  obtain ⟨hg, h⟩ := gg_some h
  refine lv_bipush (v := 10) hx hb dX5_errorWith_0 (by decide) ?_
  refine lv_aload_n hx hb dX5_errorWith_2 rfl (lv_at hl 1 rfl) ?_
  refine lv_iconst (v := 5) hx hb dX5_errorWith_3 (by decide) ?_
  refine ldG C hg hP (vin (by decide)) dX5_errorWith_4 ?_
  refine lv_iload_n hx hb dX5_errorWith_5 rfl (lv_at hl 2 rfl) ?_
  refine lv_isub hx hb dX5_errorWith_6 ?_
  refine rabs C lc_RX5_78 hl.1 (Nat.le_of_ble_eq_true rfl) dX5_errorWith_7 ?_
  refine lv_imul hx hb dX5_errorWith_10 ?_
  refine lv_istore_n (lv' := [(3, .int (10 * (jabs ((σ.2 (gAi g) (5 : Int32).toNatClampNeg) - a2)))), (0, .ref (q 3)), (1, .ref (q (gAd g))), (2, .int a2)]) hx hb dX5_errorWith_11 rfl hl (by decide) rfl (fun ls hl => ?_)
  refine lv_iconst (v := 0) hx hb dX5_errorWith_12 (by decide) ?_
  refine lv_istore (lv' := [(4, .int 0), (3, .int (10 * (jabs ((σ.2 (gAi g) (5 : Int32).toNatClampNeg) - a2)))), (0, .ref (q 3)), (1, .ref (q (gAd g))), (2, .int a2)]) hx hb dX5_errorWith_13 hl (by decide) rfl (fun ls hl => ?_)
  exact wX5_errorWith_L15 C N g σ r N (10 * (jabs ((σ.2 (gAi g) (5 : Int32).toNatClampNeg) - a2))) 0 _ _ _ h hP hD hS (lv_sub hl [2, 3, 1, 0] rfl)

def fX0_errorOfNumber (N : Nat) (σ : St) (a1 : Int32) : Option Int32 :=
  bd1 (fX0_find N σ a1) (fun o1 => mo o1 (some (-1)) (fun k3 => bd1 (fX3_partsNow N k3 σ) (fun _ => bd1 (fX3_builtMiddle N k3 σ ) (fun r8 => bd1 (fX5_errorWith N (some k3) σ r8) (fun r10 => some r10)))))
set_option maxHeartbeats 4000000 in
set_option maxRecDepth 100000 in
theorem ctX0_errorOfNumber {G : GP} {l : Launch} {q : Nat → Nat} (N : Nat) (σ : St) (a1 : Int32) (r : Int32) (h : fX0_errorOfNumber N σ a1 = some r) : CI G l yX0_errorOfNumber cX0_errorOfNumber 3 (some .int) 3 [.ref (q 4), .int a1] (xW G q σ) (xW G q σ) r := by
  refine enterI (own := RX0) (by decide) rfl (Nat.le_of_ble_eq_true rfl) ?_
  intro p e s m args below meth c A C hP hD hS ls hl
  obtain ⟨hx, hb, hml, hown, hts, hK, hZ, hA, hlk, hr⟩ := id C
  have hl : lv_has ls 3 [(0, .ref (q 4)), (1, .int a1)] := hl
  rw [fX0_errorOfNumber.eq_1] at h
  refine lv_aload_n hx hb dX0_errorOfNumber_0 rfl (lv_at hl 0 rfl) ?_
  refine lv_iload_n hx hb dX0_errorOfNumber_1 rfl (lv_at hl 1 rfl) ?_
  obtain ⟨o1, h2, h⟩ := bd1_some h
  refine goQ C hD hS (runV (As := [.int a1]) (rest := []) (w := (xW G q σ)) C lc_RX0_44 (ctX0_find N σ a1 o1 h2 _) hP hD hS (va_recv C.2.2.2.2.2.1 hP (ci := 0) (q0 := 4) rfl rfl) hl.1 rfl rfl (by decide) (by decide) (Nat.le_of_ble_eq_true rfl) dX0_errorOfNumber_2) (fun H locs hP hD hS => ?_)
  rcases o1 with _ | k3
  · replace h := mo_n h
    refine lv_cvv (y := .null) rfl ?_
    refine lv_astore_nN (lv' := [(2, .null), (0, .ref (q 4)), (1, .int a1)]) hx hb dX0_errorOfNumber_5 rfl hl (by decide) rfl (fun ls hl => ?_)
    refine lv_aload_nN hx hb dX0_errorOfNumber_6 rfl (lv_at hl 0 rfl) ?_
    refine lv_ifnonnullN hx hb dX0_errorOfNumber_7 ?_
    refine lv_iconst (v := (-1)) hx hb dX0_errorOfNumber_10 (by decide) ?_
    refine lv_goto (tgt := 29) hx hb dX0_errorOfNumber_11 (by decide) ?_
    obtain rfl := so1 h
    exact retI C hP hD hS dX0_errorOfNumber_29
  · replace h := mo_s h
    refine lv_cvv (y := .ref (q (22 + 5 * k3))) rfl ?_
    refine lv_astore_n (lv' := [(2, .ref (q (22 + 5 * k3))), (0, .ref (q 4)), (1, .int a1)]) hx hb dX0_errorOfNumber_5 rfl hl (by decide) rfl (fun ls hl => ?_)
    refine lv_aload_n hx hb dX0_errorOfNumber_6 rfl (lv_at hl 0 rfl) ?_
    refine lv_ifnonnull (tgt := 14) hx hb dX0_errorOfNumber_7 (by decide) ?_
    refine lv_aload_n hx hb dX0_errorOfNumber_14 rfl (lv_at hl 1 rfl) ?_
    refine gf_RX0_31 C hP dX0_errorOfNumber_15 ?_
    refine lv_aload_n hx hb dX0_errorOfNumber_18 rfl (lv_at hl 0 rfl) ?_
    obtain ⟨_, h4, h⟩ := bd1_some h
    have k5 : k3 < (σ.1 10).toNatClampNeg := by rw [fX3_partsNow.eq_1] at h4; exact (gk_some h4).1
    refine goQ C hD hS (runV (As := []) (rest := [.ref (q 3)]) (w := (xW G q σ)) C lc_RX0_61 (ctX3_partsNow N k3 σ () h4 _) hP hD hS (rcS C k5 hP) hl.1 rfl rfl (by decide) (by decide) (Nat.le_of_ble_eq_true rfl) dX0_errorOfNumber_19) (fun H locs hP hD hS => ?_)
    refine lv_cvv (y := .ref (q (gAd (some k3)))) rfl ?_
    refine lv_aload_n hx hb dX0_errorOfNumber_22 rfl (lv_at hl 0 rfl) ?_
    obtain ⟨r8, h7, h⟩ := bd1_some h
    have k6 := (gk_some ((fX3_builtMiddle.eq_1 _ _ _).symm.trans h7)).1
    refine goI C hD hS (runV (As := []) (rest := [.ref (q (gAd (some k3))), .ref (q 3)]) (w := (xW G q σ)) C lc_RX0_68 (ctX3_builtMiddle N k3 σ  r8 h7 _) hP hD hS (rcS C k6 hP) hl.1 rfl rfl (by decide) (by decide) (Nat.le_of_ble_eq_true rfl) dX0_errorOfNumber_23) (fun H locs hP hD hS => ?_)
    obtain ⟨r10, h9, h⟩ := bd1_some h
    refine goI C hD hS (runV (As := [.ref (q (gAd (some k3))), .int r8]) (rest := []) (w := (xW G q σ)) C lc_RX0_72 (ctX5_errorWith N (some k3) σ r8 r10 h9 _) hP hD hS (va_recv C.2.2.2.2.2.1 hP (ci := 5) (q0 := 3) rfl rfl) hl.1 rfl rfl (by decide) (by decide) (Nat.le_of_ble_eq_true rfl) dX0_errorOfNumber_26) (fun H locs hP hD hS => ?_)
    obtain rfl := so1 h
    exact retI C hP hD hS dX0_errorOfNumber_29

def fX0_addLine (N : Nat) (σ : St) (a1 : Int32) (a2 : Int32) : Option (Int32 × St) :=
  bd1 (fX0_isPart N a1) (fun r2 => (if r2 = 0 then some ((-1), σ) else bd1 (fX6_within N a2 1 20) (fun r5 => (if r5 = 0 then some ((-1), σ) else (if (σ.1 11) < 8 then gi (σ.1 11) 8 (gi (σ.1 11) 8 (some (((σ.1 11) + 1), (s1 (sA (sA σ 9 (σ.1 11).toNatClampNeg a1) 10 (σ.1 11).toNatClampNeg a2) 11 ((σ.1 11) + 1))))) else some ((-2), σ))))))
set_option maxHeartbeats 4000000 in
set_option maxRecDepth 100000 in
theorem ctX0_addLine {G : GP} {l : Launch} {q : Nat → Nat} (N : Nat) (σ σ' : St) (a1 : Int32) (a2 : Int32) (r : Int32) (h : fX0_addLine N σ a1 a2 = some (r, σ')) : CI G l yX0_addLine cX0_addLine 3 (some .int) 2 [.ref (q 4), .int a1, .int a2] (xW G q σ) (xW G q (σ')) r := by
  refine enterI (own := RX0) (by decide) rfl (Nat.le_of_ble_eq_true rfl) ?_
  intro p e s m args below meth c A C hP hD hS ls hl
  obtain ⟨hx, hb, hml, hown, hts, hK, hZ, hA, hlk, hr⟩ := id C
  have hl : lv_has ls 3 [(0, .ref (q 4)), (1, .int a1), (2, .int a2)] := hl
  rw [fX0_addLine.eq_1] at h
  refine lv_iload_n hx hb dX0_addLine_0 rfl (lv_at hl 1 rfl) ?_
  obtain ⟨r2, h1, h⟩ := bd1_some h
  refine goI C hD hS (runS (As := [.int a1]) (rest := []) (w := (xW G q σ)) C lc_RX0_48 (ctX0_isPart (w := (xW G q σ)) N a1 r2 h1 _) hP hD hS hl.1 rfl rfl (by decide) (by decide) (Nat.le_of_ble_eq_true rfl) dX0_addLine_1) (fun H locs hP hD hS => ?_)
  refine lv_if_eq (tgt := 17) hx hb dX0_addLine_4 (by decide) (fun c3 => ?_) (fun c3 => ?_)
  · replace h := ifp c3 h
    refine lv_iconst (v := (-1)) hx hb dX0_addLine_17 (by decide) ?_
    obtain ⟨rfl, rfl⟩ := so2 h
    exact retI C hP hD hS dX0_addLine_18
  · replace h := ifn c3 h
    refine lv_iload_n hx hb dX0_addLine_7 rfl (lv_at hl 2 rfl) ?_
    refine lv_iconst (v := 1) hx hb dX0_addLine_8 (by decide) ?_
    refine lv_bipush (v := 20) hx hb dX0_addLine_9 (by decide) ?_
    obtain ⟨r5, h4, h⟩ := bd1_some h
    refine goI C hD hS (runN (As := [.int a2, .int 1, .int 20]) (rest := []) (w := (xW G q σ)) C lc_RX0_52 C.2.2.2.2.2.2.1.2.2.1.2.2.2.2.2.2.1 (ctX6_within (w := (xW G q σ)) N a2 1 20 r5 h4 _) hP hD hS hl.1 rfl rfl (by decide) (by decide) (Nat.le_of_ble_eq_true rfl) dX0_addLine_11) (fun H locs hP hD hS => ?_)
    refine lv_if_ne (tgt := 19) hx hb dX0_addLine_14 (by decide) (fun c6 => ?_) (fun c6 => ?_)
    · replace h := ifn c6 h
      refine lv_aload_n hx hb dX0_addLine_19 rfl (lv_at hl 0 rfl) ?_
      refine gf_RX0_28 C hP dX0_addLine_20 ?_
      refine lv_bipush (v := 8) hx hb dX0_addLine_23 (by decide) ?_
      refine lv_icmp_lt (tgt := 31) hx hb dX0_addLine_25 (by decide) (fun c7 => ?_) (fun c7 => ?_)
      · replace h := ifp c7 h
        refine lv_aload_n hx hb dX0_addLine_31 rfl (lv_at hl 0 rfl) ?_
        refine gf_RX0_17 C hP dX0_addLine_32 ?_
        refine lv_aload_n hx hb dX0_addLine_35 rfl (lv_at hl 0 rfl) ?_
        refine gf_RX0_28 C hP dX0_addLine_36 ?_
        refine lv_iload_n hx hb dX0_addLine_39 rfl (lv_at hl 1 rfl) ?_
        obtain ⟨i8, h⟩ := gi_some h
        refine stX_9 C hP hD hS i8 dX0_addLine_40 (fun H locs hP hD hS => ?_)
        refine lv_aload_n hx hb dX0_addLine_41 rfl (lv_at hl 0 rfl) ?_
        refine gf_RX0_21 C hP dX0_addLine_42 ?_
        refine lv_aload_n hx hb dX0_addLine_45 rfl (lv_at hl 0 rfl) ?_
        refine gf_RX0_28 C hP dX0_addLine_46 ?_
        refine lv_cv (y := (σ.1 11)) rfl ?_
        refine lv_iload_n hx hb dX0_addLine_49 rfl (lv_at hl 2 rfl) ?_
        obtain ⟨i9, h⟩ := gi_some h
        refine stX_10 C hP hD hS i9 dX0_addLine_50 (fun H locs hP hD hS => ?_)
        refine lv_aload_n hx hb dX0_addLine_51 rfl (lv_at hl 0 rfl) ?_
        refine lv_dup hx hb dX0_addLine_52 rfl ?_
        refine gf_RX0_28 C hP dX0_addLine_53 ?_
        refine lv_cv (y := (σ.1 11)) rfl ?_
        refine lv_iconst (v := 1) hx hb dX0_addLine_56 (by decide) ?_
        refine lv_iadd hx hb dX0_addLine_57 ?_
        refine pf_RX0_28 C hP hD hS dX0_addLine_58 (fun H locs hP hD hS => ?_)
        refine lv_aload_n hx hb dX0_addLine_61 rfl (lv_at hl 0 rfl) ?_
        refine gf_RX0_28 C hP dX0_addLine_62 ?_
        refine lv_cv (y := ((σ.1 11) + 1)) rfl ?_
        obtain ⟨rfl, rfl⟩ := so2 h
        exact retI C hP hD hS dX0_addLine_65
      · replace h := ifn c7 h
        refine lv_bipush (v := (-2)) hx hb dX0_addLine_28 (by decide) ?_
        obtain ⟨rfl, rfl⟩ := so2 h
        exact retI C hP hD hS dX0_addLine_30
    · replace h := ifp c6 h
      refine lv_iconst (v := (-1)) hx hb dX0_addLine_17 (by decide) ?_
      obtain ⟨rfl, rfl⟩ := so2 h
      exact retI C hP hD hS dX0_addLine_18

def fX3_turn (N : Nat) (g0 : Nat) (σ : St) (a1 : Int32) (a2 : Int32) : Option St :=
  gk g0 σ (gi a1 6 (gi a1 6 (bd1 (fX3_settle N g0 (sA σ (17 + 4 * g0) a1.toNatClampNeg ((σ.2 (17 + 4 * g0) a1.toNatClampNeg) + a2)) a1) (fun σ5 => some σ5))))
set_option maxHeartbeats 4000000 in
set_option maxRecDepth 100000 in
theorem ctX3_turn {G : GP} {l : Launch} {q : Nat → Nat} (N : Nat) (g0 : Nat) (σ σ' : St) (a1 : Int32) (a2 : Int32) (h : fX3_turn N g0 σ a1 a2 = some σ') : CV G l yX3_turn cX3_turn 3 none 2 [.ref (q (22 + 5 * g0)), .int a1, .int a2] (xW G q σ) (xW G q (σ')) := by
  refine enterV (own := RX3) (by decide) rfl (Nat.le_of_ble_eq_true rfl) ?_
  intro p e s m args below meth c A C hP hD hS ls hl
  obtain ⟨hx, hb, hml, hown, hts, hK, hZ, hA, hlk, hr⟩ := id C
  have hl : lv_has ls 3 [(0, .ref (q (22 + 5 * g0))), (1, .int a1), (2, .int a2)] := hl
  rw [fX3_turn.eq_1] at h
  obtain ⟨hk, h⟩ := gk_some h
  refine lv_aload_n hx hb dX3_turn_0 rfl (lv_at hl 0 rfl) ?_
  refine gs_RX3_15 C hk hP dX3_turn_1 ?_
  refine lv_iload_n hx hb dX3_turn_4 rfl (lv_at hl 1 rfl) ?_
  refine lv_dup2_11 hx hb dX3_turn_5 rfl rfl ?_
  obtain ⟨i1, h⟩ := gi_some h
  refine ldS_2 C hk hP i1 dX3_turn_6 ?_
  refine lv_iload_n hx hb dX3_turn_7 rfl (lv_at hl 2 rfl) ?_
  refine lv_iadd hx hb dX3_turn_8 ?_
  obtain ⟨i2, h⟩ := gi_some h
  refine stS_2 C hk hP hD hS i2 dX3_turn_9 (fun H locs hP hD hS => ?_)
  refine lv_aload_n hx hb dX3_turn_10 rfl (lv_at hl 0 rfl) ?_
  refine lv_iload_n hx hb dX3_turn_11 rfl (lv_at hl 1 rfl) ?_
  obtain ⟨σ5, h4, h⟩ := bd1_some h
  have k3 := (gk_some ((fX3_settle.eq_1 _ _ _ _).symm.trans h4)).1
  refine goV C hD hS (runV (As := [.int a1]) (rest := []) (w := (xW G q (sA σ (17 + 4 * g0) a1.toNatClampNeg ((σ.2 (17 + 4 * g0) a1.toNatClampNeg) + a2)))) C lc_RX3_29 (ctX3_settle N g0 (sA σ (17 + 4 * g0) a1.toNatClampNeg ((σ.2 (17 + 4 * g0) a1.toNatClampNeg) + a2)) σ5 a1 h4 _) hP hD hS (rcS C k3 hP) hl.1 rfl rfl (by decide) (by decide) (Nat.le_of_ble_eq_true rfl) dX3_turn_12) (fun H locs hP hD hS => ?_)
  obtain rfl := so1 h
  exact retV C hP hD hS dX3_turn_15

def fX0_turnWhileLess_L20 (N : Nat) (g0 : Nat) (v2 : Int32) (v3 : Int32) : Nat → Int32 → Int32 → St → Option (Int32 × St)
  | 0, _, _, _ => none
  | n + 1, v4, v5, σ => (if 30 ≤ v5 then some (30, σ) else bd1 (fX3_turn N g0 σ v2 v3) (fun σ11 => bd1 (fX3_partsNow N g0 σ11) (fun _ => bd1 (fX3_builtMiddle N g0 σ11 ) (fun r16 => bd1 (fX5_errorWith N (some g0) σ11 r16) (fun r18 => (if r18 < v4 then fX0_turnWhileLess_L20 N g0 v2 v3 n r18 (v5 + 1) σ11 else bd1 (fX3_turn N g0 σ11 v2 (-v3)) (fun σ22 => some (v5, σ22))))))))
set_option maxHeartbeats 4000000 in
set_option maxRecDepth 100000 in
theorem wX0_turnWhileLess_L20 {q : Nat → Nat} (C : Cx G p s m args meth c cX0_turnWhileLess 7 (some .int) (Cond.code yX0_turnWhileLess cX0_turnWhileLess 7 (some .int)) RX0 A) (N : Nat) (g0 : Nat) (v2 : Int32) (v3 : Int32) (r : Int32) (σ' : St) : ∀ (n : Nat) (v4 : Int32) (v5 : Int32) (σ : St) (H : Heap) (locs : List Loc) (ls : Array Slot), fX0_turnWhileLess_L20 N g0 v2 v3 n v4 v5 σ = some (r, σ') → va_P G.1 vwCl (xW G q σ) H → va_D A (xW G q σ) → va_S A s.heap H locs → lv_has ls 7 [(0, .ref (q 4)), (1, .ref (q (22 + 5 * g0))), (2, .int v2), (3, .int v3), (4, .int v4), (5, .int v5)] → W p l e (rmD 3) s m args below meth c H locs 0 0 (QI G below args s A (xW G q (σ')) r) (F0 m 20 ls []) := by
  obtain ⟨hx, hb, hml, hown, hts, hK, hZ, hA, hlk, hr⟩ := id C
  intro n
  induction n with
  | zero =>
    intro v4 v5 σ H locs ls h
    cases h
  | succ n ih =>
    intro v4 v5 σ H locs ls h hP hD hS hl
    rw [fX0_turnWhileLess_L20.eq_2] at h
    refine lv_iload hx hb dX0_turnWhileLess_20 (lv_at hl 5 rfl) ?_
    refine lv_bipush (v := 30) hx hb dX0_turnWhileLess_22 (by decide) ?_
    refine lv_icmp_ge (tgt := 77) hx hb dX0_turnWhileLess_24 (by decide) (fun c8 => ?_) (fun c8 => ?_)
    · replace h := ifp c8 h
      refine lv_bipush (v := 30) hx hb dX0_turnWhileLess_77 (by decide) ?_
      obtain ⟨rfl, rfl⟩ := so2 h
      exact retI C hP hD hS dX0_turnWhileLess_79
    · replace h := ifn c8 h
      refine lv_aload_n hx hb dX0_turnWhileLess_27 rfl (lv_at hl 1 rfl) ?_
      refine lv_iload_n hx hb dX0_turnWhileLess_28 rfl (lv_at hl 2 rfl) ?_
      refine lv_iload_n hx hb dX0_turnWhileLess_29 rfl (lv_at hl 3 rfl) ?_
      obtain ⟨σ11, h10, h⟩ := bd1_some h
      have k9 := (gk_some ((fX3_turn.eq_1 _ _ _ _ _).symm.trans h10)).1
      refine goV C hD hS (runV (As := [.int v2, .int v3]) (rest := []) (w := (xW G q σ)) C lc_RX0_84 (ctX3_turn N g0 σ σ11 v2 v3 h10 _) hP hD hS (rcS C k9 hP) hl.1 rfl rfl (by decide) (by decide) (Nat.le_of_ble_eq_true rfl) dX0_turnWhileLess_30) (fun H locs hP hD hS => ?_)
      refine lv_aload_n hx hb dX0_turnWhileLess_33 rfl (lv_at hl 0 rfl) ?_
      refine gf_RX0_31 C hP dX0_turnWhileLess_34 ?_
      refine lv_aload_n hx hb dX0_turnWhileLess_37 rfl (lv_at hl 1 rfl) ?_
      obtain ⟨_, h12, h⟩ := bd1_some h
      have k13 : g0 < (σ11.1 10).toNatClampNeg := by rw [fX3_partsNow.eq_1] at h12; exact (gk_some h12).1
      refine goQ C hD hS (runV (As := []) (rest := [.ref (q 3)]) (w := (xW G q σ11)) C lc_RX0_61 (ctX3_partsNow N g0 σ11 () h12 _) hP hD hS (rcS C k13 hP) hl.1 rfl rfl (by decide) (by decide) (Nat.le_of_ble_eq_true rfl) dX0_turnWhileLess_38) (fun H locs hP hD hS => ?_)
      refine lv_cvv (y := .ref (q (gAd (some g0)))) rfl ?_
      refine lv_aload_n hx hb dX0_turnWhileLess_41 rfl (lv_at hl 1 rfl) ?_
      obtain ⟨r16, h15, h⟩ := bd1_some h
      have k14 := (gk_some ((fX3_builtMiddle.eq_1 _ _ _).symm.trans h15)).1
      refine goI C hD hS (runV (As := []) (rest := [.ref (q (gAd (some g0))), .ref (q 3)]) (w := (xW G q σ11)) C lc_RX0_68 (ctX3_builtMiddle N g0 σ11  r16 h15 _) hP hD hS (rcS C k14 hP) hl.1 rfl rfl (by decide) (by decide) (Nat.le_of_ble_eq_true rfl) dX0_turnWhileLess_42) (fun H locs hP hD hS => ?_)
      obtain ⟨r18, h17, h⟩ := bd1_some h
      refine goI C hD hS (runV (As := [.ref (q (gAd (some g0))), .int r16]) (rest := []) (w := (xW G q σ11)) C lc_RX0_72 (ctX5_errorWith N (some g0) σ11 r16 r18 h17 _) hP hD hS (va_recv C.2.2.2.2.2.1 hP (ci := 5) (q0 := 3) rfl rfl) hl.1 rfl rfl (by decide) (by decide) (Nat.le_of_ble_eq_true rfl) dX0_turnWhileLess_45) (fun H locs hP hD hS => ?_)
      refine lv_istore (lv' := [(6, .int r18), (0, .ref (q 4)), (1, .ref (q (22 + 5 * g0))), (2, .int v2), (3, .int v3), (4, .int v4), (5, .int v5)]) hx hb dX0_turnWhileLess_48 hl (by decide) rfl (fun ls hl => ?_)
      refine lv_iload hx hb dX0_turnWhileLess_50 (lv_at hl 0 rfl) ?_
      refine lv_iload hx hb dX0_turnWhileLess_52 (lv_at hl 5 rfl) ?_
      refine lv_icmp_lt (tgt := 67) hx hb dX0_turnWhileLess_54 (by decide) (fun c19 => ?_) (fun c19 => ?_)
      · replace h := ifp c19 h
        refine lv_iload hx hb dX0_turnWhileLess_67 (lv_at hl 0 rfl) ?_
        refine lv_istore (lv' := [(4, .int r18), (6, .int r18), (0, .ref (q 4)), (1, .ref (q (22 + 5 * g0))), (2, .int v2), (3, .int v3), (5, .int v5)]) hx hb dX0_turnWhileLess_69 hl (by decide) rfl (fun ls hl => ?_)
        refine lv_iinc (v := (v5 + 1)) (lv' := [(5, .int (v5 + 1)), (4, .int r18), (6, .int r18), (0, .ref (q 4)), (1, .ref (q (22 + 5 * g0))), (2, .int v2), (3, .int v3)]) hx hb dX0_turnWhileLess_71 hl (k := 6) rfl (by first | rfl | decide) (by decide) rfl (fun ls hl => ?_)
        refine lv_goto (tgt := 20) hx hb dX0_turnWhileLess_74 (by decide) ?_
        exact ih r18 (v5 + 1) σ11 _ _ _ h hP hD hS (lv_sub hl [3, 4, 5, 6, 1, 0] rfl)
      · replace h := ifn c19 h
        refine lv_aload_n hx hb dX0_turnWhileLess_57 rfl (lv_at hl 2 rfl) ?_
        refine lv_iload_n hx hb dX0_turnWhileLess_58 rfl (lv_at hl 3 rfl) ?_
        refine lv_iload_n hx hb dX0_turnWhileLess_59 rfl (lv_at hl 4 rfl) ?_
        refine lv_ineg hx hb dX0_turnWhileLess_60 ?_
        obtain ⟨σ22, h21, h⟩ := bd1_some h
        have k20 := (gk_some ((fX3_turn.eq_1 _ _ _ _ _).symm.trans h21)).1
        refine goV C hD hS (runV (As := [.int v2, .int (-v3)]) (rest := []) (w := (xW G q σ11)) C lc_RX0_84 (ctX3_turn N g0 σ11 σ22 v2 (-v3) h21 _) hP hD hS (rcS C k20 hP) hl.1 rfl rfl (by decide) (by decide) (Nat.le_of_ble_eq_true rfl) dX0_turnWhileLess_61) (fun H locs hP hD hS => ?_)
        refine lv_iload hx hb dX0_turnWhileLess_64 (lv_at hl 6 rfl) ?_
        obtain ⟨rfl, rfl⟩ := so2 h
        exact retI C hP hD hS dX0_turnWhileLess_66

def fX0_turnWhileLess (N : Nat) (g0 : Nat) (σ : St) (a2 : Int32) (a3 : Int32) : Option (Int32 × St) :=
  bd1 (fX3_partsNow N g0 σ) (fun _ => bd1 (fX3_builtMiddle N g0 σ ) (fun r5 => bd1 (fX5_errorWith N (some g0) σ r5) (fun r7 => fX0_turnWhileLess_L20 N g0 a2 a3 N r7 0 σ)))
set_option maxHeartbeats 4000000 in
set_option maxRecDepth 100000 in
theorem ctX0_turnWhileLess {G : GP} {l : Launch} {q : Nat → Nat} (N : Nat) (g0 : Nat) (σ σ' : St) (a2 : Int32) (a3 : Int32) (r : Int32) (h : fX0_turnWhileLess N g0 σ a2 a3 = some (r, σ')) : CI G l yX0_turnWhileLess cX0_turnWhileLess 7 (some .int) 3 [.ref (q 4), .ref (q (22 + 5 * g0)), .int a2, .int a3] (xW G q σ) (xW G q (σ')) r := by
  refine enterI (own := RX0) (by decide) rfl (Nat.le_of_ble_eq_true rfl) ?_
  intro p e s m args below meth c A C hP hD hS ls hl
  obtain ⟨hx, hb, hml, hown, hts, hK, hZ, hA, hlk, hr⟩ := id C
  have hl : lv_has ls 7 [(0, .ref (q 4)), (1, .ref (q (22 + 5 * g0))), (2, .int a2), (3, .int a3)] := hl
  rw [fX0_turnWhileLess.eq_1] at h
  refine lv_aload_n hx hb dX0_turnWhileLess_0 rfl (lv_at hl 0 rfl) ?_
  refine gf_RX0_31 C hP dX0_turnWhileLess_1 ?_
  refine lv_aload_n hx hb dX0_turnWhileLess_4 rfl (lv_at hl 1 rfl) ?_
  obtain ⟨_, h1, h⟩ := bd1_some h
  have k2 : g0 < (σ.1 10).toNatClampNeg := by rw [fX3_partsNow.eq_1] at h1; exact (gk_some h1).1
  refine goQ C hD hS (runV (As := []) (rest := [.ref (q 3)]) (w := (xW G q σ)) C lc_RX0_61 (ctX3_partsNow N g0 σ () h1 _) hP hD hS (rcS C k2 hP) hl.1 rfl rfl (by decide) (by decide) (Nat.le_of_ble_eq_true rfl) dX0_turnWhileLess_5) (fun H locs hP hD hS => ?_)
  refine lv_cvv (y := .ref (q (gAd (some g0)))) rfl ?_
  refine lv_aload_n hx hb dX0_turnWhileLess_8 rfl (lv_at hl 1 rfl) ?_
  obtain ⟨r5, h4, h⟩ := bd1_some h
  have k3 := (gk_some ((fX3_builtMiddle.eq_1 _ _ _).symm.trans h4)).1
  refine goI C hD hS (runV (As := []) (rest := [.ref (q (gAd (some g0))), .ref (q 3)]) (w := (xW G q σ)) C lc_RX0_68 (ctX3_builtMiddle N g0 σ  r5 h4 _) hP hD hS (rcS C k3 hP) hl.1 rfl rfl (by decide) (by decide) (Nat.le_of_ble_eq_true rfl) dX0_turnWhileLess_9) (fun H locs hP hD hS => ?_)
  obtain ⟨r7, h6, h⟩ := bd1_some h
  refine goI C hD hS (runV (As := [.ref (q (gAd (some g0))), .int r5]) (rest := []) (w := (xW G q σ)) C lc_RX0_72 (ctX5_errorWith N (some g0) σ r5 r7 h6 _) hP hD hS (va_recv C.2.2.2.2.2.1 hP (ci := 5) (q0 := 3) rfl rfl) hl.1 rfl rfl (by decide) (by decide) (Nat.le_of_ble_eq_true rfl) dX0_turnWhileLess_12) (fun H locs hP hD hS => ?_)
  refine lv_istore (lv' := [(4, .int r7), (0, .ref (q 4)), (1, .ref (q (22 + 5 * g0))), (2, .int a2), (3, .int a3)]) hx hb dX0_turnWhileLess_15 hl (by decide) rfl (fun ls hl => ?_)
  refine lv_iconst (v := 0) hx hb dX0_turnWhileLess_17 (by decide) ?_
  refine lv_istore (lv' := [(5, .int 0), (4, .int r7), (0, .ref (q 4)), (1, .ref (q (22 + 5 * g0))), (2, .int a2), (3, .int a3)]) hx hb dX0_turnWhileLess_18 hl (by decide) rfl (fun ls hl => ?_)
  exact wX0_turnWhileLess_L20 C N g0 a2 a3 r σ' N r7 0 σ _ _ _ h hP hD hS (lv_sub hl [2, 3, 4, 5, 1, 0] rfl)

def fX0_turnByLines_L4 (N : Nat) (g0 : Nat) : Nat → Int32 → Int32 → St → Option (Int32 × St)
  | 0, _, _, _ => none
  | n + 1, v2, v3, σ => (if (σ.1 11) ≤ v3 then some (v2, σ) else gi v3 8 (gi v3 8 (bd2 (fX0_turnWhileLess N g0 σ (σ.2 9 v3.toNatClampNeg) (σ.2 10 v3.toNatClampNeg)) (fun r6 σ5 => (if r6 = 0 then gi v3 8 (gi v3 8 (bd2 (fX0_turnWhileLess N g0 σ5 (σ5.2 9 v3.toNatClampNeg) (-(σ5.2 10 v3.toNatClampNeg))) (fun r12 σ11 => fX0_turnByLines_L4 N g0 n (v2 + r12) (v3 + 1) σ11))) else fX0_turnByLines_L4 N g0 n (v2 + r6) (v3 + 1) σ5)))))
set_option maxHeartbeats 4000000 in
set_option maxRecDepth 100000 in
theorem wX0_turnByLines_L4 {q : Nat → Nat} (C : Cx G p s m args meth c cX0_turnByLines 5 (some .int) (Cond.code yX0_turnByLines cX0_turnByLines 5 (some .int)) RX0 A) (N : Nat) (g0 : Nat) (r : Int32) (σ' : St) : ∀ (n : Nat) (v2 : Int32) (v3 : Int32) (σ : St) (H : Heap) (locs : List Loc) (ls : Array Slot), fX0_turnByLines_L4 N g0 n v2 v3 σ = some (r, σ') → va_P G.1 vwCl (xW G q σ) H → va_D A (xW G q σ) → va_S A s.heap H locs → lv_has ls 5 [(0, .ref (q 4)), (1, .ref (q (22 + 5 * g0))), (2, .int v2), (3, .int v3)] → W p l e (rmD 4) s m args below meth c H locs 0 0 (QI G below args s A (xW G q (σ')) r) (F0 m 4 ls []) := by
  obtain ⟨hx, hb, hml, hown, hts, hK, hZ, hA, hlk, hr⟩ := id C
  intro n
  induction n with
  | zero =>
    intro v2 v3 σ H locs ls h
    cases h
  | succ n ih =>
    intro v2 v3 σ H locs ls h hP hD hS hl
    rw [fX0_turnByLines_L4.eq_2] at h
    refine lv_iload_n hx hb dX0_turnByLines_4 rfl (lv_at hl 3 rfl) ?_
    refine lv_aload_n hx hb dX0_turnByLines_5 rfl (lv_at hl 0 rfl) ?_
    refine gf_RX0_28 C hP dX0_turnByLines_6 ?_
    refine lv_icmp_ge (tgt := 67) hx hb dX0_turnByLines_9 (by decide) (fun c1 => ?_) (fun c1 => ?_)
    · replace h := ifp c1 h
      refine lv_iload_n hx hb dX0_turnByLines_67 rfl (lv_at hl 2 rfl) ?_
      obtain ⟨rfl, rfl⟩ := so2 h
      exact retI C hP hD hS dX0_turnByLines_68
    · replace h := ifn c1 h
      refine lv_aload_n hx hb dX0_turnByLines_12 rfl (lv_at hl 0 rfl) ?_
      refine lv_aload_n hx hb dX0_turnByLines_13 rfl (lv_at hl 1 rfl) ?_
      refine lv_aload_n hx hb dX0_turnByLines_14 rfl (lv_at hl 0 rfl) ?_
      refine gf_RX0_17 C hP dX0_turnByLines_15 ?_
      refine lv_iload_n hx hb dX0_turnByLines_18 rfl (lv_at hl 3 rfl) ?_
      obtain ⟨i2, h⟩ := gi_some h
      refine ldX_9 C hP i2 dX0_turnByLines_19 ?_
      refine lv_aload_n hx hb dX0_turnByLines_20 rfl (lv_at hl 0 rfl) ?_
      refine gf_RX0_21 C hP dX0_turnByLines_21 ?_
      refine lv_iload_n hx hb dX0_turnByLines_24 rfl (lv_at hl 3 rfl) ?_
      obtain ⟨i3, h⟩ := gi_some h
      refine ldX_10 C hP i3 dX0_turnByLines_25 ?_
      obtain ⟨r6, σ5, h4, h⟩ := bd2_some h
      refine goI C hD hS (runV (As := [.ref (q (22 + 5 * g0)), .int (σ.2 9 v3.toNatClampNeg), .int (σ.2 10 v3.toNatClampNeg)]) (rest := []) (w := (xW G q σ)) C lc_RX0_80 (ctX0_turnWhileLess N g0 σ σ5 (σ.2 9 v3.toNatClampNeg) (σ.2 10 v3.toNatClampNeg) r6 h4 _) hP hD hS (va_recv C.2.2.2.2.2.1 hP (ci := 0) (q0 := 4) rfl rfl) hl.1 rfl rfl (by decide) (by decide) (Nat.le_of_ble_eq_true rfl) dX0_turnByLines_26) (fun H locs hP hD hS => ?_)
      refine lv_istore (lv' := [(4, .int r6), (0, .ref (q 4)), (1, .ref (q (22 + 5 * g0))), (2, .int v2), (3, .int v3)]) hx hb dX0_turnByLines_29 hl (by decide) rfl (fun ls hl => ?_)
      refine lv_iload hx hb dX0_turnByLines_31 (lv_at hl 0 rfl) ?_
      refine lv_if_ne (tgt := 56) hx hb dX0_turnByLines_33 (by decide) (fun c7 => ?_) (fun c7 => ?_)
      · replace h := ifn c7 h
        refine lv_iload_n hx hb dX0_turnByLines_56 rfl (lv_at hl 3 rfl) ?_
        refine lv_iload hx hb dX0_turnByLines_57 (lv_at hl 0 rfl) ?_
        refine lv_iadd hx hb dX0_turnByLines_59 ?_
        refine lv_istore_n (lv' := [(2, .int (v2 + r6)), (4, .int r6), (0, .ref (q 4)), (1, .ref (q (22 + 5 * g0))), (3, .int v3)]) hx hb dX0_turnByLines_60 rfl hl (by decide) rfl (fun ls hl => ?_)
        refine lv_iinc (v := (v3 + 1)) (lv' := [(3, .int (v3 + 1)), (2, .int (v2 + r6)), (4, .int r6), (0, .ref (q 4)), (1, .ref (q (22 + 5 * g0)))]) hx hb dX0_turnByLines_61 hl (k := 4) rfl (by first | rfl | decide) (by decide) rfl (fun ls hl => ?_)
        refine lv_goto (tgt := 4) hx hb dX0_turnByLines_64 (by decide) ?_
        exact ih (v2 + r6) (v3 + 1) σ5 _ _ _ h hP hD hS (lv_sub hl [3, 4, 1, 0] rfl)
      · replace h := ifp c7 h
        refine lv_aload_n hx hb dX0_turnByLines_36 rfl (lv_at hl 1 rfl) ?_
        refine lv_aload_n hx hb dX0_turnByLines_37 rfl (lv_at hl 2 rfl) ?_
        refine lv_aload_n hx hb dX0_turnByLines_38 rfl (lv_at hl 1 rfl) ?_
        refine gf_RX0_17 C hP dX0_turnByLines_39 ?_
        refine lv_iload_n hx hb dX0_turnByLines_42 rfl (lv_at hl 4 rfl) ?_
        obtain ⟨i8, h⟩ := gi_some h
        refine ldX_9 C hP i8 dX0_turnByLines_43 ?_
        refine lv_aload_n hx hb dX0_turnByLines_44 rfl (lv_at hl 1 rfl) ?_
        refine gf_RX0_21 C hP dX0_turnByLines_45 ?_
        refine lv_iload_n hx hb dX0_turnByLines_48 rfl (lv_at hl 4 rfl) ?_
        obtain ⟨i9, h⟩ := gi_some h
        refine ldX_10 C hP i9 dX0_turnByLines_49 ?_
        refine lv_ineg hx hb dX0_turnByLines_50 ?_
        obtain ⟨r12, σ11, h10, h⟩ := bd2_some h
        refine goI C hD hS (runV (As := [.ref (q (22 + 5 * g0)), .int (σ5.2 9 v3.toNatClampNeg), .int (-(σ5.2 10 v3.toNatClampNeg))]) (rest := []) (w := (xW G q σ5)) C lc_RX0_80 (ctX0_turnWhileLess N g0 σ5 σ11 (σ5.2 9 v3.toNatClampNeg) (-(σ5.2 10 v3.toNatClampNeg)) r12 h10 _) hP hD hS (va_recv C.2.2.2.2.2.1 hP (ci := 0) (q0 := 4) rfl rfl) hl.1 rfl rfl (by decide) (by decide) (Nat.le_of_ble_eq_true rfl) dX0_turnByLines_51) (fun H locs hP hD hS => ?_)
        refine lv_istore (lv' := [(4, .int r12), (0, .ref (q 4)), (1, .ref (q (22 + 5 * g0))), (2, .int v2), (3, .int v3)]) hx hb dX0_turnByLines_54 hl (by decide) rfl (fun ls hl => ?_)
        refine lv_iload_n hx hb dX0_turnByLines_56 rfl (lv_at hl 3 rfl) ?_
        refine lv_iload hx hb dX0_turnByLines_57 (lv_at hl 0 rfl) ?_
        refine lv_iadd hx hb dX0_turnByLines_59 ?_
        refine lv_istore_n (lv' := [(2, .int (v2 + r12)), (4, .int r12), (0, .ref (q 4)), (1, .ref (q (22 + 5 * g0))), (3, .int v3)]) hx hb dX0_turnByLines_60 rfl hl (by decide) rfl (fun ls hl => ?_)
        refine lv_iinc (v := (v3 + 1)) (lv' := [(3, .int (v3 + 1)), (2, .int (v2 + r12)), (4, .int r12), (0, .ref (q 4)), (1, .ref (q (22 + 5 * g0)))]) hx hb dX0_turnByLines_61 hl (k := 4) rfl (by first | rfl | decide) (by decide) rfl (fun ls hl => ?_)
        refine lv_goto (tgt := 4) hx hb dX0_turnByLines_64 (by decide) ?_
        exact ih (v2 + r12) (v3 + 1) σ11 _ _ _ h hP hD hS (lv_sub hl [3, 4, 1, 0] rfl)

def fX0_turnByLines (N : Nat) (g0 : Nat) (σ : St) : Option (Int32 × St) :=
  fX0_turnByLines_L4 N g0 N 0 0 σ
set_option maxHeartbeats 4000000 in
set_option maxRecDepth 100000 in
theorem ctX0_turnByLines {G : GP} {l : Launch} {q : Nat → Nat} (N : Nat) (g0 : Nat) (σ σ' : St) (r : Int32) (h : fX0_turnByLines N g0 σ = some (r, σ')) : CI G l yX0_turnByLines cX0_turnByLines 5 (some .int) 4 [.ref (q 4), .ref (q (22 + 5 * g0))] (xW G q σ) (xW G q (σ')) r := by
  refine enterI (own := RX0) (by decide) rfl (Nat.le_of_ble_eq_true rfl) ?_
  intro p e s m args below meth c A C hP hD hS ls hl
  obtain ⟨hx, hb, hml, hown, hts, hK, hZ, hA, hlk, hr⟩ := id C
  have hl : lv_has ls 5 [(0, .ref (q 4)), (1, .ref (q (22 + 5 * g0)))] := hl
  rw [fX0_turnByLines.eq_1] at h
  refine lv_iconst (v := 0) hx hb dX0_turnByLines_0 (by decide) ?_
  refine lv_istore_n (lv' := [(2, .int 0), (0, .ref (q 4)), (1, .ref (q (22 + 5 * g0)))]) hx hb dX0_turnByLines_1 rfl hl (by decide) rfl (fun ls hl => ?_)
  refine lv_iconst (v := 0) hx hb dX0_turnByLines_2 (by decide) ?_
  refine lv_istore_n (lv' := [(3, .int 0), (2, .int 0), (0, .ref (q 4)), (1, .ref (q (22 + 5 * g0)))]) hx hb dX0_turnByLines_3 rfl hl (by decide) rfl (fun ls hl => ?_)
  exact wX0_turnByLines_L4 C N g0 r σ' N 0 0 σ _ _ _ h hP hD hS (lv_sub hl [2, 3, 1, 0] rfl)

def fX0_goRound (N : Nat) (σ : St) (a1 : Int32) : Option (Int32 × St) :=
  bd1 (fX0_find N σ a1) (fun o1 => mo o1 (some ((-1), σ)) (fun k3 => (if (σ.1 11) = 0 then some ((-3), σ) else bd2 (fX0_turnByLines N k3 σ ) (fun r7 σ6 => some (r7, σ6)))))
set_option maxHeartbeats 4000000 in
set_option maxRecDepth 100000 in
theorem ctX0_goRound {G : GP} {l : Launch} {q : Nat → Nat} (N : Nat) (σ σ' : St) (a1 : Int32) (r : Int32) (h : fX0_goRound N σ a1 = some (r, σ')) : CI G l yX0_goRound cX0_goRound 3 (some .int) 5 [.ref (q 4), .int a1] (xW G q σ) (xW G q (σ')) r := by
  refine enterI (own := RX0) (by decide) rfl (Nat.le_of_ble_eq_true rfl) ?_
  intro p e s m args below meth c A C hP hD hS ls hl
  obtain ⟨hx, hb, hml, hown, hts, hK, hZ, hA, hlk, hr⟩ := id C
  have hl : lv_has ls 3 [(0, .ref (q 4)), (1, .int a1)] := hl
  rw [fX0_goRound.eq_1] at h
  refine lv_aload_n hx hb dX0_goRound_0 rfl (lv_at hl 0 rfl) ?_
  refine lv_iload_n hx hb dX0_goRound_1 rfl (lv_at hl 1 rfl) ?_
  obtain ⟨o1, h2, h⟩ := bd1_some h
  refine goQ C hD hS (runV (As := [.int a1]) (rest := []) (w := (xW G q σ)) C lc_RX0_44 (ctX0_find N σ a1 o1 h2 _) hP hD hS (va_recv C.2.2.2.2.2.1 hP (ci := 0) (q0 := 4) rfl rfl) hl.1 rfl rfl (by decide) (by decide) (Nat.le_of_ble_eq_true rfl) dX0_goRound_2) (fun H locs hP hD hS => ?_)
  rcases o1 with _ | k3
  · replace h := mo_n h
    refine lv_cvv (y := .null) rfl ?_
    refine lv_astore_nN (lv' := [(2, .null), (0, .ref (q 4)), (1, .int a1)]) hx hb dX0_goRound_5 rfl hl (by decide) rfl (fun ls hl => ?_)
    refine lv_aload_nN hx hb dX0_goRound_6 rfl (lv_at hl 0 rfl) ?_
    refine lv_ifnonnullN hx hb dX0_goRound_7 ?_
    refine lv_iconst (v := (-1)) hx hb dX0_goRound_10 (by decide) ?_
    obtain ⟨rfl, rfl⟩ := so2 h
    exact retI C hP hD hS dX0_goRound_11
  · replace h := mo_s h
    refine lv_cvv (y := .ref (q (22 + 5 * k3))) rfl ?_
    refine lv_astore_n (lv' := [(2, .ref (q (22 + 5 * k3))), (0, .ref (q 4)), (1, .int a1)]) hx hb dX0_goRound_5 rfl hl (by decide) rfl (fun ls hl => ?_)
    refine lv_aload_n hx hb dX0_goRound_6 rfl (lv_at hl 0 rfl) ?_
    refine lv_ifnonnull (tgt := 12) hx hb dX0_goRound_7 (by decide) ?_
    refine lv_aload_n hx hb dX0_goRound_12 rfl (lv_at hl 1 rfl) ?_
    refine gf_RX0_28 C hP dX0_goRound_13 ?_
    refine lv_if_ne (tgt := 24) hx hb dX0_goRound_16 (by decide) (fun c4 => ?_) (fun c4 => ?_)
    · replace h := ifn c4 h
      refine lv_aload_n hx hb dX0_goRound_24 rfl (lv_at hl 1 rfl) ?_
      refine lv_aload_n hx hb dX0_goRound_25 rfl (lv_at hl 0 rfl) ?_
      obtain ⟨r7, σ6, h5, h⟩ := bd2_some h
      refine goI C hD hS (runV (As := [.ref (q (22 + 5 * k3))]) (rest := []) (w := (xW G q σ)) C lc_RX0_76 (ctX0_turnByLines N k3 σ σ6  r7 h5 _) hP hD hS (va_recv C.2.2.2.2.2.1 hP (ci := 0) (q0 := 4) rfl rfl) hl.1 rfl rfl (by decide) (by decide) (Nat.le_of_ble_eq_true rfl) dX0_goRound_26) (fun H locs hP hD hS => ?_)
      obtain ⟨rfl, rfl⟩ := so2 h
      exact retI C hP hD hS dX0_goRound_29
    · replace h := ifp c4 h
      refine lv_bipush (v := (-3)) hx hb dX0_goRound_19 (by decide) ?_
      refine lv_goto (tgt := 29) hx hb dX0_goRound_21 (by decide) ?_
      obtain ⟨rfl, rfl⟩ := so2 h
      exact retI C hP hD hS dX0_goRound_29

def fX0_goRounds_L24 (N : Nat) (k3 : Nat) : Nat → Int32 → St → Option (Int32 × St)
  | 0, _, _ => none
  | n + 1, v3, σ => (if 50 ≤ v3 then bd2 (fX0_turnByLines N k3 σ ) (fun r8 σ7 => some (50, σ7)) else bd2 (fX0_turnByLines N k3 σ ) (fun r11 σ10 => (if r11 = 0 then some (v3, σ10) else fX0_goRounds_L24 N k3 n (v3 + 1) σ10)))
set_option maxHeartbeats 4000000 in
set_option maxRecDepth 100000 in
theorem wX0_goRounds_L24 {q : Nat → Nat} (C : Cx G p s m args meth c cX0_goRounds 4 (some .int) (Cond.code yX0_goRounds cX0_goRounds 4 (some .int)) RX0 A) (N : Nat) (k3 : Nat) (r : Int32) (σ' : St) : ∀ (n : Nat) (v3 : Int32) (σ : St) (H : Heap) (locs : List Loc) (ls : Array Slot), fX0_goRounds_L24 N k3 n v3 σ = some (r, σ') → va_P G.1 vwCl (xW G q σ) H → va_D A (xW G q σ) → va_S A s.heap H locs → lv_has ls 4 [(0, .ref (q 4)), (2, .ref (q (22 + 5 * k3))), (3, .int v3)] → W p l e (rmD 5) s m args below meth c H locs 0 0 (QI G below args s A (xW G q (σ')) r) (F0 m 24 ls []) := by
  obtain ⟨hx, hb, hml, hown, hts, hK, hZ, hA, hlk, hr⟩ := id C
  intro n
  induction n with
  | zero =>
    intro v3 σ H locs ls h
    cases h
  | succ n ih =>
    intro v3 σ H locs ls h hP hD hS hl
    rw [fX0_goRounds_L24.eq_2] at h
    refine lv_iload_n hx hb dX0_goRounds_24 rfl (lv_at hl 2 rfl) ?_
    refine lv_bipush (v := 50) hx hb dX0_goRounds_25 (by decide) ?_
    refine lv_icmp_ge (tgt := 46) hx hb dX0_goRounds_27 (by decide) (fun c5 => ?_) (fun c5 => ?_)
    · replace h := ifp c5 h
      refine lv_aload_n hx hb dX0_goRounds_46 rfl (lv_at hl 0 rfl) ?_
      refine lv_aload_n hx hb dX0_goRounds_47 rfl (lv_at hl 1 rfl) ?_
      obtain ⟨r8, σ7, h6, h⟩ := bd2_some h
      refine goI C hD hS (runV (As := [.ref (q (22 + 5 * k3))]) (rest := []) (w := (xW G q σ)) C lc_RX0_76 (ctX0_turnByLines N k3 σ σ7  r8 h6 _) hP hD hS (va_recv C.2.2.2.2.2.1 hP (ci := 0) (q0 := 4) rfl rfl) hl.1 rfl rfl (by decide) (by decide) (Nat.le_of_ble_eq_true rfl) dX0_goRounds_48) (fun H locs hP hD hS => ?_)
      refine lv_pop hx hb dX0_goRounds_51 rfl ?_
      refine lv_bipush (v := 50) hx hb dX0_goRounds_52 (by decide) ?_
      obtain ⟨rfl, rfl⟩ := so2 h
      exact retI C hP hD hS dX0_goRounds_54
    · replace h := ifn c5 h
      refine lv_aload_n hx hb dX0_goRounds_30 rfl (lv_at hl 0 rfl) ?_
      refine lv_aload_n hx hb dX0_goRounds_31 rfl (lv_at hl 1 rfl) ?_
      obtain ⟨r11, σ10, h9, h⟩ := bd2_some h
      refine goI C hD hS (runV (As := [.ref (q (22 + 5 * k3))]) (rest := []) (w := (xW G q σ)) C lc_RX0_76 (ctX0_turnByLines N k3 σ σ10  r11 h9 _) hP hD hS (va_recv C.2.2.2.2.2.1 hP (ci := 0) (q0 := 4) rfl rfl) hl.1 rfl rfl (by decide) (by decide) (Nat.le_of_ble_eq_true rfl) dX0_goRounds_32) (fun H locs hP hD hS => ?_)
      refine lv_if_ne (tgt := 40) hx hb dX0_goRounds_35 (by decide) (fun c12 => ?_) (fun c12 => ?_)
      · replace h := ifn c12 h
        refine lv_iinc (v := (v3 + 1)) (lv' := [(3, .int (v3 + 1)), (0, .ref (q 4)), (2, .ref (q (22 + 5 * k3)))]) hx hb dX0_goRounds_40 hl (k := 2) rfl (by first | rfl | decide) (by decide) rfl (fun ls hl => ?_)
        refine lv_goto (tgt := 24) hx hb dX0_goRounds_43 (by decide) ?_
        exact ih (v3 + 1) σ10 _ _ _ h hP hD hS (lv_sub hl [1, 2, 0] rfl)
      · replace h := ifp c12 h
        refine lv_iload_n hx hb dX0_goRounds_38 rfl (lv_at hl 2 rfl) ?_
        obtain ⟨rfl, rfl⟩ := so2 h
        exact retI C hP hD hS dX0_goRounds_39

def fX0_goRounds (N : Nat) (σ : St) (a1 : Int32) : Option (Int32 × St) :=
  bd1 (fX0_find N σ a1) (fun o1 => mo o1 (some ((-1), σ)) (fun k3 => (if (σ.1 11) = 0 then some ((-3), σ) else fX0_goRounds_L24 N k3 N 1 σ)))
set_option maxHeartbeats 4000000 in
set_option maxRecDepth 100000 in
theorem ctX0_goRounds {G : GP} {l : Launch} {q : Nat → Nat} (N : Nat) (σ σ' : St) (a1 : Int32) (r : Int32) (h : fX0_goRounds N σ a1 = some (r, σ')) : CI G l yX0_goRounds cX0_goRounds 4 (some .int) 5 [.ref (q 4), .int a1] (xW G q σ) (xW G q (σ')) r := by
  refine enterI (own := RX0) (by decide) rfl (Nat.le_of_ble_eq_true rfl) ?_
  intro p e s m args below meth c A C hP hD hS ls hl
  obtain ⟨hx, hb, hml, hown, hts, hK, hZ, hA, hlk, hr⟩ := id C
  have hl : lv_has ls 4 [(0, .ref (q 4)), (1, .int a1)] := hl
  rw [fX0_goRounds.eq_1] at h
  refine lv_aload_n hx hb dX0_goRounds_0 rfl (lv_at hl 0 rfl) ?_
  refine lv_iload_n hx hb dX0_goRounds_1 rfl (lv_at hl 1 rfl) ?_
  obtain ⟨o1, h2, h⟩ := bd1_some h
  refine goQ C hD hS (runV (As := [.int a1]) (rest := []) (w := (xW G q σ)) C lc_RX0_44 (ctX0_find N σ a1 o1 h2 _) hP hD hS (va_recv C.2.2.2.2.2.1 hP (ci := 0) (q0 := 4) rfl rfl) hl.1 rfl rfl (by decide) (by decide) (Nat.le_of_ble_eq_true rfl) dX0_goRounds_2) (fun H locs hP hD hS => ?_)
  rcases o1 with _ | k3
  · replace h := mo_n h
    refine lv_cvv (y := .null) rfl ?_
    refine lv_astore_nN (lv' := [(2, .null), (0, .ref (q 4)), (1, .int a1)]) hx hb dX0_goRounds_5 rfl hl (by decide) rfl (fun ls hl => ?_)
    refine lv_aload_nN hx hb dX0_goRounds_6 rfl (lv_at hl 0 rfl) ?_
    refine lv_ifnonnullN hx hb dX0_goRounds_7 ?_
    refine lv_iconst (v := (-1)) hx hb dX0_goRounds_10 (by decide) ?_
    obtain ⟨rfl, rfl⟩ := so2 h
    exact retI C hP hD hS dX0_goRounds_11
  · replace h := mo_s h
    refine lv_cvv (y := .ref (q (22 + 5 * k3))) rfl ?_
    refine lv_astore_n (lv' := [(2, .ref (q (22 + 5 * k3))), (0, .ref (q 4)), (1, .int a1)]) hx hb dX0_goRounds_5 rfl hl (by decide) rfl (fun ls hl => ?_)
    refine lv_aload_n hx hb dX0_goRounds_6 rfl (lv_at hl 0 rfl) ?_
    refine lv_ifnonnull (tgt := 12) hx hb dX0_goRounds_7 (by decide) ?_
    refine lv_aload_n hx hb dX0_goRounds_12 rfl (lv_at hl 1 rfl) ?_
    refine gf_RX0_28 C hP dX0_goRounds_13 ?_
    refine lv_if_ne (tgt := 22) hx hb dX0_goRounds_16 (by decide) (fun c4 => ?_) (fun c4 => ?_)
    · replace h := ifn c4 h
      refine lv_iconst (v := 1) hx hb dX0_goRounds_22 (by decide) ?_
      refine lv_istore_n (lv' := [(3, .int 1), (2, .ref (q (22 + 5 * k3))), (0, .ref (q 4)), (1, .int a1)]) hx hb dX0_goRounds_23 rfl hl (by decide) rfl (fun ls hl => ?_)
      exact wX0_goRounds_L24 C N k3 r σ' N 1 σ _ _ _ h hP hD hS (lv_sub hl [2, 1, 0] rfl)
    · replace h := ifp c4 h
      refine lv_bipush (v := (-3)) hx hb dX0_goRounds_19 (by decide) ?_
      obtain ⟨rfl, rfl⟩ := so2 h
      exact retI C hP hD hS dX0_goRounds_21

def fX1_stations (N : Nat) (σ : St) : Option Int32 :=
  some (σ.1 0)
set_option maxHeartbeats 4000000 in
set_option maxRecDepth 100000 in
theorem ctX1_stations {G : GP} {l : Launch} {q : Nat → Nat} (N : Nat) (σ : St) (r : Int32) (h : fX1_stations N σ = some r) : CI G l yX1_stations cX1_stations 1 (some .int) 0 [.ref (q 1)] (xW G q σ) (xW G q σ) r := by
  refine enterI (own := RX1) (by decide) rfl (Nat.le_of_ble_eq_true rfl) ?_
  intro p e s m args below meth c A C hP hD hS ls hl
  obtain ⟨hx, hb, hml, hown, hts, hK, hZ, hA, hlk, hr⟩ := id C
  have hl : lv_has ls 1 [(0, .ref (q 1))] := hl
  rw [fX1_stations.eq_1] at h
  refine lv_aload_n hx hb dX1_stations_0 rfl (lv_at hl 0 rfl) ?_
  refine gf_RX1_28 C hP dX1_stations_1 ?_
  obtain rfl := so1 h
  exact retI C hP hD hS dX1_stations_4

def fX1_hasStation (N : Nat) (σ : St) (a1 : Int32) : Option Int32 :=
  bd1 (fX6_within N a1 0 ((σ.1 0) - 1)) (fun r2 => bz r2 (some r2))
set_option maxHeartbeats 4000000 in
set_option maxRecDepth 100000 in
theorem ctX1_hasStation {G : GP} {l : Launch} {q : Nat → Nat} (N : Nat) (σ : St) (a1 : Int32) (r : Int32) (h : fX1_hasStation N σ a1 = some r) : CI G l yX1_hasStation cX1_hasStation 2 (some .boolean) 1 [.ref (q 1), .int a1] (xW G q σ) (xW G q σ) r := by
  refine enterI (own := RX1) (by decide) rfl (Nat.le_of_ble_eq_true rfl) ?_
  intro p e s m args below meth c A C hP hD hS ls hl
  obtain ⟨hx, hb, hml, hown, hts, hK, hZ, hA, hlk, hr⟩ := id C
  have hl : lv_has ls 2 [(0, .ref (q 1)), (1, .int a1)] := hl
  rw [fX1_hasStation.eq_1] at h
  refine lv_iload_n hx hb dX1_hasStation_0 rfl (lv_at hl 1 rfl) ?_
  refine lv_iconst (v := 0) hx hb dX1_hasStation_1 (by decide) ?_
  refine lv_aload_n hx hb dX1_hasStation_2 rfl (lv_at hl 0 rfl) ?_
  refine gf_RX1_28 C hP dX1_hasStation_3 ?_
  refine lv_iconst (v := 1) hx hb dX1_hasStation_6 (by decide) ?_
  refine lv_isub hx hb dX1_hasStation_7 ?_
  obtain ⟨r2, h1, h⟩ := bd1_some h
  refine goI C hD hS (runN (As := [.int a1, .int 0, .int ((σ.1 0) - 1)]) (rest := []) (w := (xW G q σ)) C lc_RX1_32 C.2.2.2.2.2.2.1.2.2.1.2.2.1 (ctX6_within (w := (xW G q σ)) N a1 0 ((σ.1 0) - 1) r2 h1 _) hP hD hS hl.1 rfl rfl (by decide) (by decide) (Nat.le_of_ble_eq_true rfl) dX1_hasStation_8) (fun H locs hP hD hS => ?_)
  obtain ⟨b3, h⟩ := bz_some h
  obtain rfl := so1 h
  exact retZ C hP hD hS b3 dX1_hasStation_11

def fX1_addStation (N : Nat) (σ : St) (a1 : Int32) (a2 : Int32) : Option (Int32 × St) :=
  bd1 (fX6_within N a1 100 3000) (fun r2 => (if r2 = 0 then some ((-1), σ) else bd1 (fX6_within N a2 1 999) (fun r5 => (if r5 = 0 then some ((-1), σ) else (if (σ.1 0) < 20 then gi (σ.1 0) 20 (gi (σ.1 0) 20 (some ((((σ.1 0) + 1) - 1), (s1 (sA (sA σ 0 (σ.1 0).toNatClampNeg a1) 1 (σ.1 0).toNatClampNeg a2) 0 ((σ.1 0) + 1))))) else some ((-2), σ))))))
set_option maxHeartbeats 4000000 in
set_option maxRecDepth 100000 in
theorem ctX1_addStation {G : GP} {l : Launch} {q : Nat → Nat} (N : Nat) (σ σ' : St) (a1 : Int32) (a2 : Int32) (r : Int32) (h : fX1_addStation N σ a1 a2 = some (r, σ')) : CI G l yX1_addStation cX1_addStation 3 (some .int) 1 [.ref (q 1), .int a1, .int a2] (xW G q σ) (xW G q (σ')) r := by
  refine enterI (own := RX1) (by decide) rfl (Nat.le_of_ble_eq_true rfl) ?_
  intro p e s m args below meth c A C hP hD hS ls hl
  obtain ⟨hx, hb, hml, hown, hts, hK, hZ, hA, hlk, hr⟩ := id C
  have hl : lv_has ls 3 [(0, .ref (q 1)), (1, .int a1), (2, .int a2)] := hl
  rw [fX1_addStation.eq_1] at h
  refine lv_iload_n hx hb dX1_addStation_0 rfl (lv_at hl 1 rfl) ?_
  refine lv_bipush (v := 100) hx hb dX1_addStation_1 (by decide) ?_
  refine lv_sipush (v := 3000) hx hb dX1_addStation_3 (by decide) ?_
  obtain ⟨r2, h1, h⟩ := bd1_some h
  refine goI C hD hS (runN (As := [.int a1, .int 100, .int 3000]) (rest := []) (w := (xW G q σ)) C lc_RX1_32 C.2.2.2.2.2.2.1.2.2.1.2.2.1 (ctX6_within (w := (xW G q σ)) N a1 100 3000 r2 h1 _) hP hD hS hl.1 rfl rfl (by decide) (by decide) (Nat.le_of_ble_eq_true rfl) dX1_addStation_6) (fun H locs hP hD hS => ?_)
  refine lv_if_eq (tgt := 23) hx hb dX1_addStation_9 (by decide) (fun c3 => ?_) (fun c3 => ?_)
  · replace h := ifp c3 h
    refine lv_iconst (v := (-1)) hx hb dX1_addStation_23 (by decide) ?_
    obtain ⟨rfl, rfl⟩ := so2 h
    exact retI C hP hD hS dX1_addStation_24
  · replace h := ifn c3 h
    refine lv_iload_n hx hb dX1_addStation_12 rfl (lv_at hl 2 rfl) ?_
    refine lv_iconst (v := 1) hx hb dX1_addStation_13 (by decide) ?_
    refine lv_sipush (v := 999) hx hb dX1_addStation_14 (by decide) ?_
    obtain ⟨r5, h4, h⟩ := bd1_some h
    refine goI C hD hS (runN (As := [.int a2, .int 1, .int 999]) (rest := []) (w := (xW G q σ)) C lc_RX1_32 C.2.2.2.2.2.2.1.2.2.1.2.2.1 (ctX6_within (w := (xW G q σ)) N a2 1 999 r5 h4 _) hP hD hS hl.1 rfl rfl (by decide) (by decide) (Nat.le_of_ble_eq_true rfl) dX1_addStation_17) (fun H locs hP hD hS => ?_)
    refine lv_if_ne (tgt := 25) hx hb dX1_addStation_20 (by decide) (fun c6 => ?_) (fun c6 => ?_)
    · replace h := ifn c6 h
      refine lv_aload_n hx hb dX1_addStation_25 rfl (lv_at hl 0 rfl) ?_
      refine gf_RX1_28 C hP dX1_addStation_26 ?_
      refine lv_bipush (v := 20) hx hb dX1_addStation_29 (by decide) ?_
      refine lv_icmp_lt (tgt := 37) hx hb dX1_addStation_31 (by decide) (fun c7 => ?_) (fun c7 => ?_)
      · replace h := ifp c7 h
        refine lv_aload_n hx hb dX1_addStation_37 rfl (lv_at hl 0 rfl) ?_
        refine gf_RX1_9 C hP dX1_addStation_38 ?_
        refine lv_aload_n hx hb dX1_addStation_41 rfl (lv_at hl 0 rfl) ?_
        refine gf_RX1_28 C hP dX1_addStation_42 ?_
        refine lv_iload_n hx hb dX1_addStation_45 rfl (lv_at hl 1 rfl) ?_
        obtain ⟨i8, h⟩ := gi_some h
        refine stX_0 C hP hD hS i8 dX1_addStation_46 (fun H locs hP hD hS => ?_)
        refine lv_aload_n hx hb dX1_addStation_47 rfl (lv_at hl 0 rfl) ?_
        refine gf_RX1_15 C hP dX1_addStation_48 ?_
        refine lv_aload_n hx hb dX1_addStation_51 rfl (lv_at hl 0 rfl) ?_
        refine gf_RX1_28 C hP dX1_addStation_52 ?_
        refine lv_cv (y := (σ.1 0)) rfl ?_
        refine lv_iload_n hx hb dX1_addStation_55 rfl (lv_at hl 2 rfl) ?_
        obtain ⟨i9, h⟩ := gi_some h
        refine stX_1 C hP hD hS i9 dX1_addStation_56 (fun H locs hP hD hS => ?_)
        refine lv_aload_n hx hb dX1_addStation_57 rfl (lv_at hl 0 rfl) ?_
        refine lv_dup hx hb dX1_addStation_58 rfl ?_
        refine gf_RX1_28 C hP dX1_addStation_59 ?_
        refine lv_cv (y := (σ.1 0)) rfl ?_
        refine lv_iconst (v := 1) hx hb dX1_addStation_62 (by decide) ?_
        refine lv_iadd hx hb dX1_addStation_63 ?_
        refine pf_RX1_28 C hP hD hS dX1_addStation_64 (fun H locs hP hD hS => ?_)
        refine lv_aload_n hx hb dX1_addStation_67 rfl (lv_at hl 0 rfl) ?_
        refine gf_RX1_28 C hP dX1_addStation_68 ?_
        refine lv_cv (y := ((σ.1 0) + 1)) rfl ?_
        refine lv_iconst (v := 1) hx hb dX1_addStation_71 (by decide) ?_
        refine lv_isub hx hb dX1_addStation_72 ?_
        obtain ⟨rfl, rfl⟩ := so2 h
        exact retI C hP hD hS dX1_addStation_73
      · replace h := ifn c7 h
        refine lv_bipush (v := (-2)) hx hb dX1_addStation_34 (by decide) ?_
        obtain ⟨rfl, rfl⟩ := so2 h
        exact retI C hP hD hS dX1_addStation_36
    · replace h := ifp c6 h
      refine lv_iconst (v := (-1)) hx hb dX1_addStation_23 (by decide) ?_
      obtain ⟨rfl, rfl⟩ := so2 h
      exact retI C hP hD hS dX1_addStation_24

def fX1_change (N : Nat) (σ : St) (a1 : Int32) (a2 : Int32) : Option (Int32 × St) :=
  bd1 (fX6_within N a1 0 3) (fun r2 => (if r2 = 0 then some ((-1), σ) else gi a1 4 (gi a1 4 (bd1 (fX6_within N a2 (st0 a1.toNatClampNeg) (st1 a1.toNatClampNeg)) (fun r7 => (if r7 = 0 then some ((-1), σ) else gi a1 4 (gi a1 4 (some ((σ.2 2 a1.toNatClampNeg), (sA σ 2 a1.toNatClampNeg a2))))))))))
set_option maxHeartbeats 4000000 in
set_option maxRecDepth 100000 in
theorem ctX1_change {G : GP} {l : Launch} {q : Nat → Nat} (N : Nat) (σ σ' : St) (a1 : Int32) (a2 : Int32) (r : Int32) (h : fX1_change N σ a1 a2 = some (r, σ')) : CI G l yX1_change cX1_change 4 (some .int) 1 [.ref (q 1), .int a1, .int a2] (xW G q σ) (xW G q (σ')) r := by
  refine enterI (own := RX1) (by decide) rfl (Nat.le_of_ble_eq_true rfl) ?_
  intro p e s m args below meth c A C hP hD hS ls hl
  obtain ⟨hx, hb, hml, hown, hts, hK, hZ, hA, hlk, hr⟩ := id C
  have hl : lv_has ls 4 [(0, .ref (q 1)), (1, .int a1), (2, .int a2)] := hl
  rw [fX1_change.eq_1] at h
  refine lv_iload_n hx hb dX1_change_0 rfl (lv_at hl 1 rfl) ?_
  refine lv_iconst (v := 0) hx hb dX1_change_1 (by decide) ?_
  refine lv_iconst (v := 3) hx hb dX1_change_2 (by decide) ?_
  obtain ⟨r2, h1, h⟩ := bd1_some h
  refine goI C hD hS (runN (As := [.int a1, .int 0, .int 3]) (rest := []) (w := (xW G q σ)) C lc_RX1_32 C.2.2.2.2.2.2.1.2.2.1.2.2.1 (ctX6_within (w := (xW G q σ)) N a1 0 3 r2 h1 _) hP hD hS hl.1 rfl rfl (by decide) (by decide) (Nat.le_of_ble_eq_true rfl) dX1_change_3) (fun H locs hP hD hS => ?_)
  refine lv_if_eq (tgt := 26) hx hb dX1_change_6 (by decide) (fun c3 => ?_) (fun c3 => ?_)
  · replace h := ifp c3 h
    refine lv_iconst (v := (-1)) hx hb dX1_change_26 (by decide) ?_
    obtain ⟨rfl, rfl⟩ := so2 h
    exact retI C hP hD hS dX1_change_27
  · replace h := ifn c3 h
    refine lv_iload_n hx hb dX1_change_9 rfl (lv_at hl 2 rfl) ?_
    refine va_getsN hx hb hZ.1.1.1 hS hown (va_Nw.use rfl hZ.2.1.1) (fun _ h9 => h9) dX1_change_10 ?_
    refine lv_iload_n hx hb dX1_change_13 rfl (lv_at hl 1 rfl) ?_
    obtain ⟨i4, h⟩ := gi_some h
    refine va_ti (v := .int (st0 a1.toNatClampNeg)) hx hb hZ.1.1.2 hS i4 rfl dX1_change_14 ?_
    refine va_getsN hx hb hZ.1.2.1.1 hS hown (va_Nw.use rfl hZ.2.1.2.1) (fun _ h9 => h9) dX1_change_15 ?_
    refine lv_iload_n hx hb dX1_change_18 rfl (lv_at hl 1 rfl) ?_
    obtain ⟨i5, h⟩ := gi_some h
    refine va_ti (v := .int (st1 a1.toNatClampNeg)) hx hb hZ.1.2.1.2 hS i5 rfl dX1_change_19 ?_
    obtain ⟨r7, h6, h⟩ := bd1_some h
    refine goI C hD hS (runN (As := [.int a2, .int (st0 a1.toNatClampNeg), .int (st1 a1.toNatClampNeg)]) (rest := []) (w := (xW G q σ)) C lc_RX1_32 C.2.2.2.2.2.2.1.2.2.1.2.2.1 (ctX6_within (w := (xW G q σ)) N a2 (st0 a1.toNatClampNeg) (st1 a1.toNatClampNeg) r7 h6 _) hP hD hS hl.1 rfl rfl (by decide) (by decide) (Nat.le_of_ble_eq_true rfl) dX1_change_20) (fun H locs hP hD hS => ?_)
    refine lv_if_ne (tgt := 28) hx hb dX1_change_23 (by decide) (fun c8 => ?_) (fun c8 => ?_)
    · replace h := ifn c8 h
      refine lv_aload_n hx hb dX1_change_28 rfl (lv_at hl 0 rfl) ?_
      refine gf_RX1_18 C hP dX1_change_29 ?_
      refine lv_iload_n hx hb dX1_change_32 rfl (lv_at hl 1 rfl) ?_
      obtain ⟨i9, h⟩ := gi_some h
      refine ldX_2 C hP i9 dX1_change_33 ?_
      refine lv_istore_n (lv' := [(3, .int (σ.2 2 a1.toNatClampNeg)), (0, .ref (q 1)), (1, .int a1), (2, .int a2)]) hx hb dX1_change_34 rfl hl (by decide) rfl (fun ls hl => ?_)
      refine lv_aload_n hx hb dX1_change_35 rfl (lv_at hl 1 rfl) ?_
      refine gf_RX1_18 C hP dX1_change_36 ?_
      refine lv_iload_n hx hb dX1_change_39 rfl (lv_at hl 2 rfl) ?_
      refine lv_iload_n hx hb dX1_change_40 rfl (lv_at hl 3 rfl) ?_
      obtain ⟨i10, h⟩ := gi_some h
      refine stX_2 C hP hD hS i10 dX1_change_41 (fun H locs hP hD hS => ?_)
      refine lv_iload_n hx hb dX1_change_42 rfl (lv_at hl 0 rfl) ?_
      obtain ⟨rfl, rfl⟩ := so2 h
      exact retI C hP hD hS dX1_change_43
    · replace h := ifp c8 h
      refine lv_iconst (v := (-1)) hx hb dX1_change_26 (by decide) ?_
      obtain ⟨rfl, rfl⟩ := so2 h
      exact retI C hP hD hS dX1_change_27

def fX1_oscillatorFor (N : Nat) (σ : St) (a1 : Int32) (a2 : Int32) : Option Int32 :=
  bd1 (fX1_isOver N σ ) (fun r2 => (if r2 = 0 then gi a1 20 (some ((σ.2 0 a1.toNatClampNeg) - a2)) else gi a1 20 (some ((σ.2 0 a1.toNatClampNeg) + a2))))
set_option maxHeartbeats 4000000 in
set_option maxRecDepth 100000 in
theorem ctX1_oscillatorFor {G : GP} {l : Launch} {q : Nat → Nat} (N : Nat) (σ : St) (a1 : Int32) (a2 : Int32) (r : Int32) (h : fX1_oscillatorFor N σ a1 a2 = some r) : CI G l yX1_oscillatorFor cX1_oscillatorFor 3 (some .int) 1 [.ref (q 1), .int a1, .int a2] (xW G q σ) (xW G q σ) r := by
  refine enterI (own := RX1) (by decide) rfl (Nat.le_of_ble_eq_true rfl) ?_
  intro p e s m args below meth c A C hP hD hS ls hl
  obtain ⟨hx, hb, hml, hown, hts, hK, hZ, hA, hlk, hr⟩ := id C
  have hl : lv_has ls 3 [(0, .ref (q 1)), (1, .int a1), (2, .int a2)] := hl
  rw [fX1_oscillatorFor.eq_1] at h
  refine lv_aload_n hx hb dX1_oscillatorFor_0 rfl (lv_at hl 0 rfl) ?_
  obtain ⟨r2, h1, h⟩ := bd1_some h
  refine goI C hD hS (runV (As := []) (rest := []) (w := (xW G q σ)) C lc_RX1_42 (ctX1_isOver N σ  r2 h1 _) hP hD hS (va_recv C.2.2.2.2.2.1 hP (ci := 1) (q0 := 1) rfl rfl) hl.1 rfl rfl (by decide) (by decide) (Nat.le_of_ble_eq_true rfl) dX1_oscillatorFor_1) (fun H locs hP hD hS => ?_)
  refine lv_if_eq (tgt := 18) hx hb dX1_oscillatorFor_4 (by decide) (fun c3 => ?_) (fun c3 => ?_)
  · replace h := ifp c3 h
    refine lv_aload_n hx hb dX1_oscillatorFor_18 rfl (lv_at hl 0 rfl) ?_
    refine gf_RX1_9 C hP dX1_oscillatorFor_19 ?_
    refine lv_iload_n hx hb dX1_oscillatorFor_22 rfl (lv_at hl 1 rfl) ?_
    obtain ⟨i4, h⟩ := gi_some h
    refine ldX_0 C hP i4 dX1_oscillatorFor_23 ?_
    refine lv_iload_n hx hb dX1_oscillatorFor_24 rfl (lv_at hl 2 rfl) ?_
    refine lv_isub hx hb dX1_oscillatorFor_25 ?_
    obtain rfl := so1 h
    exact retI C hP hD hS dX1_oscillatorFor_26
  · replace h := ifn c3 h
    refine lv_aload_n hx hb dX1_oscillatorFor_7 rfl (lv_at hl 0 rfl) ?_
    refine gf_RX1_9 C hP dX1_oscillatorFor_8 ?_
    refine lv_iload_n hx hb dX1_oscillatorFor_11 rfl (lv_at hl 1 rfl) ?_
    obtain ⟨i5, h⟩ := gi_some h
    refine ldX_0 C hP i5 dX1_oscillatorFor_12 ?_
    refine lv_iload_n hx hb dX1_oscillatorFor_13 rfl (lv_at hl 2 rfl) ?_
    refine lv_iadd hx hb dX1_oscillatorFor_14 ?_
    refine lv_goto (tgt := 26) hx hb dX1_oscillatorFor_15 (by decide) ?_
    obtain rfl := so1 h
    exact retI C hP hD hS dX1_oscillatorFor_26

def fX1_fallsOn (N : Nat) (σ : St) (a1 : Int32) (a2 : Int32) : Option Int32 :=
  (if (σ.2 2 (3 : Int32).toNatClampNeg) < (jabs ((jabs a1) - a2)) then some 0 else some 1)
set_option maxHeartbeats 4000000 in
set_option maxRecDepth 100000 in
theorem ctX1_fallsOn {G : GP} {l : Launch} {q : Nat → Nat} (N : Nat) (σ : St) (a1 : Int32) (a2 : Int32) (r : Int32) (h : fX1_fallsOn N σ a1 a2 = some r) : CI G l yX1_fallsOn cX1_fallsOn 3 (some .boolean) 1 [.ref (q 1), .int a1, .int a2] (xW G q σ) (xW G q σ) r := by
  refine enterI (own := RX1) (by decide) rfl (Nat.le_of_ble_eq_true rfl) ?_
  intro p e s m args below meth c A C hP hD hS ls hl
  obtain ⟨hx, hb, hml, hown, hts, hK, hZ, hA, hlk, hr⟩ := id C
  have hl : lv_has ls 3 [(0, .ref (q 1)), (1, .int a1), (2, .int a2)] := hl
  rw [fX1_fallsOn.eq_1] at h
  refine lv_iload_n hx hb dX1_fallsOn_0 rfl (lv_at hl 1 rfl) ?_
  refine rabs C lc_RX1_75 hl.1 (Nat.le_of_ble_eq_true rfl) dX1_fallsOn_1 ?_
  refine lv_iload_n hx hb dX1_fallsOn_4 rfl (lv_at hl 2 rfl) ?_
  refine lv_isub hx hb dX1_fallsOn_5 ?_
  refine rabs C lc_RX1_75 hl.1 (Nat.le_of_ble_eq_true rfl) dX1_fallsOn_6 ?_
  refine lv_aload_n hx hb dX1_fallsOn_9 rfl (lv_at hl 0 rfl) ?_
  refine gf_RX1_18 C hP dX1_fallsOn_10 ?_
  refine lv_iconst (v := 3) hx hb dX1_fallsOn_13 (by decide) ?_
  refine ldX_2 C hP (vin (by decide)) dX1_fallsOn_14 ?_
  refine lv_icmp_gt (tgt := 22) hx hb dX1_fallsOn_15 (by decide) (fun c1 => ?_) (fun c1 => ?_)
  · replace h := ifp c1 h
    refine lv_iconst (v := 0) hx hb dX1_fallsOn_22 (by decide) ?_
    obtain rfl := so1 h
    exact retZ C hP hD hS (by decide) dX1_fallsOn_23
  · replace h := ifn c1 h
    refine lv_iconst (v := 1) hx hb dX1_fallsOn_18 (by decide) ?_
    refine lv_goto (tgt := 23) hx hb dX1_fallsOn_19 (by decide) ?_
    obtain rfl := so1 h
    exact retZ C hP hD hS (by decide) dX1_fallsOn_23

def fX4_take (N : Nat) (σ : St) (a1 : Int32) (a2 : Int32) (a3 : Int32) (a4 : Int32) (a5 : Int32) : Option St :=
  (if (σ.1 2) = (σ.1 1) then (if a5 ≤ (σ.1 5) then some (s1 (s1 (sA (sA (sA (sA (sA σ 3 (0 : Int32).toNatClampNeg a1) 3 (1 : Int32).toNatClampNeg a2) 3 (2 : Int32).toNatClampNeg a3) 3 (3 : Int32).toNatClampNeg a4) 3 (4 : Int32).toNatClampNeg a5) 3 ((σ.1 3) + a5)) 2 ((σ.1 2) + 1)) else some (s1 (s1 (s1 (s1 (sA (sA (sA (sA (sA σ 3 (0 : Int32).toNatClampNeg a1) 3 (1 : Int32).toNatClampNeg a2) 3 (2 : Int32).toNatClampNeg a3) 3 (3 : Int32).toNatClampNeg a4) 3 (4 : Int32).toNatClampNeg a5) 5 a5) 4 (σ.1 2)) 3 ((σ.1 3) + a5)) 2 ((σ.1 2) + 1))) else (if a5 ≤ (σ.1 5) then some (s1 (s1 σ 3 ((σ.1 3) + a5)) 2 ((σ.1 2) + 1)) else some (s1 (s1 (s1 (s1 σ 5 a5) 4 (σ.1 2)) 3 ((σ.1 3) + a5)) 2 ((σ.1 2) + 1))))
set_option maxHeartbeats 4000000 in
set_option maxRecDepth 100000 in
theorem ctX4_take {G : GP} {l : Launch} {q : Nat → Nat} (N : Nat) (σ σ' : St) (a1 : Int32) (a2 : Int32) (a3 : Int32) (a4 : Int32) (a5 : Int32) (h : fX4_take N σ a1 a2 a3 a4 a5 = some σ') : CV G l yX4_take cX4_take 6 none 0 [.ref (q 2), .int a1, .int a2, .int a3, .int a4, .int a5] (xW G q σ) (xW G q (σ')) := by
  refine enterV (own := RX4) (by decide) rfl (Nat.le_of_ble_eq_true rfl) ?_
  intro p e s m args below meth c A C hP hD hS ls hl
  obtain ⟨hx, hb, hml, hown, hts, hK, hZ, hA, hlk, hr⟩ := id C
  have hl : lv_has ls 6 [(0, .ref (q 2)), (1, .int a1), (2, .int a2), (3, .int a3), (4, .int a4), (5, .int a5)] := hl
  rw [fX4_take.eq_1] at h
  refine lv_aload_n hx hb dX4_take_0 rfl (lv_at hl 0 rfl) ?_
  refine gf_RX4_19 C hP dX4_take_1 ?_
  refine lv_aload_n hx hb dX4_take_4 rfl (lv_at hl 0 rfl) ?_
  refine gf_RX4_15 C hP dX4_take_5 ?_
  refine lv_icmp_ne (tgt := 48) hx hb dX4_take_8 (by decide) (fun c1 => ?_) (fun c1 => ?_)
  · replace h := ifn c1 h
    refine lv_iload hx hb dX4_take_48 (lv_at hl 5 rfl) ?_
    refine lv_aload_n hx hb dX4_take_50 rfl (lv_at hl 0 rfl) ?_
    refine gf_RX4_28 C hP dX4_take_51 ?_
    refine lv_icmp_le (tgt := 71) hx hb dX4_take_54 (by decide) (fun c2 => ?_) (fun c2 => ?_)
    · replace h := ifp c2 h
      refine lv_aload_n hx hb dX4_take_71 rfl (lv_at hl 0 rfl) ?_
      refine lv_dup hx hb dX4_take_72 rfl ?_
      refine gf_RX4_22 C hP dX4_take_73 ?_
      refine lv_iload hx hb dX4_take_76 (lv_at hl 5 rfl) ?_
      refine lv_iadd hx hb dX4_take_78 ?_
      refine pf_RX4_22 C hP hD hS dX4_take_79 (fun H locs hP hD hS => ?_)
      refine lv_aload_n hx hb dX4_take_82 rfl (lv_at hl 0 rfl) ?_
      refine lv_dup hx hb dX4_take_83 rfl ?_
      refine gf_RX4_19 C hP dX4_take_84 ?_
      refine lv_cv (y := (σ.1 2)) rfl ?_
      refine lv_iconst (v := 1) hx hb dX4_take_87 (by decide) ?_
      refine lv_iadd hx hb dX4_take_88 ?_
      refine pf_RX4_19 C hP hD hS dX4_take_89 (fun H locs hP hD hS => ?_)
      obtain rfl := so1 h
      exact retV C hP hD hS dX4_take_92
    · replace h := ifn c2 h
      refine lv_aload_n hx hb dX4_take_57 rfl (lv_at hl 0 rfl) ?_
      refine lv_iload hx hb dX4_take_58 (lv_at hl 5 rfl) ?_
      refine pf_RX4_28 C hP hD hS dX4_take_60 (fun H locs hP hD hS => ?_)
      refine lv_aload_n hx hb dX4_take_63 rfl (lv_at hl 0 rfl) ?_
      refine lv_aload_n hx hb dX4_take_64 rfl (lv_at hl 0 rfl) ?_
      refine gf_RX4_19 C hP dX4_take_65 ?_
      refine lv_cv (y := (σ.1 2)) rfl ?_
      refine pf_RX4_25 C hP hD hS dX4_take_68 (fun H locs hP hD hS => ?_)
      refine lv_aload_n hx hb dX4_take_71 rfl (lv_at hl 0 rfl) ?_
      refine lv_dup hx hb dX4_take_72 rfl ?_
      refine gf_RX4_22 C hP dX4_take_73 ?_
      refine lv_cv (y := (σ.1 3)) rfl ?_
      refine lv_iload hx hb dX4_take_76 (lv_at hl 5 rfl) ?_
      refine lv_iadd hx hb dX4_take_78 ?_
      refine pf_RX4_22 C hP hD hS dX4_take_79 (fun H locs hP hD hS => ?_)
      refine lv_aload_n hx hb dX4_take_82 rfl (lv_at hl 0 rfl) ?_
      refine lv_dup hx hb dX4_take_83 rfl ?_
      refine gf_RX4_19 C hP dX4_take_84 ?_
      refine lv_cv (y := (σ.1 2)) rfl ?_
      refine lv_iconst (v := 1) hx hb dX4_take_87 (by decide) ?_
      refine lv_iadd hx hb dX4_take_88 ?_
      refine pf_RX4_19 C hP hD hS dX4_take_89 (fun H locs hP hD hS => ?_)
      obtain rfl := so1 h
      exact retV C hP hD hS dX4_take_92
  · replace h := ifp c1 h
    refine lv_aload_n hx hb dX4_take_11 rfl (lv_at hl 0 rfl) ?_
    refine gf_RX4_9 C hP dX4_take_12 ?_
    refine lv_iconst (v := 0) hx hb dX4_take_15 (by decide) ?_
    refine lv_iload_n hx hb dX4_take_16 rfl (lv_at hl 1 rfl) ?_
    refine stX_3 C hP hD hS (vin (by decide)) dX4_take_17 (fun H locs hP hD hS => ?_)
    refine lv_aload_n hx hb dX4_take_18 rfl (lv_at hl 0 rfl) ?_
    refine gf_RX4_9 C hP dX4_take_19 ?_
    refine lv_iconst (v := 1) hx hb dX4_take_22 (by decide) ?_
    refine lv_iload_n hx hb dX4_take_23 rfl (lv_at hl 2 rfl) ?_
    refine stX_3 C hP hD hS (vin (by decide)) dX4_take_24 (fun H locs hP hD hS => ?_)
    refine lv_aload_n hx hb dX4_take_25 rfl (lv_at hl 0 rfl) ?_
    refine gf_RX4_9 C hP dX4_take_26 ?_
    refine lv_iconst (v := 2) hx hb dX4_take_29 (by decide) ?_
    refine lv_iload_n hx hb dX4_take_30 rfl (lv_at hl 3 rfl) ?_
    refine stX_3 C hP hD hS (vin (by decide)) dX4_take_31 (fun H locs hP hD hS => ?_)
    refine lv_aload_n hx hb dX4_take_32 rfl (lv_at hl 0 rfl) ?_
    refine gf_RX4_9 C hP dX4_take_33 ?_
    refine lv_iconst (v := 3) hx hb dX4_take_36 (by decide) ?_
    refine lv_iload hx hb dX4_take_37 (lv_at hl 4 rfl) ?_
    refine stX_3 C hP hD hS (vin (by decide)) dX4_take_39 (fun H locs hP hD hS => ?_)
    refine lv_aload_n hx hb dX4_take_40 rfl (lv_at hl 0 rfl) ?_
    refine gf_RX4_9 C hP dX4_take_41 ?_
    refine lv_iconst (v := 4) hx hb dX4_take_44 (by decide) ?_
    refine lv_iload hx hb dX4_take_45 (lv_at hl 5 rfl) ?_
    refine stX_3 C hP hD hS (vin (by decide)) dX4_take_47 (fun H locs hP hD hS => ?_)
    refine lv_iload hx hb dX4_take_48 (lv_at hl 5 rfl) ?_
    refine lv_aload_n hx hb dX4_take_50 rfl (lv_at hl 0 rfl) ?_
    refine gf_RX4_28 C hP dX4_take_51 ?_
    refine lv_cv (y := (σ.1 5)) rfl ?_
    refine lv_icmp_le (tgt := 71) hx hb dX4_take_54 (by decide) (fun c3 => ?_) (fun c3 => ?_)
    · replace h := ifp c3 h
      refine lv_aload_n hx hb dX4_take_71 rfl (lv_at hl 0 rfl) ?_
      refine lv_dup hx hb dX4_take_72 rfl ?_
      refine gf_RX4_22 C hP dX4_take_73 ?_
      refine lv_cv (y := (σ.1 3)) rfl ?_
      refine lv_iload hx hb dX4_take_76 (lv_at hl 5 rfl) ?_
      refine lv_iadd hx hb dX4_take_78 ?_
      refine pf_RX4_22 C hP hD hS dX4_take_79 (fun H locs hP hD hS => ?_)
      refine lv_aload_n hx hb dX4_take_82 rfl (lv_at hl 0 rfl) ?_
      refine lv_dup hx hb dX4_take_83 rfl ?_
      refine gf_RX4_19 C hP dX4_take_84 ?_
      refine lv_cv (y := (σ.1 2)) rfl ?_
      refine lv_iconst (v := 1) hx hb dX4_take_87 (by decide) ?_
      refine lv_iadd hx hb dX4_take_88 ?_
      refine pf_RX4_19 C hP hD hS dX4_take_89 (fun H locs hP hD hS => ?_)
      obtain rfl := so1 h
      exact retV C hP hD hS dX4_take_92
    · replace h := ifn c3 h
      refine lv_aload_n hx hb dX4_take_57 rfl (lv_at hl 0 rfl) ?_
      refine lv_iload hx hb dX4_take_58 (lv_at hl 5 rfl) ?_
      refine pf_RX4_28 C hP hD hS dX4_take_60 (fun H locs hP hD hS => ?_)
      refine lv_aload_n hx hb dX4_take_63 rfl (lv_at hl 0 rfl) ?_
      refine lv_aload_n hx hb dX4_take_64 rfl (lv_at hl 0 rfl) ?_
      refine gf_RX4_19 C hP dX4_take_65 ?_
      refine lv_cv (y := (σ.1 2)) rfl ?_
      refine pf_RX4_25 C hP hD hS dX4_take_68 (fun H locs hP hD hS => ?_)
      refine lv_aload_n hx hb dX4_take_71 rfl (lv_at hl 0 rfl) ?_
      refine lv_dup hx hb dX4_take_72 rfl ?_
      refine gf_RX4_22 C hP dX4_take_73 ?_
      refine lv_cv (y := (σ.1 3)) rfl ?_
      refine lv_iload hx hb dX4_take_76 (lv_at hl 5 rfl) ?_
      refine lv_iadd hx hb dX4_take_78 ?_
      refine pf_RX4_22 C hP hD hS dX4_take_79 (fun H locs hP hD hS => ?_)
      refine lv_aload_n hx hb dX4_take_82 rfl (lv_at hl 0 rfl) ?_
      refine lv_dup hx hb dX4_take_83 rfl ?_
      refine gf_RX4_19 C hP dX4_take_84 ?_
      refine lv_cv (y := (σ.1 2)) rfl ?_
      refine lv_iconst (v := 1) hx hb dX4_take_87 (by decide) ?_
      refine lv_iadd hx hb dX4_take_88 ?_
      refine pf_RX4_19 C hP hD hS dX4_take_89 (fun H locs hP hD hS => ?_)
      obtain rfl := so1 h
      exact retV C hP hD hS dX4_take_92

def fX1_gatherSums_L24 (N : Nat) (v1 : Int32) (v2 : Int32) (v4 : Int32) (v5 : Int32) (v6 : Int32) (v7 : Int32) : Nat → Int32 → St → Option St
  | 0, _, _ => none
  | n + 1, v8, σ => (if (σ.2 2 (2 : Int32).toNatClampNeg) < v8 then some σ else (if ((v8 * v4) - v6) ≤ v7 then bd1 (fX1_fallsOn N σ (v6 + (v8 * v4)) v5) (fun r5 => (if r5 = 0 then bd1 (fX1_fallsOn N σ (v6 - (v8 * v4)) v5) (fun r8 => (if r8 = 0 then fX1_gatherSums_L24 N v1 v2 v4 v5 v6 v7 n (v8 + 1) σ else gi v1 20 (nz (v2 * v8) (bd1 (fX4_take N σ v1 v2 v8 0 ((σ.2 1 v1.toNatClampNeg) / (v2 * v8))) (fun σ13 => fX1_gatherSums_L24 N v1 v2 v4 v5 v6 v7 n (v8 + 1) σ13))))) else gi v1 20 (nz (v2 * v8) (bd1 (fX4_take N σ v1 v2 v8 1 ((σ.2 1 v1.toNatClampNeg) / (v2 * v8))) (fun σ17 => bd1 (fX1_fallsOn N σ17 (v6 - (v8 * v4)) v5) (fun r19 => (if r19 = 0 then fX1_gatherSums_L24 N v1 v2 v4 v5 v6 v7 n (v8 + 1) σ17 else gi v1 20 (nz (v2 * v8) (bd1 (fX4_take N σ17 v1 v2 v8 0 ((σ17.2 1 v1.toNatClampNeg) / (v2 * v8))) (fun σ24 => fX1_gatherSums_L24 N v1 v2 v4 v5 v6 v7 n (v8 + 1) σ24)))))))))) else some σ))
set_option maxHeartbeats 4000000 in
set_option maxRecDepth 100000 in
theorem wX1_gatherSums_L24 {q : Nat → Nat} (C : Cx G p s m args meth c cX1_gatherSums 10 none (Cond.code yX1_gatherSums cX1_gatherSums 10 none) RX1 A) (N : Nat) (v1 : Int32) (v2 : Int32) (v4 : Int32) (v5 : Int32) (v6 : Int32) (v7 : Int32) (σ' : St) : ∀ (n : Nat) (v8 : Int32) (σ : St) (H : Heap) (locs : List Loc) (ls : Array Slot), fX1_gatherSums_L24 N v1 v2 v4 v5 v6 v7 n v8 σ = some σ' → va_P G.1 vwCl (xW G q σ) H → va_D A (xW G q σ) → va_S A s.heap H locs → lv_has ls 10 [(0, .ref (q 1)), (1, .int v1), (2, .int v2), (4, .int v4), (5, .int v5), (6, .int v6), (7, .int v7), (8, .int v8)] → W p l e (rmD 2) s m args below meth c H locs 0 0 (QV G below args s A (xW G q (σ'))) (F0 m 24 ls []) := by
  obtain ⟨hx, hb, hml, hown, hts, hK, hZ, hA, hlk, hr⟩ := id C
  intro n
  induction n with
  | zero =>
    intro v8 σ H locs ls h
    cases h
  | succ n ih =>
    intro v8 σ H locs ls h hP hD hS hl
    rw [fX1_gatherSums_L24.eq_2] at h
    refine lv_iload hx hb dX1_gatherSums_24 (lv_at hl 7 rfl) ?_
    refine lv_aload_n hx hb dX1_gatherSums_26 rfl (lv_at hl 0 rfl) ?_
    refine gf_RX1_18 C hP dX1_gatherSums_27 ?_
    refine lv_iconst (v := 2) hx hb dX1_gatherSums_30 (by decide) ?_
    refine ldX_2 C hP (vin (by decide)) dX1_gatherSums_31 ?_
    refine lv_icmp_gt (tgt := 135) hx hb dX1_gatherSums_32 (by decide) (fun c2 => ?_) (fun c2 => ?_)
    · replace h := ifp c2 h
      obtain rfl := so1 h
      exact retV C hP hD hS dX1_gatherSums_135
    · replace h := ifn c2 h
      refine lv_iload hx hb dX1_gatherSums_35 (lv_at hl 7 rfl) ?_
      refine lv_iload hx hb dX1_gatherSums_37 (lv_at hl 3 rfl) ?_
      refine lv_imul hx hb dX1_gatherSums_39 ?_
      refine lv_istore (lv' := [(9, .int (v8 * v4)), (0, .ref (q 1)), (1, .int v1), (2, .int v2), (4, .int v4), (5, .int v5), (6, .int v6), (7, .int v7), (8, .int v8)]) hx hb dX1_gatherSums_40 hl (by decide) rfl (fun ls hl => ?_)
      refine lv_iload hx hb dX1_gatherSums_42 (lv_at hl 0 rfl) ?_
      refine lv_iload hx hb dX1_gatherSums_44 (lv_at hl 6 rfl) ?_
      refine lv_isub hx hb dX1_gatherSums_46 ?_
      refine lv_iload hx hb dX1_gatherSums_47 (lv_at hl 7 rfl) ?_
      refine lv_icmp_le (tgt := 55) hx hb dX1_gatherSums_49 (by decide) (fun c3 => ?_) (fun c3 => ?_)
      · replace h := ifp c3 h
        refine lv_aload_n hx hb dX1_gatherSums_55 rfl (lv_at hl 1 rfl) ?_
        refine lv_iload hx hb dX1_gatherSums_56 (lv_at hl 6 rfl) ?_
        refine lv_iload hx hb dX1_gatherSums_58 (lv_at hl 0 rfl) ?_
        refine lv_iadd hx hb dX1_gatherSums_60 ?_
        refine lv_iload hx hb dX1_gatherSums_61 (lv_at hl 5 rfl) ?_
        obtain ⟨r5, h4, h⟩ := bd1_some h
        refine goI C hD hS (runV (As := [.int (v6 + (v8 * v4)), .int v5]) (rest := []) (w := (xW G q σ)) C lc_RX1_71 (ctX1_fallsOn N σ (v6 + (v8 * v4)) v5 r5 h4 _) hP hD hS (va_recv C.2.2.2.2.2.1 hP (ci := 1) (q0 := 1) rfl rfl) hl.1 rfl rfl (by decide) (by decide) (Nat.le_of_ble_eq_true rfl) dX1_gatherSums_63) (fun H locs hP hD hS => ?_)
        refine lv_if_eq (tgt := 92) hx hb dX1_gatherSums_66 (by decide) (fun c6 => ?_) (fun c6 => ?_)
        · replace h := ifp c6 h
          refine lv_aload_n hx hb dX1_gatherSums_92 rfl (lv_at hl 1 rfl) ?_
          refine lv_iload hx hb dX1_gatherSums_93 (lv_at hl 6 rfl) ?_
          refine lv_iload hx hb dX1_gatherSums_95 (lv_at hl 0 rfl) ?_
          refine lv_isub hx hb dX1_gatherSums_97 ?_
          refine lv_iload hx hb dX1_gatherSums_98 (lv_at hl 5 rfl) ?_
          obtain ⟨r8, h7, h⟩ := bd1_some h
          refine goI C hD hS (runV (As := [.int (v6 - (v8 * v4)), .int v5]) (rest := []) (w := (xW G q σ)) C lc_RX1_71 (ctX1_fallsOn N σ (v6 - (v8 * v4)) v5 r8 h7 _) hP hD hS (va_recv C.2.2.2.2.2.1 hP (ci := 1) (q0 := 1) rfl rfl) hl.1 rfl rfl (by decide) (by decide) (Nat.le_of_ble_eq_true rfl) dX1_gatherSums_100) (fun H locs hP hD hS => ?_)
          refine lv_if_eq (tgt := 129) hx hb dX1_gatherSums_103 (by decide) (fun c9 => ?_) (fun c9 => ?_)
          · replace h := ifp c9 h
            refine lv_iinc (v := (v8 + 1)) (lv' := [(8, .int (v8 + 1)), (9, .int (v8 * v4)), (0, .ref (q 1)), (1, .int v1), (2, .int v2), (4, .int v4), (5, .int v5), (6, .int v6), (7, .int v7)]) hx hb dX1_gatherSums_129 hl (k := 8) rfl (by first | rfl | decide) (by decide) rfl (fun ls hl => ?_)
            refine lv_goto (tgt := 24) hx hb dX1_gatherSums_132 (by decide) ?_
            exact ih (v8 + 1) σ _ _ _ h hP hD hS (lv_sub hl [2, 3, 4, 5, 6, 7, 8, 0] rfl)
          · replace h := ifn c9 h
            refine lv_aload_n hx hb dX1_gatherSums_106 rfl (lv_at hl 1 rfl) ?_
            refine gf_RX1_24 C hP dX1_gatherSums_107 ?_
            refine lv_iload_n hx hb dX1_gatherSums_110 rfl (lv_at hl 2 rfl) ?_
            refine lv_iload_n hx hb dX1_gatherSums_111 rfl (lv_at hl 3 rfl) ?_
            refine lv_iload hx hb dX1_gatherSums_112 (lv_at hl 8 rfl) ?_
            refine lv_iconst (v := 0) hx hb dX1_gatherSums_114 (by decide) ?_
            refine lv_aload_n hx hb dX1_gatherSums_115 rfl (lv_at hl 1 rfl) ?_
            refine gf_RX1_15 C hP dX1_gatherSums_116 ?_
            refine lv_iload_n hx hb dX1_gatherSums_119 rfl (lv_at hl 2 rfl) ?_
            obtain ⟨i10, h⟩ := gi_some h
            refine ldX_1 C hP i10 dX1_gatherSums_120 ?_
            refine lv_iload_n hx hb dX1_gatherSums_121 rfl (lv_at hl 3 rfl) ?_
            refine lv_iload hx hb dX1_gatherSums_122 (lv_at hl 8 rfl) ?_
            refine lv_imul hx hb dX1_gatherSums_124 ?_
            obtain ⟨n11, h⟩ := nz_some h
            refine lv_idiv hx hb dX1_gatherSums_125 n11 ?_
            obtain ⟨σ13, h12, h⟩ := bd1_some h
            refine goV C hD hS (runV (As := [.int v1, .int v2, .int v8, .int 0, .int ((σ.2 1 v1.toNatClampNeg) / (v2 * v8))]) (rest := []) (w := (xW G q σ)) C lc_RX1_97 (ctX4_take N σ σ13 v1 v2 v8 0 ((σ.2 1 v1.toNatClampNeg) / (v2 * v8)) h12 _) hP hD hS (va_recv C.2.2.2.2.2.1 hP (ci := 4) (q0 := 2) rfl rfl) hl.1 rfl rfl (by decide) (by decide) (Nat.le_of_ble_eq_true rfl) dX1_gatherSums_126) (fun H locs hP hD hS => ?_)
            refine lv_iinc (v := (v8 + 1)) (lv' := [(8, .int (v8 + 1)), (9, .int (v8 * v4)), (0, .ref (q 1)), (1, .int v1), (2, .int v2), (4, .int v4), (5, .int v5), (6, .int v6), (7, .int v7)]) hx hb dX1_gatherSums_129 hl (k := 8) rfl (by first | rfl | decide) (by decide) rfl (fun ls hl => ?_)
            refine lv_goto (tgt := 24) hx hb dX1_gatherSums_132 (by decide) ?_
            exact ih (v8 + 1) σ13 _ _ _ h hP hD hS (lv_sub hl [2, 3, 4, 5, 6, 7, 8, 0] rfl)
        · replace h := ifn c6 h
          refine lv_aload_n hx hb dX1_gatherSums_69 rfl (lv_at hl 1 rfl) ?_
          refine gf_RX1_24 C hP dX1_gatherSums_70 ?_
          refine lv_iload_n hx hb dX1_gatherSums_73 rfl (lv_at hl 2 rfl) ?_
          refine lv_iload_n hx hb dX1_gatherSums_74 rfl (lv_at hl 3 rfl) ?_
          refine lv_iload hx hb dX1_gatherSums_75 (lv_at hl 8 rfl) ?_
          refine lv_iconst (v := 1) hx hb dX1_gatherSums_77 (by decide) ?_
          refine lv_aload_n hx hb dX1_gatherSums_78 rfl (lv_at hl 1 rfl) ?_
          refine gf_RX1_15 C hP dX1_gatherSums_79 ?_
          refine lv_iload_n hx hb dX1_gatherSums_82 rfl (lv_at hl 2 rfl) ?_
          obtain ⟨i14, h⟩ := gi_some h
          refine ldX_1 C hP i14 dX1_gatherSums_83 ?_
          refine lv_iload_n hx hb dX1_gatherSums_84 rfl (lv_at hl 3 rfl) ?_
          refine lv_iload hx hb dX1_gatherSums_85 (lv_at hl 8 rfl) ?_
          refine lv_imul hx hb dX1_gatherSums_87 ?_
          obtain ⟨n15, h⟩ := nz_some h
          refine lv_idiv hx hb dX1_gatherSums_88 n15 ?_
          obtain ⟨σ17, h16, h⟩ := bd1_some h
          refine goV C hD hS (runV (As := [.int v1, .int v2, .int v8, .int 1, .int ((σ.2 1 v1.toNatClampNeg) / (v2 * v8))]) (rest := []) (w := (xW G q σ)) C lc_RX1_97 (ctX4_take N σ σ17 v1 v2 v8 1 ((σ.2 1 v1.toNatClampNeg) / (v2 * v8)) h16 _) hP hD hS (va_recv C.2.2.2.2.2.1 hP (ci := 4) (q0 := 2) rfl rfl) hl.1 rfl rfl (by decide) (by decide) (Nat.le_of_ble_eq_true rfl) dX1_gatherSums_89) (fun H locs hP hD hS => ?_)
          refine lv_aload_n hx hb dX1_gatherSums_92 rfl (lv_at hl 1 rfl) ?_
          refine lv_iload hx hb dX1_gatherSums_93 (lv_at hl 6 rfl) ?_
          refine lv_iload hx hb dX1_gatherSums_95 (lv_at hl 0 rfl) ?_
          refine lv_isub hx hb dX1_gatherSums_97 ?_
          refine lv_iload hx hb dX1_gatherSums_98 (lv_at hl 5 rfl) ?_
          obtain ⟨r19, h18, h⟩ := bd1_some h
          refine goI C hD hS (runV (As := [.int (v6 - (v8 * v4)), .int v5]) (rest := []) (w := (xW G q σ17)) C lc_RX1_71 (ctX1_fallsOn N σ17 (v6 - (v8 * v4)) v5 r19 h18 _) hP hD hS (va_recv C.2.2.2.2.2.1 hP (ci := 1) (q0 := 1) rfl rfl) hl.1 rfl rfl (by decide) (by decide) (Nat.le_of_ble_eq_true rfl) dX1_gatherSums_100) (fun H locs hP hD hS => ?_)
          refine lv_if_eq (tgt := 129) hx hb dX1_gatherSums_103 (by decide) (fun c20 => ?_) (fun c20 => ?_)
          · replace h := ifp c20 h
            refine lv_iinc (v := (v8 + 1)) (lv' := [(8, .int (v8 + 1)), (9, .int (v8 * v4)), (0, .ref (q 1)), (1, .int v1), (2, .int v2), (4, .int v4), (5, .int v5), (6, .int v6), (7, .int v7)]) hx hb dX1_gatherSums_129 hl (k := 8) rfl (by first | rfl | decide) (by decide) rfl (fun ls hl => ?_)
            refine lv_goto (tgt := 24) hx hb dX1_gatherSums_132 (by decide) ?_
            exact ih (v8 + 1) σ17 _ _ _ h hP hD hS (lv_sub hl [2, 3, 4, 5, 6, 7, 8, 0] rfl)
          · replace h := ifn c20 h
            refine lv_aload_n hx hb dX1_gatherSums_106 rfl (lv_at hl 1 rfl) ?_
            refine gf_RX1_24 C hP dX1_gatherSums_107 ?_
            refine lv_iload_n hx hb dX1_gatherSums_110 rfl (lv_at hl 2 rfl) ?_
            refine lv_iload_n hx hb dX1_gatherSums_111 rfl (lv_at hl 3 rfl) ?_
            refine lv_iload hx hb dX1_gatherSums_112 (lv_at hl 8 rfl) ?_
            refine lv_iconst (v := 0) hx hb dX1_gatherSums_114 (by decide) ?_
            refine lv_aload_n hx hb dX1_gatherSums_115 rfl (lv_at hl 1 rfl) ?_
            refine gf_RX1_15 C hP dX1_gatherSums_116 ?_
            refine lv_iload_n hx hb dX1_gatherSums_119 rfl (lv_at hl 2 rfl) ?_
            obtain ⟨i21, h⟩ := gi_some h
            refine ldX_1 C hP i21 dX1_gatherSums_120 ?_
            refine lv_iload_n hx hb dX1_gatherSums_121 rfl (lv_at hl 3 rfl) ?_
            refine lv_iload hx hb dX1_gatherSums_122 (lv_at hl 8 rfl) ?_
            refine lv_imul hx hb dX1_gatherSums_124 ?_
            obtain ⟨n22, h⟩ := nz_some h
            refine lv_idiv hx hb dX1_gatherSums_125 n22 ?_
            obtain ⟨σ24, h23, h⟩ := bd1_some h
            refine goV C hD hS (runV (As := [.int v1, .int v2, .int v8, .int 0, .int ((σ17.2 1 v1.toNatClampNeg) / (v2 * v8))]) (rest := []) (w := (xW G q σ17)) C lc_RX1_97 (ctX4_take N σ17 σ24 v1 v2 v8 0 ((σ17.2 1 v1.toNatClampNeg) / (v2 * v8)) h23 _) hP hD hS (va_recv C.2.2.2.2.2.1 hP (ci := 4) (q0 := 2) rfl rfl) hl.1 rfl rfl (by decide) (by decide) (Nat.le_of_ble_eq_true rfl) dX1_gatherSums_126) (fun H locs hP hD hS => ?_)
            refine lv_iinc (v := (v8 + 1)) (lv' := [(8, .int (v8 + 1)), (9, .int (v8 * v4)), (0, .ref (q 1)), (1, .int v1), (2, .int v2), (4, .int v4), (5, .int v5), (6, .int v6), (7, .int v7)]) hx hb dX1_gatherSums_129 hl (k := 8) rfl (by first | rfl | decide) (by decide) rfl (fun ls hl => ?_)
            refine lv_goto (tgt := 24) hx hb dX1_gatherSums_132 (by decide) ?_
            exact ih (v8 + 1) σ24 _ _ _ h hP hD hS (lv_sub hl [2, 3, 4, 5, 6, 7, 8, 0] rfl)
      · replace h := ifn c3 h
        refine lv_goto (tgt := 135) hx hb dX1_gatherSums_52 (by decide) ?_
        obtain rfl := so1 h
        exact retV C hP hD hS dX1_gatherSums_135

def fX1_gatherSums (N : Nat) (σ : St) (a1 : Int32) (a2 : Int32) (a3 : Int32) (a4 : Int32) (a5 : Int32) : Option St :=
  gi a1 20 (fX1_gatherSums_L24 N a1 a2 a4 a5 (a2 * (σ.2 0 a1.toNatClampNeg)) (a5 + (σ.2 2 (3 : Int32).toNatClampNeg)) N a3 σ)
set_option maxHeartbeats 4000000 in
set_option maxRecDepth 100000 in
theorem ctX1_gatherSums {G : GP} {l : Launch} {q : Nat → Nat} (N : Nat) (σ σ' : St) (a1 : Int32) (a2 : Int32) (a3 : Int32) (a4 : Int32) (a5 : Int32) (h : fX1_gatherSums N σ a1 a2 a3 a4 a5 = some σ') : CV G l yX1_gatherSums cX1_gatherSums 10 none 2 [.ref (q 1), .int a1, .int a2, .int a3, .int a4, .int a5] (xW G q σ) (xW G q (σ')) := by
  refine enterV (own := RX1) (by decide) rfl (Nat.le_of_ble_eq_true rfl) ?_
  intro p e s m args below meth c A C hP hD hS ls hl
  obtain ⟨hx, hb, hml, hown, hts, hK, hZ, hA, hlk, hr⟩ := id C
  have hl : lv_has ls 10 [(0, .ref (q 1)), (1, .int a1), (2, .int a2), (3, .int a3), (4, .int a4), (5, .int a5)] := hl
  rw [fX1_gatherSums.eq_1] at h
  refine lv_iload_n hx hb dX1_gatherSums_0 rfl (lv_at hl 2 rfl) ?_
  refine lv_aload_n hx hb dX1_gatherSums_1 rfl (lv_at hl 0 rfl) ?_
  refine gf_RX1_9 C hP dX1_gatherSums_2 ?_
  refine lv_iload_n hx hb dX1_gatherSums_5 rfl (lv_at hl 1 rfl) ?_
  obtain ⟨i1, h⟩ := gi_some h
  refine ldX_0 C hP i1 dX1_gatherSums_6 ?_
  refine lv_imul hx hb dX1_gatherSums_7 ?_
  refine lv_istore (lv' := [(6, .int (a2 * (σ.2 0 a1.toNatClampNeg))), (0, .ref (q 1)), (1, .int a1), (2, .int a2), (3, .int a3), (4, .int a4), (5, .int a5)]) hx hb dX1_gatherSums_8 hl (by decide) rfl (fun ls hl => ?_)
  refine lv_iload hx hb dX1_gatherSums_10 (lv_at hl 6 rfl) ?_
  refine lv_aload_n hx hb dX1_gatherSums_12 rfl (lv_at hl 1 rfl) ?_
  refine gf_RX1_18 C hP dX1_gatherSums_13 ?_
  refine lv_iconst (v := 3) hx hb dX1_gatherSums_16 (by decide) ?_
  refine ldX_2 C hP (vin (by decide)) dX1_gatherSums_17 ?_
  refine lv_iadd hx hb dX1_gatherSums_18 ?_
  refine lv_istore (lv' := [(7, .int (a5 + (σ.2 2 (3 : Int32).toNatClampNeg))), (6, .int (a2 * (σ.2 0 a1.toNatClampNeg))), (0, .ref (q 1)), (1, .int a1), (2, .int a2), (3, .int a3), (4, .int a4), (5, .int a5)]) hx hb dX1_gatherSums_19 hl (by decide) rfl (fun ls hl => ?_)
  refine lv_iload_n hx hb dX1_gatherSums_21 rfl (lv_at hl 5 rfl) ?_
  refine lv_istore (lv' := [(8, .int a3), (7, .int (a5 + (σ.2 2 (3 : Int32).toNatClampNeg))), (6, .int (a2 * (σ.2 0 a1.toNatClampNeg))), (0, .ref (q 1)), (1, .int a1), (2, .int a2), (3, .int a3), (4, .int a4), (5, .int a5)]) hx hb dX1_gatherSums_22 hl (by decide) rfl (fun ls hl => ?_)
  exact wX1_gatherSums_L24 C N a1 a2 a4 a5 (a2 * (σ.2 0 a1.toNatClampNeg)) (a5 + (σ.2 2 (3 : Int32).toNatClampNeg)) σ' N a3 σ _ _ _ h hP hD hS (lv_sub hl [3, 4, 5, 7, 8, 2, 1, 0] rfl)

def fX4_begin (N : Nat) (σ : St) (a1 : Int32) : Option St :=
  some (s1 (s1 (s1 (s1 (s1 σ 1 a1) 2 0) 3 0) 4 (-1)) 5 (-1))
set_option maxHeartbeats 4000000 in
set_option maxRecDepth 100000 in
theorem ctX4_begin {G : GP} {l : Launch} {q : Nat → Nat} (N : Nat) (σ σ' : St) (a1 : Int32) (h : fX4_begin N σ a1 = some σ') : CV G l yX4_begin cX4_begin 2 none 0 [.ref (q 2), .int a1] (xW G q σ) (xW G q (σ')) := by
  refine enterV (own := RX4) (by decide) rfl (Nat.le_of_ble_eq_true rfl) ?_
  intro p e s m args below meth c A C hP hD hS ls hl
  obtain ⟨hx, hb, hml, hown, hts, hK, hZ, hA, hlk, hr⟩ := id C
  have hl : lv_has ls 2 [(0, .ref (q 2)), (1, .int a1)] := hl
  rw [fX4_begin.eq_1] at h
  refine lv_aload_n hx hb dX4_begin_0 rfl (lv_at hl 0 rfl) ?_
  refine lv_iload_n hx hb dX4_begin_1 rfl (lv_at hl 1 rfl) ?_
  refine pf_RX4_15 C hP hD hS dX4_begin_2 (fun H locs hP hD hS => ?_)
  refine lv_aload_n hx hb dX4_begin_5 rfl (lv_at hl 0 rfl) ?_
  refine lv_iconst (v := 0) hx hb dX4_begin_6 (by decide) ?_
  refine pf_RX4_19 C hP hD hS dX4_begin_7 (fun H locs hP hD hS => ?_)
  refine lv_aload_n hx hb dX4_begin_10 rfl (lv_at hl 0 rfl) ?_
  refine lv_iconst (v := 0) hx hb dX4_begin_11 (by decide) ?_
  refine pf_RX4_22 C hP hD hS dX4_begin_12 (fun H locs hP hD hS => ?_)
  refine lv_aload_n hx hb dX4_begin_15 rfl (lv_at hl 0 rfl) ?_
  refine lv_iconst (v := (-1)) hx hb dX4_begin_16 (by decide) ?_
  refine pf_RX4_25 C hP hD hS dX4_begin_17 (fun H locs hP hD hS => ?_)
  refine lv_aload_n hx hb dX4_begin_20 rfl (lv_at hl 0 rfl) ?_
  refine lv_iconst (v := (-1)) hx hb dX4_begin_21 (by decide) ?_
  refine pf_RX4_28 C hP hD hS dX4_begin_22 (fun H locs hP hD hS => ?_)
  obtain rfl := so1 h
  exact retV C hP hD hS dX4_begin_25

def fX1_gather_L37 (N : Nat) (v1 : Int32) (v2 : Int32) (v4 : Int32) (v5 : Int32) : Nat → Int32 → St → Option (St)
  | 0, _, _ => none
  | n + 1, v6, σ => (if (σ.2 2 (2 : Int32).toNatClampNeg) < v6 then some σ else (if v5 = v1 then (if v6 = 1 then bd1 (fX1_gatherSums N σ v5 v6 2 v4 v2) (fun σ15 => fX1_gather_L37 N v1 v2 v4 v5 n (v6 + 1) σ15) else bd1 (fX1_gatherSums N σ v5 v6 1 v4 v2) (fun σ13 => fX1_gather_L37 N v1 v2 v4 v5 n (v6 + 1) σ13)) else bd1 (fX1_gatherSums N σ v5 v6 1 v4 v2) (fun σ10 => fX1_gather_L37 N v1 v2 v4 v5 n (v6 + 1) σ10)))
set_option maxHeartbeats 4000000 in
set_option maxRecDepth 100000 in
theorem wX1_gather_L37 {q : Nat → Nat} (C : Cx G p s m args meth c cX1_gather 8 none (Cond.code yX1_gather cX1_gather 8 none) RX1 A) (N : Nat) (v1 : Int32) (v2 : Int32) (v4 : Int32) (v5 : Int32)  (σ' : St) (K : ∀ H locs ls, va_P G.1 vwCl (xW G q (σ')) H → va_D A (xW G q (σ')) → va_S A s.heap H locs → lv_has ls 8 [(0, .ref (q 1)), (1, .int v1), (2, .int v2), (4, .int v4), (5, .int v5)] → W p l e (rmD 3) s m args below meth c H locs 0 0 Q (F0 m 86 ls [])) : ∀ (n : Nat) (v6 : Int32) (σ : St) (H : Heap) (locs : List Loc) (ls : Array Slot), fX1_gather_L37 N v1 v2 v4 v5 n v6 σ = some σ' → va_P G.1 vwCl (xW G q σ) H → va_D A (xW G q σ) → va_S A s.heap H locs → lv_has ls 8 [(0, .ref (q 1)), (1, .int v1), (2, .int v2), (4, .int v4), (5, .int v5), (6, .int v6)] → W p l e (rmD 3) s m args below meth c H locs 0 0 Q (F0 m 37 ls []) := by
  obtain ⟨hx, hb, hml, hown, hts, hK, hZ, hA, hlk, hr⟩ := id C
  intro n
  induction n with
  | zero =>
    intro v6 σ H locs ls h
    cases h
  | succ n ih =>
    intro v6 σ H locs ls h hP hD hS hl
    rw [fX1_gather_L37.eq_2] at h
    refine lv_iload hx hb dX1_gather_37 (lv_at hl 5 rfl) ?_
    refine lv_aload_n hx hb dX1_gather_39 rfl (lv_at hl 0 rfl) ?_
    refine gf_RX1_18 C hP dX1_gather_40 ?_
    refine lv_iconst (v := 2) hx hb dX1_gather_43 (by decide) ?_
    refine ldX_2 C hP (vin (by decide)) dX1_gather_44 ?_
    refine lv_icmp_gt (tgt := 86) hx hb dX1_gather_45 (by decide) (fun c7 => ?_) (fun c7 => ?_)
    · replace h := ifp c7 h
      obtain rfl := so1 h
      exact K _ _ _ hP hD hS (lv_sub hl [0, 1, 2, 3, 4] rfl)
    · replace h := ifn c7 h
      refine lv_iload hx hb dX1_gather_48 (lv_at hl 4 rfl) ?_
      refine lv_iload_n hx hb dX1_gather_50 rfl (lv_at hl 1 rfl) ?_
      refine lv_icmp_ne (tgt := 64) hx hb dX1_gather_51 (by decide) (fun c8 => ?_) (fun c8 => ?_)
      · replace h := ifn c8 h
        refine lv_iconst (v := 1) hx hb dX1_gather_64 (by decide) ?_
        refine lv_istore (lv' := [(7, .int 1), (0, .ref (q 1)), (1, .int v1), (2, .int v2), (4, .int v4), (5, .int v5), (6, .int v6)]) hx hb dX1_gather_65 hl (by decide) rfl (fun ls hl => ?_)
        refine lv_aload_n hx hb dX1_gather_67 rfl (lv_at hl 1 rfl) ?_
        refine lv_iload hx hb dX1_gather_68 (lv_at hl 5 rfl) ?_
        refine lv_iload hx hb dX1_gather_70 (lv_at hl 6 rfl) ?_
        refine lv_iload hx hb dX1_gather_72 (lv_at hl 0 rfl) ?_
        refine lv_iload hx hb dX1_gather_74 (lv_at hl 4 rfl) ?_
        refine lv_iload_n hx hb dX1_gather_76 rfl (lv_at hl 3 rfl) ?_
        obtain ⟨σ10, h9, h⟩ := bd1_some h
        refine goV C hD hS (runV (As := [.int v5, .int v6, .int 1, .int v4, .int v2]) (rest := []) (w := (xW G q σ)) C lc_RX1_93 (ctX1_gatherSums N σ σ10 v5 v6 1 v4 v2 h9 _) hP hD hS (va_recv C.2.2.2.2.2.1 hP (ci := 1) (q0 := 1) rfl rfl) hl.1 rfl rfl (by decide) (by decide) (Nat.le_of_ble_eq_true rfl) dX1_gather_77) (fun H locs hP hD hS => ?_)
        refine lv_iinc (v := (v6 + 1)) (lv' := [(6, .int (v6 + 1)), (7, .int 1), (0, .ref (q 1)), (1, .int v1), (2, .int v2), (4, .int v4), (5, .int v5)]) hx hb dX1_gather_80 hl (k := 6) rfl (by first | rfl | decide) (by decide) rfl (fun ls hl => ?_)
        refine lv_goto (tgt := 37) hx hb dX1_gather_83 (by decide) ?_
        exact ih (v6 + 1) σ10 _ _ _ h hP hD hS (lv_sub hl [2, 3, 4, 5, 6, 0] rfl)
      · replace h := ifp c8 h
        refine lv_iload hx hb dX1_gather_54 (lv_at hl 5 rfl) ?_
        refine lv_iconst (v := 1) hx hb dX1_gather_56 (by decide) ?_
        refine lv_icmp_ne (tgt := 64) hx hb dX1_gather_57 (by decide) (fun c11 => ?_) (fun c11 => ?_)
        · replace h := ifn c11 h
          refine lv_iconst (v := 1) hx hb dX1_gather_64 (by decide) ?_
          refine lv_istore (lv' := [(7, .int 1), (0, .ref (q 1)), (1, .int v1), (2, .int v2), (4, .int v4), (5, .int v5), (6, .int v6)]) hx hb dX1_gather_65 hl (by decide) rfl (fun ls hl => ?_)
          refine lv_aload_n hx hb dX1_gather_67 rfl (lv_at hl 1 rfl) ?_
          refine lv_iload hx hb dX1_gather_68 (lv_at hl 5 rfl) ?_
          refine lv_iload hx hb dX1_gather_70 (lv_at hl 6 rfl) ?_
          refine lv_iload hx hb dX1_gather_72 (lv_at hl 0 rfl) ?_
          refine lv_iload hx hb dX1_gather_74 (lv_at hl 4 rfl) ?_
          refine lv_iload_n hx hb dX1_gather_76 rfl (lv_at hl 3 rfl) ?_
          obtain ⟨σ13, h12, h⟩ := bd1_some h
          refine goV C hD hS (runV (As := [.int v5, .int v6, .int 1, .int v4, .int v2]) (rest := []) (w := (xW G q σ)) C lc_RX1_93 (ctX1_gatherSums N σ σ13 v5 v6 1 v4 v2 h12 _) hP hD hS (va_recv C.2.2.2.2.2.1 hP (ci := 1) (q0 := 1) rfl rfl) hl.1 rfl rfl (by decide) (by decide) (Nat.le_of_ble_eq_true rfl) dX1_gather_77) (fun H locs hP hD hS => ?_)
          refine lv_iinc (v := (v6 + 1)) (lv' := [(6, .int (v6 + 1)), (7, .int 1), (0, .ref (q 1)), (1, .int v1), (2, .int v2), (4, .int v4), (5, .int v5)]) hx hb dX1_gather_80 hl (k := 6) rfl (by first | rfl | decide) (by decide) rfl (fun ls hl => ?_)
          refine lv_goto (tgt := 37) hx hb dX1_gather_83 (by decide) ?_
          exact ih (v6 + 1) σ13 _ _ _ h hP hD hS (lv_sub hl [2, 3, 4, 5, 6, 0] rfl)
        · replace h := ifp c11 h
          refine lv_iconst (v := 2) hx hb dX1_gather_60 (by decide) ?_
          refine lv_goto (tgt := 65) hx hb dX1_gather_61 (by decide) ?_
          refine lv_istore (lv' := [(7, .int 2), (0, .ref (q 1)), (1, .int v1), (2, .int v2), (4, .int v4), (5, .int v5), (6, .int v6)]) hx hb dX1_gather_65 hl (by decide) rfl (fun ls hl => ?_)
          refine lv_aload_n hx hb dX1_gather_67 rfl (lv_at hl 1 rfl) ?_
          refine lv_iload hx hb dX1_gather_68 (lv_at hl 5 rfl) ?_
          refine lv_iload hx hb dX1_gather_70 (lv_at hl 6 rfl) ?_
          refine lv_iload hx hb dX1_gather_72 (lv_at hl 0 rfl) ?_
          refine lv_iload hx hb dX1_gather_74 (lv_at hl 4 rfl) ?_
          refine lv_iload_n hx hb dX1_gather_76 rfl (lv_at hl 3 rfl) ?_
          obtain ⟨σ15, h14, h⟩ := bd1_some h
          refine goV C hD hS (runV (As := [.int v5, .int v6, .int 2, .int v4, .int v2]) (rest := []) (w := (xW G q σ)) C lc_RX1_93 (ctX1_gatherSums N σ σ15 v5 v6 2 v4 v2 h14 _) hP hD hS (va_recv C.2.2.2.2.2.1 hP (ci := 1) (q0 := 1) rfl rfl) hl.1 rfl rfl (by decide) (by decide) (Nat.le_of_ble_eq_true rfl) dX1_gather_77) (fun H locs hP hD hS => ?_)
          refine lv_iinc (v := (v6 + 1)) (lv' := [(6, .int (v6 + 1)), (7, .int 2), (0, .ref (q 1)), (1, .int v1), (2, .int v2), (4, .int v4), (5, .int v5)]) hx hb dX1_gather_80 hl (k := 6) rfl (by first | rfl | decide) (by decide) rfl (fun ls hl => ?_)
          refine lv_goto (tgt := 37) hx hb dX1_gather_83 (by decide) ?_
          exact ih (v6 + 1) σ15 _ _ _ h hP hD hS (lv_sub hl [2, 3, 4, 5, 6, 0] rfl)

def fX1_gather_L25 (N : Nat) (v1 : Int32) (v2 : Int32) (v4 : Int32) : Nat → Int32 → St → Option St
  | 0, _, _ => none
  | n + 1, v5, σ => (if (σ.1 0) ≤ v5 then some σ else bd1 (fX1_gather_L37 N v1 v2 v4 v5 N 1 σ) (fun σ16 => fX1_gather_L25 N v1 v2 v4 n (v5 + 1) σ16))
set_option maxHeartbeats 4000000 in
set_option maxRecDepth 100000 in
theorem wX1_gather_L25 {q : Nat → Nat} (C : Cx G p s m args meth c cX1_gather 8 none (Cond.code yX1_gather cX1_gather 8 none) RX1 A) (N : Nat) (v1 : Int32) (v2 : Int32) (v4 : Int32) (σ' : St) : ∀ (n : Nat) (v5 : Int32) (σ : St) (H : Heap) (locs : List Loc) (ls : Array Slot), fX1_gather_L25 N v1 v2 v4 n v5 σ = some σ' → va_P G.1 vwCl (xW G q σ) H → va_D A (xW G q σ) → va_S A s.heap H locs → lv_has ls 8 [(0, .ref (q 1)), (1, .int v1), (2, .int v2), (4, .int v4), (5, .int v5)] → W p l e (rmD 3) s m args below meth c H locs 0 0 (QV G below args s A (xW G q (σ'))) (F0 m 25 ls []) := by
  obtain ⟨hx, hb, hml, hown, hts, hK, hZ, hA, hlk, hr⟩ := id C
  intro n
  induction n with
  | zero =>
    intro v5 σ H locs ls h
    cases h
  | succ n ih =>
    intro v5 σ H locs ls h hP hD hS hl
    rw [fX1_gather_L25.eq_2] at h
    refine lv_iload hx hb dX1_gather_25 (lv_at hl 4 rfl) ?_
    refine lv_aload_n hx hb dX1_gather_27 rfl (lv_at hl 0 rfl) ?_
    refine gf_RX1_28 C hP dX1_gather_28 ?_
    refine lv_icmp_ge (tgt := 92) hx hb dX1_gather_31 (by decide) (fun c6 => ?_) (fun c6 => ?_)
    · replace h := ifp c6 h
      obtain rfl := so1 h
      exact retV C hP hD hS dX1_gather_92
    · replace h := ifn c6 h
      refine lv_iconst (v := 1) hx hb dX1_gather_34 (by decide) ?_
      refine lv_istore (lv' := [(6, .int 1), (0, .ref (q 1)), (1, .int v1), (2, .int v2), (4, .int v4), (5, .int v5)]) hx hb dX1_gather_35 hl (by decide) rfl (fun ls hl => ?_)
      obtain ⟨σ16, h17, h⟩ := bd1_some h
      refine wX1_gather_L37 C N v1 v2 v4 v5 σ16 (fun H locs ls hP hD hS hl => ?_) N 1 σ _ _ _ h17 hP hD hS (lv_sub hl [1, 2, 3, 4, 5, 0] rfl)
      refine lv_iinc (v := (v5 + 1)) (lv' := [(5, .int (v5 + 1)), (0, .ref (q 1)), (1, .int v1), (2, .int v2), (4, .int v4)]) hx hb dX1_gather_86 hl (k := 4) rfl (by first | rfl | decide) (by decide) rfl (fun ls hl => ?_)
      refine lv_goto (tgt := 25) hx hb dX1_gather_89 (by decide) ?_
      exact ih (v5 + 1) σ16 _ _ _ h hP hD hS (lv_sub hl [1, 2, 3, 4, 0] rfl)

def fX1_gather (N : Nat) (σ : St) (a1 : Int32) (a2 : Int32) (a3 : Int32) : Option St :=
  bd1 (fX4_begin N σ a3) (fun σ2 => bd1 (fX1_oscillatorFor N σ2 a1 a2) (fun r4 => (if 0 < r4 then fX1_gather_L25 N a1 a2 r4 N 0 σ2 else some σ2)))
set_option maxHeartbeats 4000000 in
set_option maxRecDepth 100000 in
theorem ctX1_gather {G : GP} {l : Launch} {q : Nat → Nat} (N : Nat) (σ σ' : St) (a1 : Int32) (a2 : Int32) (a3 : Int32) (h : fX1_gather N σ a1 a2 a3 = some σ') : CV G l yX1_gather cX1_gather 8 none 3 [.ref (q 1), .int a1, .int a2, .int a3] (xW G q σ) (xW G q (σ')) := by
  refine enterV (own := RX1) (by decide) rfl (Nat.le_of_ble_eq_true rfl) ?_
  intro p e s m args below meth c A C hP hD hS ls hl
  obtain ⟨hx, hb, hml, hown, hts, hK, hZ, hA, hlk, hr⟩ := id C
  have hl : lv_has ls 8 [(0, .ref (q 1)), (1, .int a1), (2, .int a2), (3, .int a3)] := hl
  rw [fX1_gather.eq_1] at h
  refine lv_aload_n hx hb dX1_gather_0 rfl (lv_at hl 0 rfl) ?_
  refine gf_RX1_24 C hP dX1_gather_1 ?_
  refine lv_iload_n hx hb dX1_gather_4 rfl (lv_at hl 3 rfl) ?_
  obtain ⟨σ2, h1, h⟩ := bd1_some h
  refine goV C hD hS (runV (As := [.int a3]) (rest := []) (w := (xW G q σ)) C lc_RX1_89 (ctX4_begin N σ σ2 a3 h1 _) hP hD hS (va_recv C.2.2.2.2.2.1 hP (ci := 4) (q0 := 2) rfl rfl) hl.1 rfl rfl (by decide) (by decide) (Nat.le_of_ble_eq_true rfl) dX1_gather_5) (fun H locs hP hD hS => ?_)
  refine lv_aload_n hx hb dX1_gather_8 rfl (lv_at hl 0 rfl) ?_
  refine lv_iload_n hx hb dX1_gather_9 rfl (lv_at hl 1 rfl) ?_
  refine lv_iload_n hx hb dX1_gather_10 rfl (lv_at hl 2 rfl) ?_
  obtain ⟨r4, h3, h⟩ := bd1_some h
  refine goI C hD hS (runV (As := [.int a1, .int a2]) (rest := []) (w := (xW G q σ2)) C lc_RX1_67 (ctX1_oscillatorFor N σ2 a1 a2 r4 h3 _) hP hD hS (va_recv C.2.2.2.2.2.1 hP (ci := 1) (q0 := 1) rfl rfl) hl.1 rfl rfl (by decide) (by decide) (Nat.le_of_ble_eq_true rfl) dX1_gather_11) (fun H locs hP hD hS => ?_)
  refine lv_istore (lv' := [(4, .int r4), (0, .ref (q 1)), (1, .int a1), (2, .int a2), (3, .int a3)]) hx hb dX1_gather_14 hl (by decide) rfl (fun ls hl => ?_)
  refine lv_iload hx hb dX1_gather_16 (lv_at hl 0 rfl) ?_
  refine lv_if_gt (tgt := 22) hx hb dX1_gather_18 (by decide) (fun c5 => ?_) (fun c5 => ?_)
  · replace h := ifp c5 h
    refine lv_iconst (v := 0) hx hb dX1_gather_22 (by decide) ?_
    refine lv_istore (lv' := [(5, .int 0), (4, .int r4), (0, .ref (q 1)), (1, .int a1), (2, .int a2), (3, .int a3)]) hx hb dX1_gather_23 hl (by decide) rfl (fun ls hl => ?_)
    exact wX1_gather_L25 C N a1 a2 r4 σ' N 0 σ2 _ _ _ h hP hD hS (lv_sub hl [2, 3, 4, 1, 0] rfl)
  · replace h := ifn c5 h
    obtain rfl := so1 h
    exact retV C hP hD hS dX1_gather_21

def fX4_number (N : Nat) (σ : St) : Option Int32 :=
  some (σ.1 2)
set_option maxHeartbeats 4000000 in
set_option maxRecDepth 100000 in
theorem ctX4_number {G : GP} {l : Launch} {q : Nat → Nat} (N : Nat) (σ : St) (r : Int32) (h : fX4_number N σ = some r) : CI G l yX4_number cX4_number 1 (some .int) 0 [.ref (q 2)] (xW G q σ) (xW G q σ) r := by
  refine enterI (own := RX4) (by decide) rfl (Nat.le_of_ble_eq_true rfl) ?_
  intro p e s m args below meth c A C hP hD hS ls hl
  obtain ⟨hx, hb, hml, hown, hts, hK, hZ, hA, hlk, hr⟩ := id C
  have hl : lv_has ls 1 [(0, .ref (q 2))] := hl
  rw [fX4_number.eq_1] at h
  refine lv_aload_n hx hb dX4_number_0 rfl (lv_at hl 0 rfl) ?_
  refine gf_RX4_19 C hP dX4_number_1 ?_
  obtain rfl := so1 h
  exact retI C hP hD hS dX4_number_4

def fX1_spursOf (N : Nat) (σ : St) (a1 : Int32) : Option (Int32 × St) :=
  bd1 (fX1_middle N σ ) (fun r2 => bd1 (fX1_gather N σ a1 r2 (-1)) (fun σ4 => bd1 (fX4_number N σ4 ) (fun r6 => some (r6, σ4))))
set_option maxHeartbeats 4000000 in
set_option maxRecDepth 100000 in
theorem ctX1_spursOf {G : GP} {l : Launch} {q : Nat → Nat} (N : Nat) (σ σ' : St) (a1 : Int32) (r : Int32) (h : fX1_spursOf N σ a1 = some (r, σ')) : CI G l yX1_spursOf cX1_spursOf 2 (some .int) 4 [.ref (q 1), .int a1] (xW G q σ) (xW G q (σ')) r := by
  refine enterI (own := RX1) (by decide) rfl (Nat.le_of_ble_eq_true rfl) ?_
  intro p e s m args below meth c A C hP hD hS ls hl
  obtain ⟨hx, hb, hml, hown, hts, hK, hZ, hA, hlk, hr⟩ := id C
  have hl : lv_has ls 2 [(0, .ref (q 1)), (1, .int a1)] := hl
  rw [fX1_spursOf.eq_1] at h
  refine lv_aload_n hx hb dX1_spursOf_0 rfl (lv_at hl 0 rfl) ?_
  refine lv_iload_n hx hb dX1_spursOf_1 rfl (lv_at hl 1 rfl) ?_
  refine lv_aload_n hx hb dX1_spursOf_2 rfl (lv_at hl 0 rfl) ?_
  obtain ⟨r2, h1, h⟩ := bd1_some h
  refine goI C hD hS (runV (As := []) (rest := [.int a1, .ref (q 1)]) (w := (xW G q σ)) C lc_RX1_46 (ctX1_middle N σ  r2 h1 _) hP hD hS (va_recv C.2.2.2.2.2.1 hP (ci := 1) (q0 := 1) rfl rfl) hl.1 rfl rfl (by decide) (by decide) (Nat.le_of_ble_eq_true rfl) dX1_spursOf_3) (fun H locs hP hD hS => ?_)
  refine lv_iconst (v := (-1)) hx hb dX1_spursOf_6 (by decide) ?_
  obtain ⟨σ4, h3, h⟩ := bd1_some h
  refine goV C hD hS (runV (As := [.int a1, .int r2, .int (-1)]) (rest := []) (w := (xW G q σ)) C lc_RX1_50 (ctX1_gather N σ σ4 a1 r2 (-1) h3 _) hP hD hS (va_recv C.2.2.2.2.2.1 hP (ci := 1) (q0 := 1) rfl rfl) hl.1 rfl rfl (by decide) (by decide) (Nat.le_of_ble_eq_true rfl) dX1_spursOf_7) (fun H locs hP hD hS => ?_)
  refine lv_aload_n hx hb dX1_spursOf_10 rfl (lv_at hl 0 rfl) ?_
  refine gf_RX1_24 C hP dX1_spursOf_11 ?_
  obtain ⟨r6, h5, h⟩ := bd1_some h
  refine goI C hD hS (runV (As := []) (rest := []) (w := (xW G q σ4)) C lc_RX1_54 (ctX4_number N σ4  r6 h5 _) hP hD hS (va_recv C.2.2.2.2.2.1 hP (ci := 4) (q0 := 2) rfl rfl) hl.1 rfl rfl (by decide) (by decide) (Nat.le_of_ble_eq_true rfl) dX1_spursOf_14) (fun H locs hP hD hS => ?_)
  obtain ⟨rfl, rfl⟩ := so2 h
  exact retI C hP hD hS dX1_spursOf_17

def fX1_spursOfAll_L4 (N : Nat) : Nat → Int32 → Int32 → St → Option (Int32 × St)
  | 0, _, _, _ => none
  | n + 1, v1, v2, σ => (if (σ.1 0) ≤ v2 then some (v1, σ) else bd2 (fX1_spursOf N σ v2) (fun r4 σ3 => fX1_spursOfAll_L4 N n (v1 + r4) (v2 + 1) σ3))
set_option maxHeartbeats 4000000 in
set_option maxRecDepth 100000 in
theorem wX1_spursOfAll_L4 {q : Nat → Nat} (C : Cx G p s m args meth c cX1_spursOfAll 3 (some .int) (Cond.code yX1_spursOfAll cX1_spursOfAll 3 (some .int)) RX1 A) (N : Nat) (r : Int32) (σ' : St) : ∀ (n : Nat) (v1 : Int32) (v2 : Int32) (σ : St) (H : Heap) (locs : List Loc) (ls : Array Slot), fX1_spursOfAll_L4 N n v1 v2 σ = some (r, σ') → va_P G.1 vwCl (xW G q σ) H → va_D A (xW G q σ) → va_S A s.heap H locs → lv_has ls 3 [(0, .ref (q 1)), (1, .int v1), (2, .int v2)] → W p l e (rmD 5) s m args below meth c H locs 0 0 (QI G below args s A (xW G q (σ')) r) (F0 m 4 ls []) := by
  obtain ⟨hx, hb, hml, hown, hts, hK, hZ, hA, hlk, hr⟩ := id C
  intro n
  induction n with
  | zero =>
    intro v1 v2 σ H locs ls h
    cases h
  | succ n ih =>
    intro v1 v2 σ H locs ls h hP hD hS hl
    rw [fX1_spursOfAll_L4.eq_2] at h
    refine lv_iload_n hx hb dX1_spursOfAll_4 rfl (lv_at hl 2 rfl) ?_
    refine lv_aload_n hx hb dX1_spursOfAll_5 rfl (lv_at hl 0 rfl) ?_
    refine gf_RX1_28 C hP dX1_spursOfAll_6 ?_
    refine lv_icmp_ge (tgt := 26) hx hb dX1_spursOfAll_9 (by decide) (fun c1 => ?_) (fun c1 => ?_)
    · replace h := ifp c1 h
      refine lv_iload_n hx hb dX1_spursOfAll_26 rfl (lv_at hl 1 rfl) ?_
      obtain ⟨rfl, rfl⟩ := so2 h
      exact retI C hP hD hS dX1_spursOfAll_27
    · replace h := ifn c1 h
      refine lv_iload_n hx hb dX1_spursOfAll_12 rfl (lv_at hl 1 rfl) ?_
      refine lv_aload_n hx hb dX1_spursOfAll_13 rfl (lv_at hl 0 rfl) ?_
      refine lv_iload_n hx hb dX1_spursOfAll_14 rfl (lv_at hl 2 rfl) ?_
      obtain ⟨r4, σ3, h2, h⟩ := bd2_some h
      refine goI C hD hS (runV (As := [.int v2]) (rest := [.int v1]) (w := (xW G q σ)) C lc_RX1_57 (ctX1_spursOf N σ σ3 v2 r4 h2 _) hP hD hS (va_recv C.2.2.2.2.2.1 hP (ci := 1) (q0 := 1) rfl rfl) hl.1 rfl rfl (by decide) (by decide) (Nat.le_of_ble_eq_true rfl) dX1_spursOfAll_15) (fun H locs hP hD hS => ?_)
      refine lv_iadd hx hb dX1_spursOfAll_18 ?_
      refine lv_istore_n (lv' := [(1, .int (v1 + r4)), (0, .ref (q 1)), (2, .int v2)]) hx hb dX1_spursOfAll_19 rfl hl (by decide) rfl (fun ls hl => ?_)
      refine lv_iinc (v := (v2 + 1)) (lv' := [(2, .int (v2 + 1)), (1, .int (v1 + r4)), (0, .ref (q 1))]) hx hb dX1_spursOfAll_20 hl (k := 2) rfl (by first | rfl | decide) (by decide) rfl (fun ls hl => ?_)
      refine lv_goto (tgt := 4) hx hb dX1_spursOfAll_23 (by decide) ?_
      exact ih (v1 + r4) (v2 + 1) σ3 _ _ _ h hP hD hS (lv_sub hl [2, 1, 0] rfl)

def fX1_spursOfAll (N : Nat) (σ : St) : Option (Int32 × St) :=
  fX1_spursOfAll_L4 N N 0 0 σ
set_option maxHeartbeats 4000000 in
set_option maxRecDepth 100000 in
theorem ctX1_spursOfAll {G : GP} {l : Launch} {q : Nat → Nat} (N : Nat) (σ σ' : St) (r : Int32) (h : fX1_spursOfAll N σ = some (r, σ')) : CI G l yX1_spursOfAll cX1_spursOfAll 3 (some .int) 5 [.ref (q 1)] (xW G q σ) (xW G q (σ')) r := by
  refine enterI (own := RX1) (by decide) rfl (Nat.le_of_ble_eq_true rfl) ?_
  intro p e s m args below meth c A C hP hD hS ls hl
  obtain ⟨hx, hb, hml, hown, hts, hK, hZ, hA, hlk, hr⟩ := id C
  have hl : lv_has ls 3 [(0, .ref (q 1))] := hl
  rw [fX1_spursOfAll.eq_1] at h
  refine lv_iconst (v := 0) hx hb dX1_spursOfAll_0 (by decide) ?_
  refine lv_istore_n (lv' := [(1, .int 0), (0, .ref (q 1))]) hx hb dX1_spursOfAll_1 rfl hl (by decide) rfl (fun ls hl => ?_)
  refine lv_iconst (v := 0) hx hb dX1_spursOfAll_2 (by decide) ?_
  refine lv_istore_n (lv' := [(2, .int 0), (1, .int 0), (0, .ref (q 1))]) hx hb dX1_spursOfAll_3 rfl hl (by decide) rfl (fun ls hl => ?_)
  exact wX1_spursOfAll_L4 C N r σ' N 0 0 σ _ _ _ h hP hD hS (lv_sub hl [2, 1, 0] rfl)

def fX4_factOfWanted (N : Nat) (σ : St) (a1 : Int32) : Option Int32 :=
  bd1 (fX6_within N a1 0 4) (fun r2 => (if r2 = 0 then some (-1) else gi a1 5 (some (σ.2 3 a1.toNatClampNeg))))
set_option maxHeartbeats 4000000 in
set_option maxRecDepth 100000 in
theorem ctX4_factOfWanted {G : GP} {l : Launch} {q : Nat → Nat} (N : Nat) (σ : St) (a1 : Int32) (r : Int32) (h : fX4_factOfWanted N σ a1 = some r) : CI G l yX4_factOfWanted cX4_factOfWanted 2 (some .int) 1 [.ref (q 2), .int a1] (xW G q σ) (xW G q σ) r := by
  refine enterI (own := RX4) (by decide) rfl (Nat.le_of_ble_eq_true rfl) ?_
  intro p e s m args below meth c A C hP hD hS ls hl
  obtain ⟨hx, hb, hml, hown, hts, hK, hZ, hA, hlk, hr⟩ := id C
  have hl : lv_has ls 2 [(0, .ref (q 2)), (1, .int a1)] := hl
  rw [fX4_factOfWanted.eq_1] at h
  refine lv_iload_n hx hb dX4_factOfWanted_0 rfl (lv_at hl 1 rfl) ?_
  refine lv_iconst (v := 0) hx hb dX4_factOfWanted_1 (by decide) ?_
  refine lv_iconst (v := 4) hx hb dX4_factOfWanted_2 (by decide) ?_
  obtain ⟨r2, h1, h⟩ := bd1_some h
  refine goI C hD hS (runN (As := [.int a1, .int 0, .int 4]) (rest := []) (w := (xW G q σ)) C lc_RX4_31 C.2.2.2.2.2.2.1.2.2.1.2.2.2.1 (ctX6_within (w := (xW G q σ)) N a1 0 4 r2 h1 _) hP hD hS hl.1 rfl rfl (by decide) (by decide) (Nat.le_of_ble_eq_true rfl) dX4_factOfWanted_3) (fun H locs hP hD hS => ?_)
  refine lv_if_eq (tgt := 18) hx hb dX4_factOfWanted_6 (by decide) (fun c3 => ?_) (fun c3 => ?_)
  · replace h := ifp c3 h
    refine lv_iconst (v := (-1)) hx hb dX4_factOfWanted_18 (by decide) ?_
    obtain rfl := so1 h
    exact retI C hP hD hS dX4_factOfWanted_19
  · replace h := ifn c3 h
    refine lv_aload_n hx hb dX4_factOfWanted_9 rfl (lv_at hl 0 rfl) ?_
    refine gf_RX4_9 C hP dX4_factOfWanted_10 ?_
    refine lv_iload_n hx hb dX4_factOfWanted_13 rfl (lv_at hl 1 rfl) ?_
    obtain ⟨i4, h⟩ := gi_some h
    refine ldX_3 C hP i4 dX4_factOfWanted_14 ?_
    refine lv_goto (tgt := 19) hx hb dX4_factOfWanted_15 (by decide) ?_
    obtain rfl := so1 h
    exact retI C hP hD hS dX4_factOfWanted_19

def fX1_ofSpur (N : Nat) (σ : St) (a1 : Int32) (a2 : Int32) (a3 : Int32) : Option (Int32 × St) :=
  (if a2 < 0 then some ((-1), σ) else bd1 (fX6_within N a3 0 4) (fun r3 => (if r3 = 0 then some ((-1), σ) else bd1 (fX1_middle N σ ) (fun r6 => bd1 (fX1_gather N σ a1 r6 a2) (fun σ8 => bd1 (fX4_number N σ8 ) (fun r10 => (if r10 ≤ a2 then some ((-1), σ8) else bd1 (fX4_factOfWanted N σ8 a3) (fun r13 => some (r13, σ8)))))))))
set_option maxHeartbeats 4000000 in
set_option maxRecDepth 100000 in
theorem ctX1_ofSpur {G : GP} {l : Launch} {q : Nat → Nat} (N : Nat) (σ σ' : St) (a1 : Int32) (a2 : Int32) (a3 : Int32) (r : Int32) (h : fX1_ofSpur N σ a1 a2 a3 = some (r, σ')) : CI G l yX1_ofSpur cX1_ofSpur 4 (some .int) 4 [.ref (q 1), .int a1, .int a2, .int a3] (xW G q σ) (xW G q (σ')) r := by
  refine enterI (own := RX1) (by decide) rfl (Nat.le_of_ble_eq_true rfl) ?_
  intro p e s m args below meth c A C hP hD hS ls hl
  obtain ⟨hx, hb, hml, hown, hts, hK, hZ, hA, hlk, hr⟩ := id C
  have hl : lv_has ls 4 [(0, .ref (q 1)), (1, .int a1), (2, .int a2), (3, .int a3)] := hl
  rw [fX1_ofSpur.eq_1] at h
  refine lv_iload_n hx hb dX1_ofSpur_0 rfl (lv_at hl 2 rfl) ?_
  refine lv_if_lt (tgt := 13) hx hb dX1_ofSpur_1 (by decide) (fun c1 => ?_) (fun c1 => ?_)
  · replace h := ifp c1 h
    refine lv_iconst (v := (-1)) hx hb dX1_ofSpur_13 (by decide) ?_
    obtain ⟨rfl, rfl⟩ := so2 h
    exact retI C hP hD hS dX1_ofSpur_14
  · replace h := ifn c1 h
    refine lv_iload_n hx hb dX1_ofSpur_4 rfl (lv_at hl 3 rfl) ?_
    refine lv_iconst (v := 0) hx hb dX1_ofSpur_5 (by decide) ?_
    refine lv_iconst (v := 4) hx hb dX1_ofSpur_6 (by decide) ?_
    obtain ⟨r3, h2, h⟩ := bd1_some h
    refine goI C hD hS (runN (As := [.int a3, .int 0, .int 4]) (rest := []) (w := (xW G q σ)) C lc_RX1_32 C.2.2.2.2.2.2.1.2.2.1.2.2.1 (ctX6_within (w := (xW G q σ)) N a3 0 4 r3 h2 _) hP hD hS hl.1 rfl rfl (by decide) (by decide) (Nat.le_of_ble_eq_true rfl) dX1_ofSpur_7) (fun H locs hP hD hS => ?_)
    refine lv_if_ne (tgt := 15) hx hb dX1_ofSpur_10 (by decide) (fun c4 => ?_) (fun c4 => ?_)
    · replace h := ifn c4 h
      refine lv_aload_n hx hb dX1_ofSpur_15 rfl (lv_at hl 0 rfl) ?_
      refine lv_iload_n hx hb dX1_ofSpur_16 rfl (lv_at hl 1 rfl) ?_
      refine lv_aload_n hx hb dX1_ofSpur_17 rfl (lv_at hl 0 rfl) ?_
      obtain ⟨r6, h5, h⟩ := bd1_some h
      refine goI C hD hS (runV (As := []) (rest := [.int a1, .ref (q 1)]) (w := (xW G q σ)) C lc_RX1_46 (ctX1_middle N σ  r6 h5 _) hP hD hS (va_recv C.2.2.2.2.2.1 hP (ci := 1) (q0 := 1) rfl rfl) hl.1 rfl rfl (by decide) (by decide) (Nat.le_of_ble_eq_true rfl) dX1_ofSpur_18) (fun H locs hP hD hS => ?_)
      refine lv_iload_n hx hb dX1_ofSpur_21 rfl (lv_at hl 2 rfl) ?_
      obtain ⟨σ8, h7, h⟩ := bd1_some h
      refine goV C hD hS (runV (As := [.int a1, .int r6, .int a2]) (rest := []) (w := (xW G q σ)) C lc_RX1_50 (ctX1_gather N σ σ8 a1 r6 a2 h7 _) hP hD hS (va_recv C.2.2.2.2.2.1 hP (ci := 1) (q0 := 1) rfl rfl) hl.1 rfl rfl (by decide) (by decide) (Nat.le_of_ble_eq_true rfl) dX1_ofSpur_22) (fun H locs hP hD hS => ?_)
      refine lv_iload_n hx hb dX1_ofSpur_25 rfl (lv_at hl 2 rfl) ?_
      refine lv_aload_n hx hb dX1_ofSpur_26 rfl (lv_at hl 0 rfl) ?_
      refine gf_RX1_24 C hP dX1_ofSpur_27 ?_
      obtain ⟨r10, h9, h⟩ := bd1_some h
      refine goI C hD hS (runV (As := []) (rest := [.int a2]) (w := (xW G q σ8)) C lc_RX1_54 (ctX4_number N σ8  r10 h9 _) hP hD hS (va_recv C.2.2.2.2.2.1 hP (ci := 4) (q0 := 2) rfl rfl) hl.1 rfl rfl (by decide) (by decide) (Nat.le_of_ble_eq_true rfl) dX1_ofSpur_30) (fun H locs hP hD hS => ?_)
      refine lv_icmp_ge (tgt := 47) hx hb dX1_ofSpur_33 (by decide) (fun c11 => ?_) (fun c11 => ?_)
      · replace h := ifp c11 h
        refine lv_iconst (v := (-1)) hx hb dX1_ofSpur_47 (by decide) ?_
        obtain ⟨rfl, rfl⟩ := so2 h
        exact retI C hP hD hS dX1_ofSpur_48
      · replace h := ifn c11 h
        refine lv_aload_n hx hb dX1_ofSpur_36 rfl (lv_at hl 0 rfl) ?_
        refine gf_RX1_24 C hP dX1_ofSpur_37 ?_
        refine lv_iload_n hx hb dX1_ofSpur_40 rfl (lv_at hl 3 rfl) ?_
        obtain ⟨r13, h12, h⟩ := bd1_some h
        refine goI C hD hS (runV (As := [.int a3]) (rest := []) (w := (xW G q σ8)) C lc_RX1_61 (ctX4_factOfWanted N σ8 a3 r13 h12 _) hP hD hS (va_recv C.2.2.2.2.2.1 hP (ci := 4) (q0 := 2) rfl rfl) hl.1 rfl rfl (by decide) (by decide) (Nat.le_of_ble_eq_true rfl) dX1_ofSpur_41) (fun H locs hP hD hS => ?_)
        refine lv_goto (tgt := 48) hx hb dX1_ofSpur_44 (by decide) ?_
        obtain ⟨rfl, rfl⟩ := so2 h
        exact retI C hP hD hS dX1_ofSpur_48
    · replace h := ifp c4 h
      refine lv_iconst (v := (-1)) hx hb dX1_ofSpur_13 (by decide) ?_
      obtain ⟨rfl, rfl⟩ := so2 h
      exact retI C hP hD hS dX1_ofSpur_14

def fX4_heaviest (N : Nat) (σ : St) : Option Int32 :=
  some (σ.1 4)
set_option maxHeartbeats 4000000 in
set_option maxRecDepth 100000 in
theorem ctX4_heaviest {G : GP} {l : Launch} {q : Nat → Nat} (N : Nat) (σ : St) (r : Int32) (h : fX4_heaviest N σ = some r) : CI G l yX4_heaviest cX4_heaviest 1 (some .int) 0 [.ref (q 2)] (xW G q σ) (xW G q σ) r := by
  refine enterI (own := RX4) (by decide) rfl (Nat.le_of_ble_eq_true rfl) ?_
  intro p e s m args below meth c A C hP hD hS ls hl
  obtain ⟨hx, hb, hml, hown, hts, hK, hZ, hA, hlk, hr⟩ := id C
  have hl : lv_has ls 1 [(0, .ref (q 2))] := hl
  rw [fX4_heaviest.eq_1] at h
  refine lv_aload_n hx hb dX4_heaviest_0 rfl (lv_at hl 0 rfl) ?_
  refine gf_RX4_25 C hP dX4_heaviest_1 ?_
  obtain rfl := so1 h
  exact retI C hP hD hS dX4_heaviest_4

def fX1_worstOf (N : Nat) (σ : St) (a1 : Int32) : Option (Int32 × St) :=
  bd1 (fX1_middle N σ ) (fun r2 => bd1 (fX1_gather N σ a1 r2 (-1)) (fun σ4 => bd1 (fX4_number N σ4 ) (fun r6 => (if r6 = 0 then some ((-4), σ4) else bd1 (fX4_heaviest N σ4 ) (fun r9 => some (r9, σ4))))))
set_option maxHeartbeats 4000000 in
set_option maxRecDepth 100000 in
theorem ctX1_worstOf {G : GP} {l : Launch} {q : Nat → Nat} (N : Nat) (σ σ' : St) (a1 : Int32) (r : Int32) (h : fX1_worstOf N σ a1 = some (r, σ')) : CI G l yX1_worstOf cX1_worstOf 2 (some .int) 4 [.ref (q 1), .int a1] (xW G q σ) (xW G q (σ')) r := by
  refine enterI (own := RX1) (by decide) rfl (Nat.le_of_ble_eq_true rfl) ?_
  intro p e s m args below meth c A C hP hD hS ls hl
  obtain ⟨hx, hb, hml, hown, hts, hK, hZ, hA, hlk, hr⟩ := id C
  have hl : lv_has ls 2 [(0, .ref (q 1)), (1, .int a1)] := hl
  rw [fX1_worstOf.eq_1] at h
  refine lv_aload_n hx hb dX1_worstOf_0 rfl (lv_at hl 0 rfl) ?_
  refine lv_iload_n hx hb dX1_worstOf_1 rfl (lv_at hl 1 rfl) ?_
  refine lv_aload_n hx hb dX1_worstOf_2 rfl (lv_at hl 0 rfl) ?_
  obtain ⟨r2, h1, h⟩ := bd1_some h
  refine goI C hD hS (runV (As := []) (rest := [.int a1, .ref (q 1)]) (w := (xW G q σ)) C lc_RX1_46 (ctX1_middle N σ  r2 h1 _) hP hD hS (va_recv C.2.2.2.2.2.1 hP (ci := 1) (q0 := 1) rfl rfl) hl.1 rfl rfl (by decide) (by decide) (Nat.le_of_ble_eq_true rfl) dX1_worstOf_3) (fun H locs hP hD hS => ?_)
  refine lv_iconst (v := (-1)) hx hb dX1_worstOf_6 (by decide) ?_
  obtain ⟨σ4, h3, h⟩ := bd1_some h
  refine goV C hD hS (runV (As := [.int a1, .int r2, .int (-1)]) (rest := []) (w := (xW G q σ)) C lc_RX1_50 (ctX1_gather N σ σ4 a1 r2 (-1) h3 _) hP hD hS (va_recv C.2.2.2.2.2.1 hP (ci := 1) (q0 := 1) rfl rfl) hl.1 rfl rfl (by decide) (by decide) (Nat.le_of_ble_eq_true rfl) dX1_worstOf_7) (fun H locs hP hD hS => ?_)
  refine lv_aload_n hx hb dX1_worstOf_10 rfl (lv_at hl 0 rfl) ?_
  refine gf_RX1_24 C hP dX1_worstOf_11 ?_
  obtain ⟨r6, h5, h⟩ := bd1_some h
  refine goI C hD hS (runV (As := []) (rest := []) (w := (xW G q σ4)) C lc_RX1_54 (ctX4_number N σ4  r6 h5 _) hP hD hS (va_recv C.2.2.2.2.2.1 hP (ci := 4) (q0 := 2) rfl rfl) hl.1 rfl rfl (by decide) (by decide) (Nat.le_of_ble_eq_true rfl) dX1_worstOf_14) (fun H locs hP hD hS => ?_)
  refine lv_if_ne (tgt := 25) hx hb dX1_worstOf_17 (by decide) (fun c7 => ?_) (fun c7 => ?_)
  · replace h := ifn c7 h
    refine lv_aload_n hx hb dX1_worstOf_25 rfl (lv_at hl 0 rfl) ?_
    refine gf_RX1_24 C hP dX1_worstOf_26 ?_
    obtain ⟨r9, h8, h⟩ := bd1_some h
    refine goI C hD hS (runV (As := []) (rest := []) (w := (xW G q σ4)) C lc_RX1_64 (ctX4_heaviest N σ4  r9 h8 _) hP hD hS (va_recv C.2.2.2.2.2.1 hP (ci := 4) (q0 := 2) rfl rfl) hl.1 rfl rfl (by decide) (by decide) (Nat.le_of_ble_eq_true rfl) dX1_worstOf_29) (fun H locs hP hD hS => ?_)
    obtain ⟨rfl, rfl⟩ := so2 h
    exact retI C hP hD hS dX1_worstOf_32
  · replace h := ifp c7 h
    refine lv_bipush (v := (-4)) hx hb dX1_worstOf_20 (by decide) ?_
    refine lv_goto (tgt := 32) hx hb dX1_worstOf_22 (by decide) ?_
    obtain ⟨rfl, rfl⟩ := so2 h
    exact retI C hP hD hS dX1_worstOf_32

def fX1_isImage (N : Nat) (σ : St) (a1 : Int32) (a2 : Int32) : Option Int32 :=
  bd1 (fX1_middle N σ ) (fun r2 => bd1 (fX1_oscillatorFor N σ a1 r2) (fun r4 => (if a1 = a2 then some 0 else (if r4 ≤ 0 then some 0 else gi a2 20 (bd1 (fX1_middle N σ ) (fun r9 => bd1 (fX1_fallsOn N σ ((σ.2 0 a2.toNatClampNeg) - r4) r9) (fun r11 => (if r11 = 0 then some 0 else some 1))))))))
set_option maxHeartbeats 4000000 in
set_option maxRecDepth 100000 in
theorem ctX1_isImage {G : GP} {l : Launch} {q : Nat → Nat} (N : Nat) (σ : St) (a1 : Int32) (a2 : Int32) (r : Int32) (h : fX1_isImage N σ a1 a2 = some r) : CI G l yX1_isImage cX1_isImage 4 (some .boolean) 2 [.ref (q 1), .int a1, .int a2] (xW G q σ) (xW G q σ) r := by
  refine enterI (own := RX1) (by decide) rfl (Nat.le_of_ble_eq_true rfl) ?_
  intro p e s m args below meth c A C hP hD hS ls hl
  obtain ⟨hx, hb, hml, hown, hts, hK, hZ, hA, hlk, hr⟩ := id C
  have hl : lv_has ls 4 [(0, .ref (q 1)), (1, .int a1), (2, .int a2)] := hl
  rw [fX1_isImage.eq_1] at h
  refine lv_aload_n hx hb dX1_isImage_0 rfl (lv_at hl 0 rfl) ?_
  refine lv_iload_n hx hb dX1_isImage_1 rfl (lv_at hl 1 rfl) ?_
  refine lv_aload_n hx hb dX1_isImage_2 rfl (lv_at hl 0 rfl) ?_
  obtain ⟨r2, h1, h⟩ := bd1_some h
  refine goI C hD hS (runV (As := []) (rest := [.int a1, .ref (q 1)]) (w := (xW G q σ)) C lc_RX1_46 (ctX1_middle N σ  r2 h1 _) hP hD hS (va_recv C.2.2.2.2.2.1 hP (ci := 1) (q0 := 1) rfl rfl) hl.1 rfl rfl (by decide) (by decide) (Nat.le_of_ble_eq_true rfl) dX1_isImage_3) (fun H locs hP hD hS => ?_)
  obtain ⟨r4, h3, h⟩ := bd1_some h
  refine goI C hD hS (runV (As := [.int a1, .int r2]) (rest := []) (w := (xW G q σ)) C lc_RX1_67 (ctX1_oscillatorFor N σ a1 r2 r4 h3 _) hP hD hS (va_recv C.2.2.2.2.2.1 hP (ci := 1) (q0 := 1) rfl rfl) hl.1 rfl rfl (by decide) (by decide) (Nat.le_of_ble_eq_true rfl) dX1_isImage_6) (fun H locs hP hD hS => ?_)
  refine lv_istore_n (lv' := [(3, .int r4), (0, .ref (q 1)), (1, .int a1), (2, .int a2)]) hx hb dX1_isImage_9 rfl hl (by decide) rfl (fun ls hl => ?_)
  refine lv_iload_n hx hb dX1_isImage_10 rfl (lv_at hl 2 rfl) ?_
  refine lv_iload_n hx hb dX1_isImage_11 rfl (lv_at hl 3 rfl) ?_
  refine lv_icmp_eq (tgt := 42) hx hb dX1_isImage_12 (by decide) (fun c5 => ?_) (fun c5 => ?_)
  · replace h := ifp c5 h
    refine lv_iconst (v := 0) hx hb dX1_isImage_42 (by decide) ?_
    obtain rfl := so1 h
    exact retZ C hP hD hS (by decide) dX1_isImage_43
  · replace h := ifn c5 h
    refine lv_iload_n hx hb dX1_isImage_15 rfl (lv_at hl 0 rfl) ?_
    refine lv_if_le (tgt := 42) hx hb dX1_isImage_16 (by decide) (fun c6 => ?_) (fun c6 => ?_)
    · replace h := ifp c6 h
      refine lv_iconst (v := 0) hx hb dX1_isImage_42 (by decide) ?_
      obtain rfl := so1 h
      exact retZ C hP hD hS (by decide) dX1_isImage_43
    · replace h := ifn c6 h
      refine lv_aload_n hx hb dX1_isImage_19 rfl (lv_at hl 1 rfl) ?_
      refine lv_aload_n hx hb dX1_isImage_20 rfl (lv_at hl 1 rfl) ?_
      refine gf_RX1_9 C hP dX1_isImage_21 ?_
      refine lv_iload_n hx hb dX1_isImage_24 rfl (lv_at hl 3 rfl) ?_
      obtain ⟨i7, h⟩ := gi_some h
      refine ldX_0 C hP i7 dX1_isImage_25 ?_
      refine lv_iload_n hx hb dX1_isImage_26 rfl (lv_at hl 0 rfl) ?_
      refine lv_isub hx hb dX1_isImage_27 ?_
      refine lv_aload_n hx hb dX1_isImage_28 rfl (lv_at hl 1 rfl) ?_
      obtain ⟨r9, h8, h⟩ := bd1_some h
      refine goI C hD hS (runV (As := []) (rest := [.int ((σ.2 0 a2.toNatClampNeg) - r4), .ref (q 1)]) (w := (xW G q σ)) C lc_RX1_46 (ctX1_middle N σ  r9 h8 _) hP hD hS (va_recv C.2.2.2.2.2.1 hP (ci := 1) (q0 := 1) rfl rfl) hl.1 rfl rfl (by decide) (by decide) (Nat.le_of_ble_eq_true rfl) dX1_isImage_29) (fun H locs hP hD hS => ?_)
      obtain ⟨r11, h10, h⟩ := bd1_some h
      refine goI C hD hS (runV (As := [.int ((σ.2 0 a2.toNatClampNeg) - r4), .int r9]) (rest := []) (w := (xW G q σ)) C lc_RX1_71 (ctX1_fallsOn N σ ((σ.2 0 a2.toNatClampNeg) - r4) r9 r11 h10 _) hP hD hS (va_recv C.2.2.2.2.2.1 hP (ci := 1) (q0 := 1) rfl rfl) hl.1 rfl rfl (by decide) (by decide) (Nat.le_of_ble_eq_true rfl) dX1_isImage_32) (fun H locs hP hD hS => ?_)
      refine lv_if_eq (tgt := 42) hx hb dX1_isImage_35 (by decide) (fun c12 => ?_) (fun c12 => ?_)
      · replace h := ifp c12 h
        refine lv_iconst (v := 0) hx hb dX1_isImage_42 (by decide) ?_
        obtain rfl := so1 h
        exact retZ C hP hD hS (by decide) dX1_isImage_43
      · replace h := ifn c12 h
        refine lv_iconst (v := 1) hx hb dX1_isImage_38 (by decide) ?_
        refine lv_goto (tgt := 43) hx hb dX1_isImage_39 (by decide) ?_
        obtain rfl := so1 h
        exact retZ C hP hD hS (by decide) dX1_isImage_43

def fX1_birdiesFor_L15 (N : Nat) (σ : St) (v1 : Int32) (v3 : Int32) : Nat → Int32 → Int32 → Option (Int32)
  | 0, _, _ => none
  | n + 1, v2, v4 => (if ((σ.2 2 (2 : Int32).toNatClampNeg) + 3) < v4 then some v2 else gi v3 20 ((if (σ.2 2 (3 : Int32).toNatClampNeg) < (jabs ((v4 * v1) - (σ.2 0 v3.toNatClampNeg))) then fX1_birdiesFor_L15 N σ v1 v3 n v2 (v4 + 1) else fX1_birdiesFor_L15 N σ v1 v3 n (v2 + 1) (v4 + 1))))
set_option maxHeartbeats 4000000 in
set_option maxRecDepth 100000 in
theorem wX1_birdiesFor_L15 {q : Nat → Nat} (C : Cx G p s m args meth c cX1_birdiesFor 5 (some .int) (Cond.code yX1_birdiesFor cX1_birdiesFor 5 (some .int)) RX1 A) (N : Nat) (σ : St) (v1 : Int32) (v3 : Int32) (v2' : Int32) (K : ∀ H locs ls, va_P G.1 vwCl (xW G q σ) H → va_D A (xW G q σ) → va_S A s.heap H locs → lv_has ls 5 [(0, .ref (q 1)), (1, .int v1), (2, .int (v2')), (3, .int v3)] → W p l e (rmD 1) s m args below meth c H locs 0 0 Q (F0 m 60 ls [])) : ∀ (n : Nat) (v2 : Int32) (v4 : Int32) (H : Heap) (locs : List Loc) (ls : Array Slot), fX1_birdiesFor_L15 N σ v1 v3 n v2 v4 = some v2' → va_P G.1 vwCl (xW G q σ) H → va_D A (xW G q σ) → va_S A s.heap H locs → lv_has ls 5 [(0, .ref (q 1)), (1, .int v1), (2, .int v2), (3, .int v3), (4, .int v4)] → W p l e (rmD 1) s m args below meth c H locs 0 0 Q (F0 m 15 ls []) := by
  obtain ⟨hx, hb, hml, hown, hts, hK, hZ, hA, hlk, hr⟩ := id C
  intro n
  induction n with
  | zero =>
    intro v2 v4 H locs ls h
    cases h
  | succ n ih =>
    intro v2 v4 H locs ls h hP hD hS hl
    rw [fX1_birdiesFor_L15.eq_2] at h
    refine lv_iload hx hb dX1_birdiesFor_15 (lv_at hl 4 rfl) ?_
    refine lv_aload_n hx hb dX1_birdiesFor_17 rfl (lv_at hl 0 rfl) ?_
    refine gf_RX1_18 C hP dX1_birdiesFor_18 ?_
    refine lv_iconst (v := 2) hx hb dX1_birdiesFor_21 (by decide) ?_
    refine ldX_2 C hP (vin (by decide)) dX1_birdiesFor_22 ?_
    refine lv_iconst (v := 3) hx hb dX1_birdiesFor_23 (by decide) ?_
    refine lv_iadd hx hb dX1_birdiesFor_24 ?_
    refine lv_icmp_gt (tgt := 60) hx hb dX1_birdiesFor_25 (by decide) (fun c2 => ?_) (fun c2 => ?_)
    · replace h := ifp c2 h
      obtain rfl := so1 h
      exact K _ _ _ hP hD hS (lv_sub hl [0, 1, 2, 3] rfl)
    · replace h := ifn c2 h
      refine lv_iload hx hb dX1_birdiesFor_28 (lv_at hl 4 rfl) ?_
      refine lv_iload_n hx hb dX1_birdiesFor_30 rfl (lv_at hl 1 rfl) ?_
      refine lv_imul hx hb dX1_birdiesFor_31 ?_
      refine lv_aload_n hx hb dX1_birdiesFor_32 rfl (lv_at hl 0 rfl) ?_
      refine gf_RX1_9 C hP dX1_birdiesFor_33 ?_
      refine lv_iload_n hx hb dX1_birdiesFor_36 rfl (lv_at hl 3 rfl) ?_
      obtain ⟨i3, h⟩ := gi_some h
      refine ldX_0 C hP i3 dX1_birdiesFor_37 ?_
      refine lv_isub hx hb dX1_birdiesFor_38 ?_
      refine rabs C lc_RX1_75 hl.1 (Nat.le_of_ble_eq_true rfl) dX1_birdiesFor_39 ?_
      refine lv_aload_n hx hb dX1_birdiesFor_42 rfl (lv_at hl 0 rfl) ?_
      refine gf_RX1_18 C hP dX1_birdiesFor_43 ?_
      refine lv_iconst (v := 3) hx hb dX1_birdiesFor_46 (by decide) ?_
      refine ldX_2 C hP (vin (by decide)) dX1_birdiesFor_47 ?_
      refine lv_icmp_gt (tgt := 54) hx hb dX1_birdiesFor_48 (by decide) (fun c4 => ?_) (fun c4 => ?_)
      · replace h := ifp c4 h
        refine lv_iinc (v := (v4 + 1)) (lv' := [(4, .int (v4 + 1)), (0, .ref (q 1)), (1, .int v1), (2, .int v2), (3, .int v3)]) hx hb dX1_birdiesFor_54 hl (k := 4) rfl (by first | rfl | decide) (by decide) rfl (fun ls hl => ?_)
        refine lv_goto (tgt := 15) hx hb dX1_birdiesFor_57 (by decide) ?_
        exact ih v2 (v4 + 1) _ _ _ h hP hD hS (lv_sub hl [1, 2, 3, 4, 0] rfl)
      · replace h := ifn c4 h
        refine lv_iinc (v := (v2 + 1)) (lv' := [(2, .int (v2 + 1)), (0, .ref (q 1)), (1, .int v1), (3, .int v3), (4, .int v4)]) hx hb dX1_birdiesFor_51 hl (k := 2) rfl (by first | rfl | decide) (by decide) rfl (fun ls hl => ?_)
        refine lv_iinc (v := (v4 + 1)) (lv' := [(4, .int (v4 + 1)), (2, .int (v2 + 1)), (0, .ref (q 1)), (1, .int v1), (3, .int v3)]) hx hb dX1_birdiesFor_54 hl (k := 4) rfl (by first | rfl | decide) (by decide) rfl (fun ls hl => ?_)
        refine lv_goto (tgt := 15) hx hb dX1_birdiesFor_57 (by decide) ?_
        exact ih (v2 + 1) (v4 + 1) _ _ _ h hP hD hS (lv_sub hl [2, 3, 1, 4, 0] rfl)

def fX1_birdiesFor_L4 (N : Nat) (σ : St) (v1 : Int32) : Nat → Int32 → Int32 → Option Int32
  | 0, _, _ => none
  | n + 1, v2, v3 => (if (σ.1 0) ≤ v3 then some v2 else bd1 (fX1_birdiesFor_L15 N σ v1 v3 N v2 2) (fun y5 => fX1_birdiesFor_L4 N σ v1 n y5 (v3 + 1)))
set_option maxHeartbeats 4000000 in
set_option maxRecDepth 100000 in
theorem wX1_birdiesFor_L4 {q : Nat → Nat} (C : Cx G p s m args meth c cX1_birdiesFor 5 (some .int) (Cond.code yX1_birdiesFor cX1_birdiesFor 5 (some .int)) RX1 A) (N : Nat) (σ : St) (v1 : Int32) (r : Int32) : ∀ (n : Nat) (v2 : Int32) (v3 : Int32) (H : Heap) (locs : List Loc) (ls : Array Slot), fX1_birdiesFor_L4 N σ v1 n v2 v3 = some r → va_P G.1 vwCl (xW G q σ) H → va_D A (xW G q σ) → va_S A s.heap H locs → lv_has ls 5 [(0, .ref (q 1)), (1, .int v1), (2, .int v2), (3, .int v3)] → W p l e (rmD 1) s m args below meth c H locs 0 0 (QI G below args s A (xW G q σ) r) (F0 m 4 ls []) := by
  obtain ⟨hx, hb, hml, hown, hts, hK, hZ, hA, hlk, hr⟩ := id C
  intro n
  induction n with
  | zero =>
    intro v2 v3 H locs ls h
    cases h
  | succ n ih =>
    intro v2 v3 H locs ls h hP hD hS hl
    rw [fX1_birdiesFor_L4.eq_2] at h
    refine lv_iload_n hx hb dX1_birdiesFor_4 rfl (lv_at hl 3 rfl) ?_
    refine lv_aload_n hx hb dX1_birdiesFor_5 rfl (lv_at hl 0 rfl) ?_
    refine gf_RX1_28 C hP dX1_birdiesFor_6 ?_
    refine lv_icmp_ge (tgt := 66) hx hb dX1_birdiesFor_9 (by decide) (fun c1 => ?_) (fun c1 => ?_)
    · replace h := ifp c1 h
      refine lv_iload_n hx hb dX1_birdiesFor_66 rfl (lv_at hl 2 rfl) ?_
      obtain rfl := so1 h
      exact retI C hP hD hS dX1_birdiesFor_67
    · replace h := ifn c1 h
      refine lv_iconst (v := 2) hx hb dX1_birdiesFor_12 (by decide) ?_
      refine lv_istore (lv' := [(4, .int 2), (0, .ref (q 1)), (1, .int v1), (2, .int v2), (3, .int v3)]) hx hb dX1_birdiesFor_13 hl (by decide) rfl (fun ls hl => ?_)
      obtain ⟨y5, h6, h⟩ := bd1_some h
      refine wX1_birdiesFor_L15 C N σ v1 v3 y5 (fun H locs ls hP hD hS hl => ?_) N v2 2 _ _ _ h6 hP hD hS (lv_sub hl [1, 2, 3, 4, 0] rfl)
      refine lv_iinc (v := (v3 + 1)) (lv' := [(3, .int (v3 + 1)), (0, .ref (q 1)), (1, .int v1), (2, .int y5)]) hx hb dX1_birdiesFor_60 hl (k := 3) rfl (by first | rfl | decide) (by decide) rfl (fun ls hl => ?_)
      refine lv_goto (tgt := 4) hx hb dX1_birdiesFor_63 (by decide) ?_
      exact ih y5 (v3 + 1) _ _ _ h hP hD hS (lv_sub hl [1, 2, 3, 0] rfl)

def fX1_birdiesFor (N : Nat) (σ : St) (a1 : Int32) : Option Int32 :=
  fX1_birdiesFor_L4 N σ a1 N 0 0
set_option maxHeartbeats 4000000 in
set_option maxRecDepth 100000 in
theorem ctX1_birdiesFor {G : GP} {l : Launch} {q : Nat → Nat} (N : Nat) (σ : St) (a1 : Int32) (r : Int32) (h : fX1_birdiesFor N σ a1 = some r) : CI G l yX1_birdiesFor cX1_birdiesFor 5 (some .int) 1 [.ref (q 1), .int a1] (xW G q σ) (xW G q σ) r := by
  refine enterI (own := RX1) (by decide) rfl (Nat.le_of_ble_eq_true rfl) ?_
  intro p e s m args below meth c A C hP hD hS ls hl
  obtain ⟨hx, hb, hml, hown, hts, hK, hZ, hA, hlk, hr⟩ := id C
  have hl : lv_has ls 5 [(0, .ref (q 1)), (1, .int a1)] := hl
  rw [fX1_birdiesFor.eq_1] at h
  refine lv_iconst (v := 0) hx hb dX1_birdiesFor_0 (by decide) ?_
  refine lv_istore_n (lv' := [(2, .int 0), (0, .ref (q 1)), (1, .int a1)]) hx hb dX1_birdiesFor_1 rfl hl (by decide) rfl (fun ls hl => ?_)
  refine lv_iconst (v := 0) hx hb dX1_birdiesFor_2 (by decide) ?_
  refine lv_istore_n (lv' := [(3, .int 0), (2, .int 0), (0, .ref (q 1)), (1, .int a1)]) hx hb dX1_birdiesFor_3 rfl hl (by decide) rfl (fun ls hl => ?_)
  exact wX1_birdiesFor_L4 C N σ a1 r N 0 0 _ _ _ h hP hD hS (lv_sub hl [2, 3, 1, 0] rfl)

def fX4_weights (N : Nat) (σ : St) : Option Int32 :=
  some (σ.1 3)
set_option maxHeartbeats 4000000 in
set_option maxRecDepth 100000 in
theorem ctX4_weights {G : GP} {l : Launch} {q : Nat → Nat} (N : Nat) (σ : St) (r : Int32) (h : fX4_weights N σ = some r) : CI G l yX4_weights cX4_weights 1 (some .int) 0 [.ref (q 2)] (xW G q σ) (xW G q σ) r := by
  refine enterI (own := RX4) (by decide) rfl (Nat.le_of_ble_eq_true rfl) ?_
  intro p e s m args below meth c A C hP hD hS ls hl
  obtain ⟨hx, hb, hml, hown, hts, hK, hZ, hA, hlk, hr⟩ := id C
  have hl : lv_has ls 1 [(0, .ref (q 2))] := hl
  rw [fX4_weights.eq_1] at h
  refine lv_aload_n hx hb dX4_weights_0 rfl (lv_at hl 0 rfl) ?_
  refine gf_RX4_22 C hP dX4_weights_1 ?_
  obtain rfl := so1 h
  exact retI C hP hD hS dX4_weights_4

def fX1_loadFor_L11 (N : Nat) (v1 : Int32) : Nat → Int32 → Int32 → St → Option (Int32 × St)
  | 0, _, _, _ => none
  | n + 1, v2, v3, σ => (if (σ.1 0) ≤ v3 then some (v2, σ) else bd1 (fX1_oscillatorFor N σ v3 v1) (fun r5 => (if 0 < r5 then bd1 (fX1_gather N σ v3 v1 (-1)) (fun σ8 => bd1 (fX4_weights N σ8 ) (fun r10 => fX1_loadFor_L11 N v1 n (v2 + r10) (v3 + 1) σ8)) else fX1_loadFor_L11 N v1 n (v2 + 100) (v3 + 1) σ)))
set_option maxHeartbeats 4000000 in
set_option maxRecDepth 100000 in
theorem wX1_loadFor_L11 {q : Nat → Nat} (C : Cx G p s m args meth c cX1_loadFor 4 (some .int) (Cond.code yX1_loadFor cX1_loadFor 4 (some .int)) RX1 A) (N : Nat) (v1 : Int32) (r : Int32) (σ' : St) : ∀ (n : Nat) (v2 : Int32) (v3 : Int32) (σ : St) (H : Heap) (locs : List Loc) (ls : Array Slot), fX1_loadFor_L11 N v1 n v2 v3 σ = some (r, σ') → va_P G.1 vwCl (xW G q σ) H → va_D A (xW G q σ) → va_S A s.heap H locs → lv_has ls 4 [(0, .ref (q 1)), (1, .int v1), (2, .int v2), (3, .int v3)] → W p l e (rmD 4) s m args below meth c H locs 0 0 (QI G below args s A (xW G q (σ')) r) (F0 m 11 ls []) := by
  obtain ⟨hx, hb, hml, hown, hts, hK, hZ, hA, hlk, hr⟩ := id C
  intro n
  induction n with
  | zero =>
    intro v2 v3 σ H locs ls h
    cases h
  | succ n ih =>
    intro v2 v3 σ H locs ls h hP hD hS hl
    rw [fX1_loadFor_L11.eq_2] at h
    refine lv_iload_n hx hb dX1_loadFor_11 rfl (lv_at hl 3 rfl) ?_
    refine lv_aload_n hx hb dX1_loadFor_12 rfl (lv_at hl 0 rfl) ?_
    refine gf_RX1_28 C hP dX1_loadFor_13 ?_
    refine lv_icmp_ge (tgt := 57) hx hb dX1_loadFor_16 (by decide) (fun c3 => ?_) (fun c3 => ?_)
    · replace h := ifp c3 h
      refine lv_iload_n hx hb dX1_loadFor_57 rfl (lv_at hl 2 rfl) ?_
      obtain ⟨rfl, rfl⟩ := so2 h
      exact retI C hP hD hS dX1_loadFor_58
    · replace h := ifn c3 h
      refine lv_aload_n hx hb dX1_loadFor_19 rfl (lv_at hl 0 rfl) ?_
      refine lv_iload_n hx hb dX1_loadFor_20 rfl (lv_at hl 3 rfl) ?_
      refine lv_iload_n hx hb dX1_loadFor_21 rfl (lv_at hl 1 rfl) ?_
      obtain ⟨r5, h4, h⟩ := bd1_some h
      refine goI C hD hS (runV (As := [.int v3, .int v1]) (rest := []) (w := (xW G q σ)) C lc_RX1_67 (ctX1_oscillatorFor N σ v3 v1 r5 h4 _) hP hD hS (va_recv C.2.2.2.2.2.1 hP (ci := 1) (q0 := 1) rfl rfl) hl.1 rfl rfl (by decide) (by decide) (Nat.le_of_ble_eq_true rfl) dX1_loadFor_22) (fun H locs hP hD hS => ?_)
      refine lv_if_gt (tgt := 34) hx hb dX1_loadFor_25 (by decide) (fun c6 => ?_) (fun c6 => ?_)
      · replace h := ifp c6 h
        refine lv_aload_n hx hb dX1_loadFor_34 rfl (lv_at hl 0 rfl) ?_
        refine lv_iload_n hx hb dX1_loadFor_35 rfl (lv_at hl 3 rfl) ?_
        refine lv_iload_n hx hb dX1_loadFor_36 rfl (lv_at hl 1 rfl) ?_
        refine lv_iconst (v := (-1)) hx hb dX1_loadFor_37 (by decide) ?_
        obtain ⟨σ8, h7, h⟩ := bd1_some h
        refine goV C hD hS (runV (As := [.int v3, .int v1, .int (-1)]) (rest := []) (w := (xW G q σ)) C lc_RX1_50 (ctX1_gather N σ σ8 v3 v1 (-1) h7 _) hP hD hS (va_recv C.2.2.2.2.2.1 hP (ci := 1) (q0 := 1) rfl rfl) hl.1 rfl rfl (by decide) (by decide) (Nat.le_of_ble_eq_true rfl) dX1_loadFor_38) (fun H locs hP hD hS => ?_)
        refine lv_iload_n hx hb dX1_loadFor_41 rfl (lv_at hl 2 rfl) ?_
        refine lv_aload_n hx hb dX1_loadFor_42 rfl (lv_at hl 0 rfl) ?_
        refine gf_RX1_24 C hP dX1_loadFor_43 ?_
        obtain ⟨r10, h9, h⟩ := bd1_some h
        refine goI C hD hS (runV (As := []) (rest := [.int v2]) (w := (xW G q σ8)) C lc_RX1_83 (ctX4_weights N σ8  r10 h9 _) hP hD hS (va_recv C.2.2.2.2.2.1 hP (ci := 4) (q0 := 2) rfl rfl) hl.1 rfl rfl (by decide) (by decide) (Nat.le_of_ble_eq_true rfl) dX1_loadFor_46) (fun H locs hP hD hS => ?_)
        refine lv_iadd hx hb dX1_loadFor_49 ?_
        refine lv_istore_n (lv' := [(2, .int (v2 + r10)), (0, .ref (q 1)), (1, .int v1), (3, .int v3)]) hx hb dX1_loadFor_50 rfl hl (by decide) rfl (fun ls hl => ?_)
        refine lv_iinc (v := (v3 + 1)) (lv' := [(3, .int (v3 + 1)), (2, .int (v2 + r10)), (0, .ref (q 1)), (1, .int v1)]) hx hb dX1_loadFor_51 hl (k := 3) rfl (by first | rfl | decide) (by decide) rfl (fun ls hl => ?_)
        refine lv_goto (tgt := 11) hx hb dX1_loadFor_54 (by decide) ?_
        exact ih (v2 + r10) (v3 + 1) σ8 _ _ _ h hP hD hS (lv_sub hl [2, 3, 1, 0] rfl)
      · replace h := ifn c6 h
        refine lv_iinc (v := (v2 + 100)) (lv' := [(2, .int (v2 + 100)), (0, .ref (q 1)), (1, .int v1), (3, .int v3)]) hx hb dX1_loadFor_28 hl (k := 2) rfl (by first | rfl | decide) (by decide) rfl (fun ls hl => ?_)
        refine lv_goto (tgt := 51) hx hb dX1_loadFor_31 (by decide) ?_
        refine lv_iinc (v := (v3 + 1)) (lv' := [(3, .int (v3 + 1)), (2, .int (v2 + 100)), (0, .ref (q 1)), (1, .int v1)]) hx hb dX1_loadFor_51 hl (k := 3) rfl (by first | rfl | decide) (by decide) rfl (fun ls hl => ?_)
        refine lv_goto (tgt := 11) hx hb dX1_loadFor_54 (by decide) ?_
        exact ih (v2 + 100) (v3 + 1) σ _ _ _ h hP hD hS (lv_sub hl [2, 3, 1, 0] rfl)

def fX1_loadFor (N : Nat) (σ : St) (a1 : Int32) : Option (Int32 × St) :=
  bd1 (fX1_birdiesFor N σ a1) (fun r2 => fX1_loadFor_L11 N a1 N (10 * r2) 0 σ)
set_option maxHeartbeats 4000000 in
set_option maxRecDepth 100000 in
theorem ctX1_loadFor {G : GP} {l : Launch} {q : Nat → Nat} (N : Nat) (σ σ' : St) (a1 : Int32) (r : Int32) (h : fX1_loadFor N σ a1 = some (r, σ')) : CI G l yX1_loadFor cX1_loadFor 4 (some .int) 4 [.ref (q 1), .int a1] (xW G q σ) (xW G q (σ')) r := by
  refine enterI (own := RX1) (by decide) rfl (Nat.le_of_ble_eq_true rfl) ?_
  intro p e s m args below meth c A C hP hD hS ls hl
  obtain ⟨hx, hb, hml, hown, hts, hK, hZ, hA, hlk, hr⟩ := id C
  have hl : lv_has ls 4 [(0, .ref (q 1)), (1, .int a1)] := hl
  rw [fX1_loadFor.eq_1] at h
  refine lv_bipush (v := 10) hx hb dX1_loadFor_0 (by decide) ?_
  refine lv_aload_n hx hb dX1_loadFor_2 rfl (lv_at hl 0 rfl) ?_
  refine lv_iload_n hx hb dX1_loadFor_3 rfl (lv_at hl 1 rfl) ?_
  obtain ⟨r2, h1, h⟩ := bd1_some h
  refine goI C hD hS (runV (As := [.int a1]) (rest := [.int 10]) (w := (xW G q σ)) C lc_RX1_80 (ctX1_birdiesFor N σ a1 r2 h1 _) hP hD hS (va_recv C.2.2.2.2.2.1 hP (ci := 1) (q0 := 1) rfl rfl) hl.1 rfl rfl (by decide) (by decide) (Nat.le_of_ble_eq_true rfl) dX1_loadFor_4) (fun H locs hP hD hS => ?_)
  refine lv_imul hx hb dX1_loadFor_7 ?_
  refine lv_istore_n (lv' := [(2, .int (10 * r2)), (0, .ref (q 1)), (1, .int a1)]) hx hb dX1_loadFor_8 rfl hl (by decide) rfl (fun ls hl => ?_)
  refine lv_iconst (v := 0) hx hb dX1_loadFor_9 (by decide) ?_
  refine lv_istore_n (lv' := [(3, .int 0), (2, .int (10 * r2)), (0, .ref (q 1)), (1, .int a1)]) hx hb dX1_loadFor_10 rfl hl (by decide) rfl (fun ls hl => ?_)
  exact wX1_loadFor_L11 C N a1 r σ' N (10 * r2) 0 σ _ _ _ h hP hD hS (lv_sub hl [2, 3, 1, 0] rfl)

def fX1_bestMiddle_L61 (N : Nat) (v1 : Int32) (v2 : Int32) (v3 : Int32) : Nat → Int32 → Int32 → Int32 → St → Option (Int32 × St)
  | 0, _, _, _, _ => none
  | n + 1, v4, v5, v6, σ => (if v3 ≤ v6 then some (v4, σ) else bd2 (fX1_loadFor N σ (v1 + (v2 * v6))) (fun r17 σ16 => (if v5 ≤ r17 then fX1_bestMiddle_L61 N v1 v2 v3 n v4 v5 (v6 + 1) σ16 else fX1_bestMiddle_L61 N v1 v2 v3 n (v1 + (v2 * v6)) r17 (v6 + 1) σ16)))
set_option maxHeartbeats 4000000 in
set_option maxRecDepth 100000 in
theorem wX1_bestMiddle_L61 {q : Nat → Nat} (C : Cx G p s m args meth c cX1_bestMiddle 8 (some .int) (Cond.code yX1_bestMiddle cX1_bestMiddle 8 (some .int)) RX1 A) (N : Nat) (v1 : Int32) (v2 : Int32) (v3 : Int32) (r : Int32) (σ' : St) : ∀ (n : Nat) (v4 : Int32) (v5 : Int32) (v6 : Int32) (σ : St) (H : Heap) (locs : List Loc) (ls : Array Slot), fX1_bestMiddle_L61 N v1 v2 v3 n v4 v5 v6 σ = some (r, σ') → va_P G.1 vwCl (xW G q σ) H → va_D A (xW G q σ) → va_S A s.heap H locs → lv_has ls 8 [(0, .ref (q 1)), (1, .int v1), (2, .int v2), (3, .int v3), (4, .int v4), (5, .int v5), (6, .int v6)] → W p l e (rmD 5) s m args below meth c H locs 0 0 (QI G below args s A (xW G q (σ')) r) (F0 m 61 ls []) := by
  obtain ⟨hx, hb, hml, hown, hts, hK, hZ, hA, hlk, hr⟩ := id C
  intro n
  induction n with
  | zero =>
    intro v4 v5 v6 σ H locs ls h
    cases h
  | succ n ih =>
    intro v4 v5 v6 σ H locs ls h hP hD hS hl
    rw [fX1_bestMiddle_L61.eq_2] at h
    refine lv_iload hx hb dX1_bestMiddle_61 (lv_at hl 6 rfl) ?_
    refine lv_iload_n hx hb dX1_bestMiddle_63 rfl (lv_at hl 3 rfl) ?_
    refine lv_icmp_ge (tgt := 104) hx hb dX1_bestMiddle_64 (by decide) (fun c14 => ?_) (fun c14 => ?_)
    · replace h := ifp c14 h
      refine lv_iload hx hb dX1_bestMiddle_104 (lv_at hl 4 rfl) ?_
      obtain ⟨rfl, rfl⟩ := so2 h
      exact retI C hP hD hS dX1_bestMiddle_106
    · replace h := ifn c14 h
      refine lv_aload_n hx hb dX1_bestMiddle_67 rfl (lv_at hl 0 rfl) ?_
      refine lv_iload_n hx hb dX1_bestMiddle_68 rfl (lv_at hl 1 rfl) ?_
      refine lv_iload_n hx hb dX1_bestMiddle_69 rfl (lv_at hl 2 rfl) ?_
      refine lv_iload hx hb dX1_bestMiddle_70 (lv_at hl 6 rfl) ?_
      refine lv_imul hx hb dX1_bestMiddle_72 ?_
      refine lv_iadd hx hb dX1_bestMiddle_73 ?_
      obtain ⟨r17, σ16, h15, h⟩ := bd2_some h
      refine goI C hD hS (runV (As := [.int (v1 + (v2 * v6))]) (rest := []) (w := (xW G q σ)) C lc_RX1_86 (ctX1_loadFor N σ σ16 (v1 + (v2 * v6)) r17 h15 _) hP hD hS (va_recv C.2.2.2.2.2.1 hP (ci := 1) (q0 := 1) rfl rfl) hl.1 rfl rfl (by decide) (by decide) (Nat.le_of_ble_eq_true rfl) dX1_bestMiddle_74) (fun H locs hP hD hS => ?_)
      refine lv_istore (lv' := [(7, .int r17), (0, .ref (q 1)), (1, .int v1), (2, .int v2), (3, .int v3), (4, .int v4), (5, .int v5), (6, .int v6)]) hx hb dX1_bestMiddle_77 hl (by decide) rfl (fun ls hl => ?_)
      refine lv_iload hx hb dX1_bestMiddle_79 (lv_at hl 0 rfl) ?_
      refine lv_iload hx hb dX1_bestMiddle_81 (lv_at hl 6 rfl) ?_
      refine lv_icmp_ge (tgt := 98) hx hb dX1_bestMiddle_83 (by decide) (fun c18 => ?_) (fun c18 => ?_)
      · replace h := ifp c18 h
        refine lv_iinc (v := (v6 + 1)) (lv' := [(6, .int (v6 + 1)), (7, .int r17), (0, .ref (q 1)), (1, .int v1), (2, .int v2), (3, .int v3), (4, .int v4), (5, .int v5)]) hx hb dX1_bestMiddle_98 hl (k := 7) rfl (by first | rfl | decide) (by decide) rfl (fun ls hl => ?_)
        refine lv_goto (tgt := 61) hx hb dX1_bestMiddle_101 (by decide) ?_
        exact ih v4 v5 (v6 + 1) σ16 _ _ _ h hP hD hS (lv_sub hl [2, 3, 4, 5, 6, 7, 0] rfl)
      · replace h := ifn c18 h
        refine lv_iload hx hb dX1_bestMiddle_86 (lv_at hl 0 rfl) ?_
        refine lv_istore (lv' := [(5, .int r17), (7, .int r17), (0, .ref (q 1)), (1, .int v1), (2, .int v2), (3, .int v3), (4, .int v4), (6, .int v6)]) hx hb dX1_bestMiddle_88 hl (by decide) rfl (fun ls hl => ?_)
        refine lv_iload_n hx hb dX1_bestMiddle_90 rfl (lv_at hl 3 rfl) ?_
        refine lv_iload_n hx hb dX1_bestMiddle_91 rfl (lv_at hl 4 rfl) ?_
        refine lv_iload hx hb dX1_bestMiddle_92 (lv_at hl 7 rfl) ?_
        refine lv_imul hx hb dX1_bestMiddle_94 ?_
        refine lv_iadd hx hb dX1_bestMiddle_95 ?_
        refine lv_istore (lv' := [(4, .int (v1 + (v2 * v6))), (5, .int r17), (7, .int r17), (0, .ref (q 1)), (1, .int v1), (2, .int v2), (3, .int v3), (6, .int v6)]) hx hb dX1_bestMiddle_96 hl (by decide) rfl (fun ls hl => ?_)
        refine lv_iinc (v := (v6 + 1)) (lv' := [(6, .int (v6 + 1)), (4, .int (v1 + (v2 * v6))), (5, .int r17), (7, .int r17), (0, .ref (q 1)), (1, .int v1), (2, .int v2), (3, .int v3)]) hx hb dX1_bestMiddle_98 hl (k := 7) rfl (by first | rfl | decide) (by decide) rfl (fun ls hl => ?_)
        refine lv_goto (tgt := 61) hx hb dX1_bestMiddle_101 (by decide) ?_
        exact ih (v1 + (v2 * v6)) r17 (v6 + 1) σ16 _ _ _ h hP hD hS (lv_sub hl [4, 5, 6, 7, 1, 2, 0] rfl)

def fX1_bestMiddle (N : Nat) (σ : St) (a1 : Int32) (a2 : Int32) (a3 : Int32) : Option (Int32 × St) :=
  bd1 (fX6_within N a1 20 900) (fun r2 => (if r2 = 0 then some ((-1), σ) else bd1 (fX6_within N a2 1 99) (fun r5 => (if r5 = 0 then some ((-1), σ) else bd1 (fX6_within N a3 1 200) (fun r8 => (if r8 = 0 then some ((-1), σ) else (if (a1 + (a2 * (a3 - 1))) ≤ 900 then bd2 (fX1_loadFor N σ a1) (fun r13 σ12 => fX1_bestMiddle_L61 N a1 a2 a3 N a1 r13 1 σ12) else some ((-1), σ))))))))
set_option maxHeartbeats 4000000 in
set_option maxRecDepth 100000 in
theorem ctX1_bestMiddle {G : GP} {l : Launch} {q : Nat → Nat} (N : Nat) (σ σ' : St) (a1 : Int32) (a2 : Int32) (a3 : Int32) (r : Int32) (h : fX1_bestMiddle N σ a1 a2 a3 = some (r, σ')) : CI G l yX1_bestMiddle cX1_bestMiddle 8 (some .int) 5 [.ref (q 1), .int a1, .int a2, .int a3] (xW G q σ) (xW G q (σ')) r := by
  refine enterI (own := RX1) (by decide) rfl (Nat.le_of_ble_eq_true rfl) ?_
  intro p e s m args below meth c A C hP hD hS ls hl
  obtain ⟨hx, hb, hml, hown, hts, hK, hZ, hA, hlk, hr⟩ := id C
  have hl : lv_has ls 8 [(0, .ref (q 1)), (1, .int a1), (2, .int a2), (3, .int a3)] := hl
  rw [fX1_bestMiddle.eq_1] at h
  refine lv_iload_n hx hb dX1_bestMiddle_0 rfl (lv_at hl 1 rfl) ?_
  refine lv_bipush (v := 20) hx hb dX1_bestMiddle_1 (by decide) ?_
  refine lv_sipush (v := 900) hx hb dX1_bestMiddle_3 (by decide) ?_
  obtain ⟨r2, h1, h⟩ := bd1_some h
  refine goI C hD hS (runN (As := [.int a1, .int 20, .int 900]) (rest := []) (w := (xW G q σ)) C lc_RX1_32 C.2.2.2.2.2.2.1.2.2.1.2.2.1 (ctX6_within (w := (xW G q σ)) N a1 20 900 r2 h1 _) hP hD hS hl.1 rfl rfl (by decide) (by decide) (Nat.le_of_ble_eq_true rfl) dX1_bestMiddle_6) (fun H locs hP hD hS => ?_)
  refine lv_if_eq (tgt := 46) hx hb dX1_bestMiddle_9 (by decide) (fun c3 => ?_) (fun c3 => ?_)
  · replace h := ifp c3 h
    refine lv_iconst (v := (-1)) hx hb dX1_bestMiddle_46 (by decide) ?_
    obtain ⟨rfl, rfl⟩ := so2 h
    exact retI C hP hD hS dX1_bestMiddle_47
  · replace h := ifn c3 h
    refine lv_iload_n hx hb dX1_bestMiddle_12 rfl (lv_at hl 2 rfl) ?_
    refine lv_iconst (v := 1) hx hb dX1_bestMiddle_13 (by decide) ?_
    refine lv_bipush (v := 99) hx hb dX1_bestMiddle_14 (by decide) ?_
    obtain ⟨r5, h4, h⟩ := bd1_some h
    refine goI C hD hS (runN (As := [.int a2, .int 1, .int 99]) (rest := []) (w := (xW G q σ)) C lc_RX1_32 C.2.2.2.2.2.2.1.2.2.1.2.2.1 (ctX6_within (w := (xW G q σ)) N a2 1 99 r5 h4 _) hP hD hS hl.1 rfl rfl (by decide) (by decide) (Nat.le_of_ble_eq_true rfl) dX1_bestMiddle_16) (fun H locs hP hD hS => ?_)
    refine lv_if_eq (tgt := 46) hx hb dX1_bestMiddle_19 (by decide) (fun c6 => ?_) (fun c6 => ?_)
    · replace h := ifp c6 h
      refine lv_iconst (v := (-1)) hx hb dX1_bestMiddle_46 (by decide) ?_
      obtain ⟨rfl, rfl⟩ := so2 h
      exact retI C hP hD hS dX1_bestMiddle_47
    · replace h := ifn c6 h
      refine lv_iload_n hx hb dX1_bestMiddle_22 rfl (lv_at hl 3 rfl) ?_
      refine lv_iconst (v := 1) hx hb dX1_bestMiddle_23 (by decide) ?_
      refine lv_sipush (v := 200) hx hb dX1_bestMiddle_24 (by decide) ?_
      obtain ⟨r8, h7, h⟩ := bd1_some h
      refine goI C hD hS (runN (As := [.int a3, .int 1, .int 200]) (rest := []) (w := (xW G q σ)) C lc_RX1_32 C.2.2.2.2.2.2.1.2.2.1.2.2.1 (ctX6_within (w := (xW G q σ)) N a3 1 200 r8 h7 _) hP hD hS hl.1 rfl rfl (by decide) (by decide) (Nat.le_of_ble_eq_true rfl) dX1_bestMiddle_27) (fun H locs hP hD hS => ?_)
      refine lv_if_eq (tgt := 46) hx hb dX1_bestMiddle_30 (by decide) (fun c9 => ?_) (fun c9 => ?_)
      · replace h := ifp c9 h
        refine lv_iconst (v := (-1)) hx hb dX1_bestMiddle_46 (by decide) ?_
        obtain ⟨rfl, rfl⟩ := so2 h
        exact retI C hP hD hS dX1_bestMiddle_47
      · replace h := ifn c9 h
        refine lv_iload_n hx hb dX1_bestMiddle_33 rfl (lv_at hl 1 rfl) ?_
        refine lv_iload_n hx hb dX1_bestMiddle_34 rfl (lv_at hl 2 rfl) ?_
        refine lv_iload_n hx hb dX1_bestMiddle_35 rfl (lv_at hl 3 rfl) ?_
        refine lv_iconst (v := 1) hx hb dX1_bestMiddle_36 (by decide) ?_
        refine lv_isub hx hb dX1_bestMiddle_37 ?_
        refine lv_imul hx hb dX1_bestMiddle_38 ?_
        refine lv_iadd hx hb dX1_bestMiddle_39 ?_
        refine lv_sipush (v := 900) hx hb dX1_bestMiddle_40 (by decide) ?_
        refine lv_icmp_le (tgt := 48) hx hb dX1_bestMiddle_43 (by decide) (fun c10 => ?_) (fun c10 => ?_)
        · replace h := ifp c10 h
          refine lv_iload_n hx hb dX1_bestMiddle_48 rfl (lv_at hl 1 rfl) ?_
          refine lv_istore (lv' := [(4, .int a1), (0, .ref (q 1)), (1, .int a1), (2, .int a2), (3, .int a3)]) hx hb dX1_bestMiddle_49 hl (by decide) rfl (fun ls hl => ?_)
          refine lv_aload_n hx hb dX1_bestMiddle_51 rfl (lv_at hl 1 rfl) ?_
          refine lv_iload_n hx hb dX1_bestMiddle_52 rfl (lv_at hl 2 rfl) ?_
          obtain ⟨r13, σ12, h11, h⟩ := bd2_some h
          refine goI C hD hS (runV (As := [.int a1]) (rest := []) (w := (xW G q σ)) C lc_RX1_86 (ctX1_loadFor N σ σ12 a1 r13 h11 _) hP hD hS (va_recv C.2.2.2.2.2.1 hP (ci := 1) (q0 := 1) rfl rfl) hl.1 rfl rfl (by decide) (by decide) (Nat.le_of_ble_eq_true rfl) dX1_bestMiddle_53) (fun H locs hP hD hS => ?_)
          refine lv_istore (lv' := [(5, .int r13), (4, .int a1), (0, .ref (q 1)), (1, .int a1), (2, .int a2), (3, .int a3)]) hx hb dX1_bestMiddle_56 hl (by decide) rfl (fun ls hl => ?_)
          refine lv_iconst (v := 1) hx hb dX1_bestMiddle_58 (by decide) ?_
          refine lv_istore (lv' := [(6, .int 1), (5, .int r13), (4, .int a1), (0, .ref (q 1)), (1, .int a1), (2, .int a2), (3, .int a3)]) hx hb dX1_bestMiddle_59 hl (by decide) rfl (fun ls hl => ?_)
          exact wX1_bestMiddle_L61 C N a1 a2 a3 r σ' N a1 r13 1 σ12 _ _ _ h hP hD hS (lv_sub hl [3, 4, 5, 6, 2, 1, 0] rfl)
        · replace h := ifn c10 h
          refine lv_iconst (v := (-1)) hx hb dX1_bestMiddle_46 (by decide) ?_
          obtain ⟨rfl, rfl⟩ := so2 h
          exact retI C hP hD hS dX1_bestMiddle_47

def fX2_faults (N : Nat) (σ : St) : Option Int32 :=
  some (σ.1 12)
set_option maxHeartbeats 4000000 in
set_option maxRecDepth 100000 in
theorem ctX2_faults {G : GP} {l : Launch} {q : Nat → Nat} (N : Nat) (σ : St) (r : Int32) (h : fX2_faults N σ = some r) : CI G l yX2_faults cX2_faults 1 (some .int) 0 [.ref (q 5)] (xW G q σ) (xW G q σ) r := by
  refine enterI (own := RX2) (by decide) rfl (Nat.le_of_ble_eq_true rfl) ?_
  intro p e s m args below meth c A C hP hD hS ls hl
  obtain ⟨hx, hb, hml, hown, hts, hK, hZ, hA, hlk, hr⟩ := id C
  have hl : lv_has ls 1 [(0, .ref (q 5))] := hl
  rw [fX2_faults.eq_1] at h
  refine lv_aload_n hx hb dX2_faults_0 rfl (lv_at hl 0 rfl) ?_
  refine gf_RX2_24 C hP dX2_faults_1 ?_
  obtain rfl := so1 h
  exact retI C hP hD hS dX2_faults_4

def fX2_tests (N : Nat) (σ : St) : Option Int32 :=
  some (σ.1 13)
set_option maxHeartbeats 4000000 in
set_option maxRecDepth 100000 in
theorem ctX2_tests {G : GP} {l : Launch} {q : Nat → Nat} (N : Nat) (σ : St) (r : Int32) (h : fX2_tests N σ = some r) : CI G l yX2_tests cX2_tests 1 (some .int) 0 [.ref (q 5)] (xW G q σ) (xW G q σ) r := by
  refine enterI (own := RX2) (by decide) rfl (Nat.le_of_ble_eq_true rfl) ?_
  intro p e s m args below meth c A C hP hD hS ls hl
  obtain ⟨hx, hb, hml, hown, hts, hK, hZ, hA, hlk, hr⟩ := id C
  have hl : lv_has ls 1 [(0, .ref (q 5))] := hl
  rw [fX2_tests.eq_1] at h
  refine lv_aload_n hx hb dX2_tests_0 rfl (lv_at hl 0 rfl) ?_
  refine gf_RX2_28 C hP dX2_tests_1 ?_
  obtain rfl := so1 h
  exact retI C hP hD hS dX2_tests_4

def fX2_leftBits (N : Nat) (σ : St) : Option Int32 :=
  some (σ.1 14)
set_option maxHeartbeats 4000000 in
set_option maxRecDepth 100000 in
theorem ctX2_leftBits {G : GP} {l : Launch} {q : Nat → Nat} (N : Nat) (σ : St) (r : Int32) (h : fX2_leftBits N σ = some r) : CI G l yX2_leftBits cX2_leftBits 1 (some .int) 0 [.ref (q 5)] (xW G q σ) (xW G q σ) r := by
  refine enterI (own := RX2) (by decide) rfl (Nat.le_of_ble_eq_true rfl) ?_
  intro p e s m args below meth c A C hP hD hS ls hl
  obtain ⟨hx, hb, hml, hown, hts, hK, hZ, hA, hlk, hr⟩ := id C
  have hl : lv_has ls 1 [(0, .ref (q 5))] := hl
  rw [fX2_leftBits.eq_1] at h
  refine lv_aload_n hx hb dX2_leftBits_0 rfl (lv_at hl 0 rfl) ?_
  refine gf_RX2_31 C hP dX2_leftBits_1 ?_
  obtain rfl := so1 h
  exact retI C hP hD hS dX2_leftBits_4

def fX2_addFault (N : Nat) (σ : St) (a1 : Int32) : Option (Int32 × St) :=
  bd1 (fX6_within N a1 1 99) (fun r2 => (if r2 = 0 then some ((-1), σ) else (if (σ.1 12) < 12 then gi (σ.1 12) 12 (some ((((σ.1 12) + 1) - 1), (s1 (s1 (sA σ 11 (σ.1 12).toNatClampNeg a1) 14 ((σ.1 14) ||| (1 <<< ((σ.1 12) &&& 31)))) 12 ((σ.1 12) + 1)))) else some ((-2), σ))))
set_option maxHeartbeats 4000000 in
set_option maxRecDepth 100000 in
theorem ctX2_addFault {G : GP} {l : Launch} {q : Nat → Nat} (N : Nat) (σ σ' : St) (a1 : Int32) (r : Int32) (h : fX2_addFault N σ a1 = some (r, σ')) : CI G l yX2_addFault cX2_addFault 2 (some .int) 1 [.ref (q 5), .int a1] (xW G q σ) (xW G q (σ')) r := by
  refine enterI (own := RX2) (by decide) rfl (Nat.le_of_ble_eq_true rfl) ?_
  intro p e s m args below meth c A C hP hD hS ls hl
  obtain ⟨hx, hb, hml, hown, hts, hK, hZ, hA, hlk, hr⟩ := id C
  have hl : lv_has ls 2 [(0, .ref (q 5)), (1, .int a1)] := hl
  rw [fX2_addFault.eq_1] at h
  refine lv_iload_n hx hb dX2_addFault_0 rfl (lv_at hl 1 rfl) ?_
  refine lv_iconst (v := 1) hx hb dX2_addFault_1 (by decide) ?_
  refine lv_bipush (v := 99) hx hb dX2_addFault_2 (by decide) ?_
  obtain ⟨r2, h1, h⟩ := bd1_some h
  refine goI C hD hS (runN (As := [.int a1, .int 1, .int 99]) (rest := []) (w := (xW G q σ)) C lc_RX2_34 C.2.2.2.2.2.2.1.2.2.1.2.2.2.2.2.2.2 (ctX6_within (w := (xW G q σ)) N a1 1 99 r2 h1 _) hP hD hS hl.1 rfl rfl (by decide) (by decide) (Nat.le_of_ble_eq_true rfl) dX2_addFault_4) (fun H locs hP hD hS => ?_)
  refine lv_if_ne (tgt := 12) hx hb dX2_addFault_7 (by decide) (fun c3 => ?_) (fun c3 => ?_)
  · replace h := ifn c3 h
    refine lv_aload_n hx hb dX2_addFault_12 rfl (lv_at hl 0 rfl) ?_
    refine gf_RX2_24 C hP dX2_addFault_13 ?_
    refine lv_bipush (v := 12) hx hb dX2_addFault_16 (by decide) ?_
    refine lv_icmp_lt (tgt := 24) hx hb dX2_addFault_18 (by decide) (fun c4 => ?_) (fun c4 => ?_)
    · replace h := ifp c4 h
      refine lv_aload_n hx hb dX2_addFault_24 rfl (lv_at hl 0 rfl) ?_
      refine gf_RX2_9 C hP dX2_addFault_25 ?_
      refine lv_aload_n hx hb dX2_addFault_28 rfl (lv_at hl 0 rfl) ?_
      refine gf_RX2_24 C hP dX2_addFault_29 ?_
      refine lv_iload_n hx hb dX2_addFault_32 rfl (lv_at hl 1 rfl) ?_
      obtain ⟨i5, h⟩ := gi_some h
      refine stX_11 C hP hD hS i5 dX2_addFault_33 (fun H locs hP hD hS => ?_)
      refine lv_aload_n hx hb dX2_addFault_34 rfl (lv_at hl 0 rfl) ?_
      refine lv_dup hx hb dX2_addFault_35 rfl ?_
      refine gf_RX2_31 C hP dX2_addFault_36 ?_
      refine lv_cv (y := (σ.1 14)) rfl ?_
      refine lv_iconst (v := 1) hx hb dX2_addFault_39 (by decide) ?_
      refine lv_aload_n hx hb dX2_addFault_40 rfl (lv_at hl 0 rfl) ?_
      refine gf_RX2_24 C hP dX2_addFault_41 ?_
      refine lv_cv (y := (σ.1 12)) rfl ?_
      refine lv_ishl hx hb dX2_addFault_44 ?_
      refine lv_ior hx hb dX2_addFault_45 ?_
      refine pf_RX2_31 C hP hD hS dX2_addFault_46 (fun H locs hP hD hS => ?_)
      refine lv_aload_n hx hb dX2_addFault_49 rfl (lv_at hl 0 rfl) ?_
      refine lv_dup hx hb dX2_addFault_50 rfl ?_
      refine gf_RX2_24 C hP dX2_addFault_51 ?_
      refine lv_cv (y := (σ.1 12)) rfl ?_
      refine lv_iconst (v := 1) hx hb dX2_addFault_54 (by decide) ?_
      refine lv_iadd hx hb dX2_addFault_55 ?_
      refine pf_RX2_24 C hP hD hS dX2_addFault_56 (fun H locs hP hD hS => ?_)
      refine lv_aload_n hx hb dX2_addFault_59 rfl (lv_at hl 0 rfl) ?_
      refine gf_RX2_24 C hP dX2_addFault_60 ?_
      refine lv_cv (y := ((σ.1 12) + 1)) rfl ?_
      refine lv_iconst (v := 1) hx hb dX2_addFault_63 (by decide) ?_
      refine lv_isub hx hb dX2_addFault_64 ?_
      obtain ⟨rfl, rfl⟩ := so2 h
      exact retI C hP hD hS dX2_addFault_65
    · replace h := ifn c4 h
      refine lv_bipush (v := (-2)) hx hb dX2_addFault_21 (by decide) ?_
      obtain ⟨rfl, rfl⟩ := so2 h
      exact retI C hP hD hS dX2_addFault_23
  · replace h := ifp c3 h
    refine lv_iconst (v := (-1)) hx hb dX2_addFault_10 (by decide) ?_
    obtain ⟨rfl, rfl⟩ := so2 h
    exact retI C hP hD hS dX2_addFault_11

def fX2_addTest (N : Nat) (σ : St) (a1 : Int32) : Option (Int32 × St) :=
  bd1 (fX6_within N a1 1 99) (fun r2 => (if r2 = 0 then some ((-1), σ) else (if (σ.1 13) < 12 then gi (σ.1 13) 12 (some ((((σ.1 13) + 1) - 1), (s1 (sA σ 12 (σ.1 13).toNatClampNeg a1) 13 ((σ.1 13) + 1)))) else some ((-2), σ))))
set_option maxHeartbeats 4000000 in
set_option maxRecDepth 100000 in
theorem ctX2_addTest {G : GP} {l : Launch} {q : Nat → Nat} (N : Nat) (σ σ' : St) (a1 : Int32) (r : Int32) (h : fX2_addTest N σ a1 = some (r, σ')) : CI G l yX2_addTest cX2_addTest 2 (some .int) 1 [.ref (q 5), .int a1] (xW G q σ) (xW G q (σ')) r := by
  refine enterI (own := RX2) (by decide) rfl (Nat.le_of_ble_eq_true rfl) ?_
  intro p e s m args below meth c A C hP hD hS ls hl
  obtain ⟨hx, hb, hml, hown, hts, hK, hZ, hA, hlk, hr⟩ := id C
  have hl : lv_has ls 2 [(0, .ref (q 5)), (1, .int a1)] := hl
  rw [fX2_addTest.eq_1] at h
  refine lv_iload_n hx hb dX2_addTest_0 rfl (lv_at hl 1 rfl) ?_
  refine lv_iconst (v := 1) hx hb dX2_addTest_1 (by decide) ?_
  refine lv_bipush (v := 99) hx hb dX2_addTest_2 (by decide) ?_
  obtain ⟨r2, h1, h⟩ := bd1_some h
  refine goI C hD hS (runN (As := [.int a1, .int 1, .int 99]) (rest := []) (w := (xW G q σ)) C lc_RX2_34 C.2.2.2.2.2.2.1.2.2.1.2.2.2.2.2.2.2 (ctX6_within (w := (xW G q σ)) N a1 1 99 r2 h1 _) hP hD hS hl.1 rfl rfl (by decide) (by decide) (Nat.le_of_ble_eq_true rfl) dX2_addTest_4) (fun H locs hP hD hS => ?_)
  refine lv_if_ne (tgt := 12) hx hb dX2_addTest_7 (by decide) (fun c3 => ?_) (fun c3 => ?_)
  · replace h := ifn c3 h
    refine lv_aload_n hx hb dX2_addTest_12 rfl (lv_at hl 0 rfl) ?_
    refine gf_RX2_28 C hP dX2_addTest_13 ?_
    refine lv_bipush (v := 12) hx hb dX2_addTest_16 (by decide) ?_
    refine lv_icmp_lt (tgt := 24) hx hb dX2_addTest_18 (by decide) (fun c4 => ?_) (fun c4 => ?_)
    · replace h := ifp c4 h
      refine lv_aload_n hx hb dX2_addTest_24 rfl (lv_at hl 0 rfl) ?_
      refine gf_RX2_15 C hP dX2_addTest_25 ?_
      refine lv_aload_n hx hb dX2_addTest_28 rfl (lv_at hl 0 rfl) ?_
      refine gf_RX2_28 C hP dX2_addTest_29 ?_
      refine lv_iload_n hx hb dX2_addTest_32 rfl (lv_at hl 1 rfl) ?_
      obtain ⟨i5, h⟩ := gi_some h
      refine stX_12 C hP hD hS i5 dX2_addTest_33 (fun H locs hP hD hS => ?_)
      refine lv_aload_n hx hb dX2_addTest_34 rfl (lv_at hl 0 rfl) ?_
      refine lv_dup hx hb dX2_addTest_35 rfl ?_
      refine gf_RX2_28 C hP dX2_addTest_36 ?_
      refine lv_cv (y := (σ.1 13)) rfl ?_
      refine lv_iconst (v := 1) hx hb dX2_addTest_39 (by decide) ?_
      refine lv_iadd hx hb dX2_addTest_40 ?_
      refine pf_RX2_28 C hP hD hS dX2_addTest_41 (fun H locs hP hD hS => ?_)
      refine lv_aload_n hx hb dX2_addTest_44 rfl (lv_at hl 0 rfl) ?_
      refine gf_RX2_28 C hP dX2_addTest_45 ?_
      refine lv_cv (y := ((σ.1 13) + 1)) rfl ?_
      refine lv_iconst (v := 1) hx hb dX2_addTest_48 (by decide) ?_
      refine lv_isub hx hb dX2_addTest_49 ?_
      obtain ⟨rfl, rfl⟩ := so2 h
      exact retI C hP hD hS dX2_addTest_50
    · replace h := ifn c4 h
      refine lv_bipush (v := (-2)) hx hb dX2_addTest_21 (by decide) ?_
      obtain ⟨rfl, rfl⟩ := so2 h
      exact retI C hP hD hS dX2_addTest_23
  · replace h := ifp c3 h
    refine lv_iconst (v := (-1)) hx hb dX2_addTest_10 (by decide) ?_
    obtain ⟨rfl, rfl⟩ := so2 h
    exact retI C hP hD hS dX2_addTest_11

def fX2_isReading (N : Nat) (a1 : Int32) : Option Int32 :=
  bd1 (fX6_within N a1 0 3) (fun r2 => bz r2 (some r2))
set_option maxHeartbeats 4000000 in
set_option maxRecDepth 100000 in
theorem ctX2_isReading {G : GP} {l : Launch} {w : va_W} (N : Nat) (a1 : Int32) (r : Int32) (h : fX2_isReading N a1 = some r) : CI G l yX2_isReading cX2_isReading 1 (some .boolean) 1 [.int a1] w w r := by
  refine enterI (own := RX2) (by decide) rfl (Nat.le_of_ble_eq_true rfl) ?_
  intro p e s m args below meth c A C hP hD hS ls hl
  obtain ⟨hx, hb, hml, hown, hts, hK, hZ, hA, hlk, hr⟩ := id C
  have hl : lv_has ls 1 [(0, .int a1)] := hl
  rw [fX2_isReading.eq_1] at h
  refine lv_iload_n hx hb dX2_isReading_0 rfl (lv_at hl 0 rfl) ?_
  refine lv_iconst (v := 0) hx hb dX2_isReading_1 (by decide) ?_
  refine lv_iconst (v := 3) hx hb dX2_isReading_2 (by decide) ?_
  obtain ⟨r2, h1, h⟩ := bd1_some h
  refine goI C hD hS (runN (As := [.int a1, .int 0, .int 3]) (rest := []) (w := w) C lc_RX2_34 C.2.2.2.2.2.2.1.2.2.1.2.2.2.2.2.2.2 (ctX6_within (w := w) N a1 0 3 r2 h1 _) hP hD hS hl.1 rfl rfl (by decide) (by decide) (Nat.le_of_ble_eq_true rfl) dX2_isReading_3) (fun H locs hP hD hS => ?_)
  obtain ⟨b3, h⟩ := bz_some h
  obtain rfl := so1 h
  exact retZ C hP hD hS b3 dX2_isReading_6

def fX2_isTest (N : Nat) (σ : St) (a1 : Int32) : Option Int32 :=
  bd1 (fX6_within N a1 0 ((σ.1 13) - 1)) (fun r2 => bz r2 (some r2))
set_option maxHeartbeats 4000000 in
set_option maxRecDepth 100000 in
theorem ctX2_isTest {G : GP} {l : Launch} {q : Nat → Nat} (N : Nat) (σ : St) (a1 : Int32) (r : Int32) (h : fX2_isTest N σ a1 = some r) : CI G l yX2_isTest cX2_isTest 2 (some .boolean) 1 [.ref (q 5), .int a1] (xW G q σ) (xW G q σ) r := by
  refine enterI (own := RX2) (by decide) rfl (Nat.le_of_ble_eq_true rfl) ?_
  intro p e s m args below meth c A C hP hD hS ls hl
  obtain ⟨hx, hb, hml, hown, hts, hK, hZ, hA, hlk, hr⟩ := id C
  have hl : lv_has ls 2 [(0, .ref (q 5)), (1, .int a1)] := hl
  rw [fX2_isTest.eq_1] at h
  refine lv_iload_n hx hb dX2_isTest_0 rfl (lv_at hl 1 rfl) ?_
  refine lv_iconst (v := 0) hx hb dX2_isTest_1 (by decide) ?_
  refine lv_aload_n hx hb dX2_isTest_2 rfl (lv_at hl 0 rfl) ?_
  refine gf_RX2_28 C hP dX2_isTest_3 ?_
  refine lv_iconst (v := 1) hx hb dX2_isTest_6 (by decide) ?_
  refine lv_isub hx hb dX2_isTest_7 ?_
  obtain ⟨r2, h1, h⟩ := bd1_some h
  refine goI C hD hS (runN (As := [.int a1, .int 0, .int ((σ.1 13) - 1)]) (rest := []) (w := (xW G q σ)) C lc_RX2_34 C.2.2.2.2.2.2.1.2.2.1.2.2.2.2.2.2.2 (ctX6_within (w := (xW G q σ)) N a1 0 ((σ.1 13) - 1) r2 h1 _) hP hD hS hl.1 rfl rfl (by decide) (by decide) (Nat.le_of_ble_eq_true rfl) dX2_isTest_8) (fun H locs hP hD hS => ?_)
  obtain ⟨b3, h⟩ := bz_some h
  obtain rfl := so1 h
  exact retZ C hP hD hS b3 dX2_isTest_11

def fX2_changeReading_L42 (N : Nat) (v1 : Int32) (v3 : Int32) (v4 : Int32) : Nat → Int32 → Int32 → St → Option (Int32 × St)
  | 0, _, _, _ => none
  | n + 1, v5, v6, σ => (if 4 ≤ v6 then gi ((v1 * 4) + v5) 48 (gi ((v1 * 4) + v5) 48 (gi ((v1 * 4) + v3) 48 (gi ((v1 * 4) + v3) 48 (some (v5, (sA (sA σ 13 ((v1 * 4) + v5).toNatClampNeg ((σ.2 13 ((v1 * 4) + v5).toNatClampNeg) &&& (v4 ^^^ (-1)))) 13 ((v1 * 4) + v3).toNatClampNeg (((sA σ 13 ((v1 * 4) + v5).toNatClampNeg ((σ.2 13 ((v1 * 4) + v5).toNatClampNeg) &&& (v4 ^^^ (-1)))).2 13 ((v1 * 4) + v3).toNatClampNeg) ||| v4))))))) else gi ((v1 * 4) + v6) 48 ((if ((σ.2 13 ((v1 * 4) + v6).toNatClampNeg) &&& v4) = 0 then fX2_changeReading_L42 N v1 v3 v4 n v5 (v6 + 1) σ else fX2_changeReading_L42 N v1 v3 v4 n v6 (v6 + 1) σ)))
set_option maxHeartbeats 4000000 in
set_option maxRecDepth 100000 in
theorem wX2_changeReading_L42 {q : Nat → Nat} (C : Cx G p s m args meth c cX2_changeReading 7 (some .int) (Cond.code yX2_changeReading cX2_changeReading 7 (some .int)) RX2 A) (N : Nat) (v1 : Int32) (v3 : Int32) (v4 : Int32) (r : Int32) (σ' : St) : ∀ (n : Nat) (v5 : Int32) (v6 : Int32) (σ : St) (H : Heap) (locs : List Loc) (ls : Array Slot), fX2_changeReading_L42 N v1 v3 v4 n v5 v6 σ = some (r, σ') → va_P G.1 vwCl (xW G q σ) H → va_D A (xW G q σ) → va_S A s.heap H locs → lv_has ls 7 [(0, .ref (q 5)), (1, .int v1), (3, .int v3), (4, .int v4), (5, .int v5), (6, .int v6)] → W p l e (rmD 2) s m args below meth c H locs 0 0 (QI G below args s A (xW G q (σ')) r) (F0 m 42 ls []) := by
  obtain ⟨hx, hb, hml, hown, hts, hK, hZ, hA, hlk, hr⟩ := id C
  intro n
  induction n with
  | zero =>
    intro v5 v6 σ H locs ls h
    cases h
  | succ n ih =>
    intro v5 v6 σ H locs ls h hP hD hS hl
    rw [fX2_changeReading_L42.eq_2] at h
    refine lv_iload hx hb dX2_changeReading_42 (lv_at hl 5 rfl) ?_
    refine lv_iconst (v := 4) hx hb dX2_changeReading_44 (by decide) ?_
    refine lv_icmp_ge (tgt := 75) hx hb dX2_changeReading_45 (by decide) (fun c10 => ?_) (fun c10 => ?_)
    · replace h := ifp c10 h
      refine lv_aload_n hx hb dX2_changeReading_75 rfl (lv_at hl 0 rfl) ?_
      refine gf_RX2_18 C hP dX2_changeReading_76 ?_
      refine lv_iload_n hx hb dX2_changeReading_79 rfl (lv_at hl 1 rfl) ?_
      refine lv_iconst (v := 4) hx hb dX2_changeReading_80 (by decide) ?_
      refine lv_imul hx hb dX2_changeReading_81 ?_
      refine lv_iload hx hb dX2_changeReading_82 (lv_at hl 4 rfl) ?_
      refine lv_iadd hx hb dX2_changeReading_84 ?_
      refine lv_dup2_11 hx hb dX2_changeReading_85 rfl rfl ?_
      obtain ⟨i11, h⟩ := gi_some h
      refine ldX_13 C hP i11 dX2_changeReading_86 ?_
      refine lv_iload hx hb dX2_changeReading_87 (lv_at hl 3 rfl) ?_
      refine lv_iconst (v := (-1)) hx hb dX2_changeReading_89 (by decide) ?_
      refine lv_ixor hx hb dX2_changeReading_90 ?_
      refine lv_iand hx hb dX2_changeReading_91 ?_
      obtain ⟨i12, h⟩ := gi_some h
      refine stX_13 C hP hD hS i12 dX2_changeReading_92 (fun H locs hP hD hS => ?_)
      refine lv_aload_n hx hb dX2_changeReading_93 rfl (lv_at hl 0 rfl) ?_
      refine gf_RX2_18 C hP dX2_changeReading_94 ?_
      refine lv_iload_n hx hb dX2_changeReading_97 rfl (lv_at hl 1 rfl) ?_
      refine lv_iconst (v := 4) hx hb dX2_changeReading_98 (by decide) ?_
      refine lv_imul hx hb dX2_changeReading_99 ?_
      refine lv_iload_n hx hb dX2_changeReading_100 rfl (lv_at hl 2 rfl) ?_
      refine lv_iadd hx hb dX2_changeReading_101 ?_
      refine lv_dup2_11 hx hb dX2_changeReading_102 rfl rfl ?_
      obtain ⟨i13, h⟩ := gi_some h
      refine ldX_13 C hP i13 dX2_changeReading_103 ?_
      refine lv_iload hx hb dX2_changeReading_104 (lv_at hl 3 rfl) ?_
      refine lv_ior hx hb dX2_changeReading_106 ?_
      obtain ⟨i14, h⟩ := gi_some h
      refine stX_13 C hP hD hS i14 dX2_changeReading_107 (fun H locs hP hD hS => ?_)
      refine lv_iload hx hb dX2_changeReading_108 (lv_at hl 4 rfl) ?_
      obtain ⟨rfl, rfl⟩ := so2 h
      exact retI C hP hD hS dX2_changeReading_110
    · replace h := ifn c10 h
      refine lv_aload_n hx hb dX2_changeReading_48 rfl (lv_at hl 0 rfl) ?_
      refine gf_RX2_18 C hP dX2_changeReading_49 ?_
      refine lv_iload_n hx hb dX2_changeReading_52 rfl (lv_at hl 1 rfl) ?_
      refine lv_iconst (v := 4) hx hb dX2_changeReading_53 (by decide) ?_
      refine lv_imul hx hb dX2_changeReading_54 ?_
      refine lv_iload hx hb dX2_changeReading_55 (lv_at hl 5 rfl) ?_
      refine lv_iadd hx hb dX2_changeReading_57 ?_
      obtain ⟨i15, h⟩ := gi_some h
      refine ldX_13 C hP i15 dX2_changeReading_58 ?_
      refine lv_iload hx hb dX2_changeReading_59 (lv_at hl 3 rfl) ?_
      refine lv_iand hx hb dX2_changeReading_61 ?_
      refine lv_if_eq (tgt := 69) hx hb dX2_changeReading_62 (by decide) (fun c16 => ?_) (fun c16 => ?_)
      · replace h := ifp c16 h
        refine lv_iinc (v := (v6 + 1)) (lv' := [(6, .int (v6 + 1)), (0, .ref (q 5)), (1, .int v1), (3, .int v3), (4, .int v4), (5, .int v5)]) hx hb dX2_changeReading_69 hl (k := 5) rfl (by first | rfl | decide) (by decide) rfl (fun ls hl => ?_)
        refine lv_goto (tgt := 42) hx hb dX2_changeReading_72 (by decide) ?_
        exact ih v5 (v6 + 1) σ _ _ _ h hP hD hS (lv_sub hl [1, 2, 3, 4, 5, 0] rfl)
      · replace h := ifn c16 h
        refine lv_iload hx hb dX2_changeReading_65 (lv_at hl 5 rfl) ?_
        refine lv_istore (lv' := [(5, .int v6), (0, .ref (q 5)), (1, .int v1), (3, .int v3), (4, .int v4), (6, .int v6)]) hx hb dX2_changeReading_67 hl (by decide) rfl (fun ls hl => ?_)
        refine lv_iinc (v := (v6 + 1)) (lv' := [(6, .int (v6 + 1)), (5, .int v6), (0, .ref (q 5)), (1, .int v1), (3, .int v3), (4, .int v4)]) hx hb dX2_changeReading_69 hl (k := 5) rfl (by first | rfl | decide) (by decide) rfl (fun ls hl => ?_)
        refine lv_goto (tgt := 42) hx hb dX2_changeReading_72 (by decide) ?_
        exact ih v6 (v6 + 1) σ _ _ _ h hP hD hS (lv_sub hl [2, 3, 4, 5, 1, 0] rfl)

def fX2_changeReading (N : Nat) (σ : St) (a1 : Int32) (a2 : Int32) (a3 : Int32) : Option (Int32 × St) :=
  bd1 (fX2_isTest N σ a1) (fun r2 => (if r2 = 0 then some ((-1), σ) else bd1 (fX6_within N a2 0 ((σ.1 12) - 1)) (fun r5 => (if r5 = 0 then some ((-1), σ) else bd1 (fX2_isReading N a3) (fun r8 => (if r8 = 0 then some ((-1), σ) else fX2_changeReading_L42 N a1 a3 (1 <<< (a2 &&& 31)) N 0 0 σ))))))
set_option maxHeartbeats 4000000 in
set_option maxRecDepth 100000 in
theorem ctX2_changeReading {G : GP} {l : Launch} {q : Nat → Nat} (N : Nat) (σ σ' : St) (a1 : Int32) (a2 : Int32) (a3 : Int32) (r : Int32) (h : fX2_changeReading N σ a1 a2 a3 = some (r, σ')) : CI G l yX2_changeReading cX2_changeReading 7 (some .int) 2 [.ref (q 5), .int a1, .int a2, .int a3] (xW G q σ) (xW G q (σ')) r := by
  refine enterI (own := RX2) (by decide) rfl (Nat.le_of_ble_eq_true rfl) ?_
  intro p e s m args below meth c A C hP hD hS ls hl
  obtain ⟨hx, hb, hml, hown, hts, hK, hZ, hA, hlk, hr⟩ := id C
  have hl : lv_has ls 7 [(0, .ref (q 5)), (1, .int a1), (2, .int a2), (3, .int a3)] := hl
  rw [fX2_changeReading.eq_1] at h
  refine lv_aload_n hx hb dX2_changeReading_0 rfl (lv_at hl 0 rfl) ?_
  refine lv_iload_n hx hb dX2_changeReading_1 rfl (lv_at hl 1 rfl) ?_
  obtain ⟨r2, h1, h⟩ := bd1_some h
  refine goI C hD hS (runV (As := [.int a1]) (rest := []) (w := (xW G q σ)) C lc_RX2_38 (ctX2_isTest N σ a1 r2 h1 _) hP hD hS (va_recv C.2.2.2.2.2.1 hP (ci := 2) (q0 := 5) rfl rfl) hl.1 rfl rfl (by decide) (by decide) (Nat.le_of_ble_eq_true rfl) dX2_changeReading_2) (fun H locs hP hD hS => ?_)
  refine lv_if_eq (tgt := 29) hx hb dX2_changeReading_5 (by decide) (fun c3 => ?_) (fun c3 => ?_)
  · replace h := ifp c3 h
    refine lv_iconst (v := (-1)) hx hb dX2_changeReading_29 (by decide) ?_
    obtain ⟨rfl, rfl⟩ := so2 h
    exact retI C hP hD hS dX2_changeReading_30
  · replace h := ifn c3 h
    refine lv_iload_n hx hb dX2_changeReading_8 rfl (lv_at hl 2 rfl) ?_
    refine lv_iconst (v := 0) hx hb dX2_changeReading_9 (by decide) ?_
    refine lv_aload_n hx hb dX2_changeReading_10 rfl (lv_at hl 0 rfl) ?_
    refine gf_RX2_24 C hP dX2_changeReading_11 ?_
    refine lv_iconst (v := 1) hx hb dX2_changeReading_14 (by decide) ?_
    refine lv_isub hx hb dX2_changeReading_15 ?_
    obtain ⟨r5, h4, h⟩ := bd1_some h
    refine goI C hD hS (runN (As := [.int a2, .int 0, .int ((σ.1 12) - 1)]) (rest := []) (w := (xW G q σ)) C lc_RX2_34 C.2.2.2.2.2.2.1.2.2.1.2.2.2.2.2.2.2 (ctX6_within (w := (xW G q σ)) N a2 0 ((σ.1 12) - 1) r5 h4 _) hP hD hS hl.1 rfl rfl (by decide) (by decide) (Nat.le_of_ble_eq_true rfl) dX2_changeReading_16) (fun H locs hP hD hS => ?_)
    refine lv_if_eq (tgt := 29) hx hb dX2_changeReading_19 (by decide) (fun c6 => ?_) (fun c6 => ?_)
    · replace h := ifp c6 h
      refine lv_iconst (v := (-1)) hx hb dX2_changeReading_29 (by decide) ?_
      obtain ⟨rfl, rfl⟩ := so2 h
      exact retI C hP hD hS dX2_changeReading_30
    · replace h := ifn c6 h
      refine lv_iload_n hx hb dX2_changeReading_22 rfl (lv_at hl 3 rfl) ?_
      obtain ⟨r8, h7, h⟩ := bd1_some h
      refine goI C hD hS (runS (As := [.int a3]) (rest := []) (w := (xW G q σ)) C lc_RX2_42 (ctX2_isReading (w := (xW G q σ)) N a3 r8 h7 _) hP hD hS hl.1 rfl rfl (by decide) (by decide) (Nat.le_of_ble_eq_true rfl) dX2_changeReading_23) (fun H locs hP hD hS => ?_)
      refine lv_if_ne (tgt := 31) hx hb dX2_changeReading_26 (by decide) (fun c9 => ?_) (fun c9 => ?_)
      · replace h := ifn c9 h
        refine lv_iconst (v := 1) hx hb dX2_changeReading_31 (by decide) ?_
        refine lv_iload_n hx hb dX2_changeReading_32 rfl (lv_at hl 2 rfl) ?_
        refine lv_ishl hx hb dX2_changeReading_33 ?_
        refine lv_istore (lv' := [(4, .int (1 <<< (a2 &&& 31))), (0, .ref (q 5)), (1, .int a1), (2, .int a2), (3, .int a3)]) hx hb dX2_changeReading_34 hl (by decide) rfl (fun ls hl => ?_)
        refine lv_iconst (v := 0) hx hb dX2_changeReading_36 (by decide) ?_
        refine lv_istore (lv' := [(5, .int 0), (4, .int (1 <<< (a2 &&& 31))), (0, .ref (q 5)), (1, .int a1), (2, .int a2), (3, .int a3)]) hx hb dX2_changeReading_37 hl (by decide) rfl (fun ls hl => ?_)
        refine lv_iconst (v := 0) hx hb dX2_changeReading_39 (by decide) ?_
        refine lv_istore (lv' := [(6, .int 0), (5, .int 0), (4, .int (1 <<< (a2 &&& 31))), (0, .ref (q 5)), (1, .int a1), (2, .int a2), (3, .int a3)]) hx hb dX2_changeReading_40 hl (by decide) rfl (fun ls hl => ?_)
        exact wX2_changeReading_L42 C N a1 a3 (1 <<< (a2 &&& 31)) r σ' N 0 0 σ _ _ _ h hP hD hS (lv_sub hl [3, 4, 6, 2, 1, 0] rfl)
      · replace h := ifp c9 h
        refine lv_iconst (v := (-1)) hx hb dX2_changeReading_29 (by decide) ?_
        obtain ⟨rfl, rfl⟩ := so2 h
        exact retI C hP hD hS dX2_changeReading_30

def fJ6_bitCount_0f7a4 (N : Nat) (a1 : Int32) : Option Int32 :=
  some ((((((((a1 - ((a1.toUInt32 >>> ((1 : Int32).toUInt32 &&& Int32.toUInt32 31)).toInt32 &&& 1431655765)) &&& 858993459) + (((a1 - ((a1.toUInt32 >>> ((1 : Int32).toUInt32 &&& Int32.toUInt32 31)).toInt32 &&& 1431655765)).toUInt32 >>> ((2 : Int32).toUInt32 &&& Int32.toUInt32 31)).toInt32 &&& 858993459)) + ((((a1 - ((a1.toUInt32 >>> ((1 : Int32).toUInt32 &&& Int32.toUInt32 31)).toInt32 &&& 1431655765)) &&& 858993459) + (((a1 - ((a1.toUInt32 >>> ((1 : Int32).toUInt32 &&& Int32.toUInt32 31)).toInt32 &&& 1431655765)).toUInt32 >>> ((2 : Int32).toUInt32 &&& Int32.toUInt32 31)).toInt32 &&& 858993459)).toUInt32 >>> ((4 : Int32).toUInt32 &&& Int32.toUInt32 31)).toInt32) &&& 252645135) + ((((((a1 - ((a1.toUInt32 >>> ((1 : Int32).toUInt32 &&& Int32.toUInt32 31)).toInt32 &&& 1431655765)) &&& 858993459) + (((a1 - ((a1.toUInt32 >>> ((1 : Int32).toUInt32 &&& Int32.toUInt32 31)).toInt32 &&& 1431655765)).toUInt32 >>> ((2 : Int32).toUInt32 &&& Int32.toUInt32 31)).toInt32 &&& 858993459)) + ((((a1 - ((a1.toUInt32 >>> ((1 : Int32).toUInt32 &&& Int32.toUInt32 31)).toInt32 &&& 1431655765)) &&& 858993459) + (((a1 - ((a1.toUInt32 >>> ((1 : Int32).toUInt32 &&& Int32.toUInt32 31)).toInt32 &&& 1431655765)).toUInt32 >>> ((2 : Int32).toUInt32 &&& Int32.toUInt32 31)).toInt32 &&& 858993459)).toUInt32 >>> ((4 : Int32).toUInt32 &&& Int32.toUInt32 31)).toInt32) &&& 252645135).toUInt32 >>> ((8 : Int32).toUInt32 &&& Int32.toUInt32 31)).toInt32) + (((((((a1 - ((a1.toUInt32 >>> ((1 : Int32).toUInt32 &&& Int32.toUInt32 31)).toInt32 &&& 1431655765)) &&& 858993459) + (((a1 - ((a1.toUInt32 >>> ((1 : Int32).toUInt32 &&& Int32.toUInt32 31)).toInt32 &&& 1431655765)).toUInt32 >>> ((2 : Int32).toUInt32 &&& Int32.toUInt32 31)).toInt32 &&& 858993459)) + ((((a1 - ((a1.toUInt32 >>> ((1 : Int32).toUInt32 &&& Int32.toUInt32 31)).toInt32 &&& 1431655765)) &&& 858993459) + (((a1 - ((a1.toUInt32 >>> ((1 : Int32).toUInt32 &&& Int32.toUInt32 31)).toInt32 &&& 1431655765)).toUInt32 >>> ((2 : Int32).toUInt32 &&& Int32.toUInt32 31)).toInt32 &&& 858993459)).toUInt32 >>> ((4 : Int32).toUInt32 &&& Int32.toUInt32 31)).toInt32) &&& 252645135) + ((((((a1 - ((a1.toUInt32 >>> ((1 : Int32).toUInt32 &&& Int32.toUInt32 31)).toInt32 &&& 1431655765)) &&& 858993459) + (((a1 - ((a1.toUInt32 >>> ((1 : Int32).toUInt32 &&& Int32.toUInt32 31)).toInt32 &&& 1431655765)).toUInt32 >>> ((2 : Int32).toUInt32 &&& Int32.toUInt32 31)).toInt32 &&& 858993459)) + ((((a1 - ((a1.toUInt32 >>> ((1 : Int32).toUInt32 &&& Int32.toUInt32 31)).toInt32 &&& 1431655765)) &&& 858993459) + (((a1 - ((a1.toUInt32 >>> ((1 : Int32).toUInt32 &&& Int32.toUInt32 31)).toInt32 &&& 1431655765)).toUInt32 >>> ((2 : Int32).toUInt32 &&& Int32.toUInt32 31)).toInt32 &&& 858993459)).toUInt32 >>> ((4 : Int32).toUInt32 &&& Int32.toUInt32 31)).toInt32) &&& 252645135).toUInt32 >>> ((8 : Int32).toUInt32 &&& Int32.toUInt32 31)).toInt32).toUInt32 >>> ((16 : Int32).toUInt32 &&& Int32.toUInt32 31)).toInt32) &&& 63)
set_option maxHeartbeats 4000000 in
set_option maxRecDepth 100000 in
theorem ctJ6_bitCount_0f7a4 {G : GP} {l : Launch} {w : va_W} (N : Nat) (a1 : Int32) (r : Int32) (h : fJ6_bitCount_0f7a4 N a1 = some r) : CI G l yJ6_bitCount_0f7a4 cJ6_bitCount_0f7a4 1 (some .int) 0 [.int a1] w w r := by
  refine enterI (own := RJ6) (by decide) rfl (Nat.le_of_ble_eq_true rfl) ?_
  intro p e s m args below meth c A C hP hD hS ls hl
  obtain ⟨hx, hb, hml, hown, hts, hK, hZ, hA, hlk, hr⟩ := id C
  have hl : lv_has ls 1 [(0, .int a1)] := hl
  rw [fJ6_bitCount_0f7a4.eq_1] at h
  refine lv_iload_n hx hb dJ6_bitCount_0f7a4_0 rfl (lv_at hl 0 rfl) ?_
  refine lv_iload_n hx hb dJ6_bitCount_0f7a4_1 rfl (lv_at hl 0 rfl) ?_
  refine lv_iconst (v := 1) hx hb dJ6_bitCount_0f7a4_2 (by decide) ?_
  refine lv_iushr hx hb dJ6_bitCount_0f7a4_3 rfl ?_
  refine lv_ldcw hx hb hown (hts _ (List.mem_cons_of_mem _ kc_RJ6_265)) dJ6_bitCount_0f7a4_4 ?_
  refine lv_iand hx hb dJ6_bitCount_0f7a4_7 ?_
  refine lv_isub hx hb dJ6_bitCount_0f7a4_8 ?_
  refine lv_istore_n (lv' := [(0, .int (a1 - ((a1.toUInt32 >>> ((1 : Int32).toUInt32 &&& Int32.toUInt32 31)).toInt32 &&& 1431655765)))]) hx hb dJ6_bitCount_0f7a4_9 rfl hl (by decide) rfl (fun ls hl => ?_)
  refine lv_iload_n hx hb dJ6_bitCount_0f7a4_10 rfl (lv_at hl 0 rfl) ?_
  refine lv_ldcw hx hb hown (hts _ (List.mem_cons_of_mem _ kc_RJ6_266)) dJ6_bitCount_0f7a4_11 ?_
  refine lv_iand hx hb dJ6_bitCount_0f7a4_14 ?_
  refine lv_iload_n hx hb dJ6_bitCount_0f7a4_15 rfl (lv_at hl 0 rfl) ?_
  refine lv_iconst (v := 2) hx hb dJ6_bitCount_0f7a4_16 (by decide) ?_
  refine lv_iushr hx hb dJ6_bitCount_0f7a4_17 rfl ?_
  refine lv_ldcw hx hb hown (hts _ (List.mem_cons_of_mem _ kc_RJ6_266)) dJ6_bitCount_0f7a4_18 ?_
  refine lv_iand hx hb dJ6_bitCount_0f7a4_21 ?_
  refine lv_iadd hx hb dJ6_bitCount_0f7a4_22 ?_
  refine lv_istore_n (lv' := [(0, .int (((a1 - ((a1.toUInt32 >>> ((1 : Int32).toUInt32 &&& Int32.toUInt32 31)).toInt32 &&& 1431655765)) &&& 858993459) + (((a1 - ((a1.toUInt32 >>> ((1 : Int32).toUInt32 &&& Int32.toUInt32 31)).toInt32 &&& 1431655765)).toUInt32 >>> ((2 : Int32).toUInt32 &&& Int32.toUInt32 31)).toInt32 &&& 858993459)))]) hx hb dJ6_bitCount_0f7a4_23 rfl hl (by decide) rfl (fun ls hl => ?_)
  refine lv_iload_n hx hb dJ6_bitCount_0f7a4_24 rfl (lv_at hl 0 rfl) ?_
  refine lv_iload_n hx hb dJ6_bitCount_0f7a4_25 rfl (lv_at hl 0 rfl) ?_
  refine lv_iconst (v := 4) hx hb dJ6_bitCount_0f7a4_26 (by decide) ?_
  refine lv_iushr hx hb dJ6_bitCount_0f7a4_27 rfl ?_
  refine lv_iadd hx hb dJ6_bitCount_0f7a4_28 ?_
  refine lv_ldcw hx hb hown (hts _ (List.mem_cons_of_mem _ kc_RJ6_267)) dJ6_bitCount_0f7a4_29 ?_
  refine lv_iand hx hb dJ6_bitCount_0f7a4_32 ?_
  refine lv_istore_n (lv' := [(0, .int (((((a1 - ((a1.toUInt32 >>> ((1 : Int32).toUInt32 &&& Int32.toUInt32 31)).toInt32 &&& 1431655765)) &&& 858993459) + (((a1 - ((a1.toUInt32 >>> ((1 : Int32).toUInt32 &&& Int32.toUInt32 31)).toInt32 &&& 1431655765)).toUInt32 >>> ((2 : Int32).toUInt32 &&& Int32.toUInt32 31)).toInt32 &&& 858993459)) + ((((a1 - ((a1.toUInt32 >>> ((1 : Int32).toUInt32 &&& Int32.toUInt32 31)).toInt32 &&& 1431655765)) &&& 858993459) + (((a1 - ((a1.toUInt32 >>> ((1 : Int32).toUInt32 &&& Int32.toUInt32 31)).toInt32 &&& 1431655765)).toUInt32 >>> ((2 : Int32).toUInt32 &&& Int32.toUInt32 31)).toInt32 &&& 858993459)).toUInt32 >>> ((4 : Int32).toUInt32 &&& Int32.toUInt32 31)).toInt32) &&& 252645135))]) hx hb dJ6_bitCount_0f7a4_33 rfl hl (by decide) rfl (fun ls hl => ?_)
  refine lv_iload_n hx hb dJ6_bitCount_0f7a4_34 rfl (lv_at hl 0 rfl) ?_
  refine lv_iload_n hx hb dJ6_bitCount_0f7a4_35 rfl (lv_at hl 0 rfl) ?_
  refine lv_bipush (v := 8) hx hb dJ6_bitCount_0f7a4_36 (by decide) ?_
  refine lv_iushr hx hb dJ6_bitCount_0f7a4_38 rfl ?_
  refine lv_iadd hx hb dJ6_bitCount_0f7a4_39 ?_
  refine lv_istore_n (lv' := [(0, .int ((((((a1 - ((a1.toUInt32 >>> ((1 : Int32).toUInt32 &&& Int32.toUInt32 31)).toInt32 &&& 1431655765)) &&& 858993459) + (((a1 - ((a1.toUInt32 >>> ((1 : Int32).toUInt32 &&& Int32.toUInt32 31)).toInt32 &&& 1431655765)).toUInt32 >>> ((2 : Int32).toUInt32 &&& Int32.toUInt32 31)).toInt32 &&& 858993459)) + ((((a1 - ((a1.toUInt32 >>> ((1 : Int32).toUInt32 &&& Int32.toUInt32 31)).toInt32 &&& 1431655765)) &&& 858993459) + (((a1 - ((a1.toUInt32 >>> ((1 : Int32).toUInt32 &&& Int32.toUInt32 31)).toInt32 &&& 1431655765)).toUInt32 >>> ((2 : Int32).toUInt32 &&& Int32.toUInt32 31)).toInt32 &&& 858993459)).toUInt32 >>> ((4 : Int32).toUInt32 &&& Int32.toUInt32 31)).toInt32) &&& 252645135) + ((((((a1 - ((a1.toUInt32 >>> ((1 : Int32).toUInt32 &&& Int32.toUInt32 31)).toInt32 &&& 1431655765)) &&& 858993459) + (((a1 - ((a1.toUInt32 >>> ((1 : Int32).toUInt32 &&& Int32.toUInt32 31)).toInt32 &&& 1431655765)).toUInt32 >>> ((2 : Int32).toUInt32 &&& Int32.toUInt32 31)).toInt32 &&& 858993459)) + ((((a1 - ((a1.toUInt32 >>> ((1 : Int32).toUInt32 &&& Int32.toUInt32 31)).toInt32 &&& 1431655765)) &&& 858993459) + (((a1 - ((a1.toUInt32 >>> ((1 : Int32).toUInt32 &&& Int32.toUInt32 31)).toInt32 &&& 1431655765)).toUInt32 >>> ((2 : Int32).toUInt32 &&& Int32.toUInt32 31)).toInt32 &&& 858993459)).toUInt32 >>> ((4 : Int32).toUInt32 &&& Int32.toUInt32 31)).toInt32) &&& 252645135).toUInt32 >>> ((8 : Int32).toUInt32 &&& Int32.toUInt32 31)).toInt32))]) hx hb dJ6_bitCount_0f7a4_40 rfl hl (by decide) rfl (fun ls hl => ?_)
  refine lv_iload_n hx hb dJ6_bitCount_0f7a4_41 rfl (lv_at hl 0 rfl) ?_
  refine lv_iload_n hx hb dJ6_bitCount_0f7a4_42 rfl (lv_at hl 0 rfl) ?_
  refine lv_bipush (v := 16) hx hb dJ6_bitCount_0f7a4_43 (by decide) ?_
  refine lv_iushr hx hb dJ6_bitCount_0f7a4_45 rfl ?_
  refine lv_iadd hx hb dJ6_bitCount_0f7a4_46 ?_
  refine lv_istore_n (lv' := [(0, .int (((((((a1 - ((a1.toUInt32 >>> ((1 : Int32).toUInt32 &&& Int32.toUInt32 31)).toInt32 &&& 1431655765)) &&& 858993459) + (((a1 - ((a1.toUInt32 >>> ((1 : Int32).toUInt32 &&& Int32.toUInt32 31)).toInt32 &&& 1431655765)).toUInt32 >>> ((2 : Int32).toUInt32 &&& Int32.toUInt32 31)).toInt32 &&& 858993459)) + ((((a1 - ((a1.toUInt32 >>> ((1 : Int32).toUInt32 &&& Int32.toUInt32 31)).toInt32 &&& 1431655765)) &&& 858993459) + (((a1 - ((a1.toUInt32 >>> ((1 : Int32).toUInt32 &&& Int32.toUInt32 31)).toInt32 &&& 1431655765)).toUInt32 >>> ((2 : Int32).toUInt32 &&& Int32.toUInt32 31)).toInt32 &&& 858993459)).toUInt32 >>> ((4 : Int32).toUInt32 &&& Int32.toUInt32 31)).toInt32) &&& 252645135) + ((((((a1 - ((a1.toUInt32 >>> ((1 : Int32).toUInt32 &&& Int32.toUInt32 31)).toInt32 &&& 1431655765)) &&& 858993459) + (((a1 - ((a1.toUInt32 >>> ((1 : Int32).toUInt32 &&& Int32.toUInt32 31)).toInt32 &&& 1431655765)).toUInt32 >>> ((2 : Int32).toUInt32 &&& Int32.toUInt32 31)).toInt32 &&& 858993459)) + ((((a1 - ((a1.toUInt32 >>> ((1 : Int32).toUInt32 &&& Int32.toUInt32 31)).toInt32 &&& 1431655765)) &&& 858993459) + (((a1 - ((a1.toUInt32 >>> ((1 : Int32).toUInt32 &&& Int32.toUInt32 31)).toInt32 &&& 1431655765)).toUInt32 >>> ((2 : Int32).toUInt32 &&& Int32.toUInt32 31)).toInt32 &&& 858993459)).toUInt32 >>> ((4 : Int32).toUInt32 &&& Int32.toUInt32 31)).toInt32) &&& 252645135).toUInt32 >>> ((8 : Int32).toUInt32 &&& Int32.toUInt32 31)).toInt32) + (((((((a1 - ((a1.toUInt32 >>> ((1 : Int32).toUInt32 &&& Int32.toUInt32 31)).toInt32 &&& 1431655765)) &&& 858993459) + (((a1 - ((a1.toUInt32 >>> ((1 : Int32).toUInt32 &&& Int32.toUInt32 31)).toInt32 &&& 1431655765)).toUInt32 >>> ((2 : Int32).toUInt32 &&& Int32.toUInt32 31)).toInt32 &&& 858993459)) + ((((a1 - ((a1.toUInt32 >>> ((1 : Int32).toUInt32 &&& Int32.toUInt32 31)).toInt32 &&& 1431655765)) &&& 858993459) + (((a1 - ((a1.toUInt32 >>> ((1 : Int32).toUInt32 &&& Int32.toUInt32 31)).toInt32 &&& 1431655765)).toUInt32 >>> ((2 : Int32).toUInt32 &&& Int32.toUInt32 31)).toInt32 &&& 858993459)).toUInt32 >>> ((4 : Int32).toUInt32 &&& Int32.toUInt32 31)).toInt32) &&& 252645135) + ((((((a1 - ((a1.toUInt32 >>> ((1 : Int32).toUInt32 &&& Int32.toUInt32 31)).toInt32 &&& 1431655765)) &&& 858993459) + (((a1 - ((a1.toUInt32 >>> ((1 : Int32).toUInt32 &&& Int32.toUInt32 31)).toInt32 &&& 1431655765)).toUInt32 >>> ((2 : Int32).toUInt32 &&& Int32.toUInt32 31)).toInt32 &&& 858993459)) + ((((a1 - ((a1.toUInt32 >>> ((1 : Int32).toUInt32 &&& Int32.toUInt32 31)).toInt32 &&& 1431655765)) &&& 858993459) + (((a1 - ((a1.toUInt32 >>> ((1 : Int32).toUInt32 &&& Int32.toUInt32 31)).toInt32 &&& 1431655765)).toUInt32 >>> ((2 : Int32).toUInt32 &&& Int32.toUInt32 31)).toInt32 &&& 858993459)).toUInt32 >>> ((4 : Int32).toUInt32 &&& Int32.toUInt32 31)).toInt32) &&& 252645135).toUInt32 >>> ((8 : Int32).toUInt32 &&& Int32.toUInt32 31)).toInt32).toUInt32 >>> ((16 : Int32).toUInt32 &&& Int32.toUInt32 31)).toInt32))]) hx hb dJ6_bitCount_0f7a4_47 rfl hl (by decide) rfl (fun ls hl => ?_)
  refine lv_iload_n hx hb dJ6_bitCount_0f7a4_48 rfl (lv_at hl 0 rfl) ?_
  refine lv_bipush (v := 63) hx hb dJ6_bitCount_0f7a4_49 (by decide) ?_
  refine lv_iand hx hb dJ6_bitCount_0f7a4_51 ?_
  obtain rfl := so1 h
  exact retI C hP hD hS dJ6_bitCount_0f7a4_52

def fX2_takeReading (N : Nat) (σ : St) (a1 : Int32) (a2 : Int32) : Option (Int32 × St) :=
  bd1 (fX2_isTest N σ a1) (fun r2 => (if r2 = 0 then some ((-1), σ) else bd1 (fX2_isReading N a2) (fun r5 => (if r5 = 0 then some ((-1), σ) else gi ((a1 * 4) + a2) 48 ((if ((σ.1 14) &&& (σ.2 13 ((a1 * 4) + a2).toNatClampNeg)) = 0 then some ((-3), σ) else bd1 (fJ6_bitCount_0f7a4 N ((σ.1 14) &&& (σ.2 13 ((a1 * 4) + a2).toNatClampNeg))) (fun r10 => some (r10, (s1 σ 14 ((σ.1 14) &&& (σ.2 13 ((a1 * 4) + a2).toNatClampNeg)))))))))))
set_option maxHeartbeats 4000000 in
set_option maxRecDepth 100000 in
theorem ctX2_takeReading {G : GP} {l : Launch} {q : Nat → Nat} (N : Nat) (σ σ' : St) (a1 : Int32) (a2 : Int32) (r : Int32) (h : fX2_takeReading N σ a1 a2 = some (r, σ')) : CI G l yX2_takeReading cX2_takeReading 4 (some .int) 2 [.ref (q 5), .int a1, .int a2] (xW G q σ) (xW G q (σ')) r := by
  refine enterI (own := RX2) (by decide) rfl (Nat.le_of_ble_eq_true rfl) ?_
  intro p e s m args below meth c A C hP hD hS ls hl
  obtain ⟨hx, hb, hml, hown, hts, hK, hZ, hA, hlk, hr⟩ := id C
  have hl : lv_has ls 4 [(0, .ref (q 5)), (1, .int a1), (2, .int a2)] := hl
  rw [fX2_takeReading.eq_1] at h
  refine lv_aload_n hx hb dX2_takeReading_0 rfl (lv_at hl 0 rfl) ?_
  refine lv_iload_n hx hb dX2_takeReading_1 rfl (lv_at hl 1 rfl) ?_
  obtain ⟨r2, h1, h⟩ := bd1_some h
  refine goI C hD hS (runV (As := [.int a1]) (rest := []) (w := (xW G q σ)) C lc_RX2_38 (ctX2_isTest N σ a1 r2 h1 _) hP hD hS (va_recv C.2.2.2.2.2.1 hP (ci := 2) (q0 := 5) rfl rfl) hl.1 rfl rfl (by decide) (by decide) (Nat.le_of_ble_eq_true rfl) dX2_takeReading_2) (fun H locs hP hD hS => ?_)
  refine lv_if_eq (tgt := 15) hx hb dX2_takeReading_5 (by decide) (fun c3 => ?_) (fun c3 => ?_)
  · replace h := ifp c3 h
    refine lv_iconst (v := (-1)) hx hb dX2_takeReading_15 (by decide) ?_
    obtain ⟨rfl, rfl⟩ := so2 h
    exact retI C hP hD hS dX2_takeReading_16
  · replace h := ifn c3 h
    refine lv_iload_n hx hb dX2_takeReading_8 rfl (lv_at hl 2 rfl) ?_
    obtain ⟨r5, h4, h⟩ := bd1_some h
    refine goI C hD hS (runS (As := [.int a2]) (rest := []) (w := (xW G q σ)) C lc_RX2_42 (ctX2_isReading (w := (xW G q σ)) N a2 r5 h4 _) hP hD hS hl.1 rfl rfl (by decide) (by decide) (Nat.le_of_ble_eq_true rfl) dX2_takeReading_9) (fun H locs hP hD hS => ?_)
    refine lv_if_ne (tgt := 17) hx hb dX2_takeReading_12 (by decide) (fun c6 => ?_) (fun c6 => ?_)
    · replace h := ifn c6 h
      refine lv_aload_n hx hb dX2_takeReading_17 rfl (lv_at hl 0 rfl) ?_
      refine gf_RX2_31 C hP dX2_takeReading_18 ?_
      refine lv_aload_n hx hb dX2_takeReading_21 rfl (lv_at hl 0 rfl) ?_
      refine gf_RX2_18 C hP dX2_takeReading_22 ?_
      refine lv_iload_n hx hb dX2_takeReading_25 rfl (lv_at hl 1 rfl) ?_
      refine lv_iconst (v := 4) hx hb dX2_takeReading_26 (by decide) ?_
      refine lv_imul hx hb dX2_takeReading_27 ?_
      refine lv_iload_n hx hb dX2_takeReading_28 rfl (lv_at hl 2 rfl) ?_
      refine lv_iadd hx hb dX2_takeReading_29 ?_
      obtain ⟨i7, h⟩ := gi_some h
      refine ldX_13 C hP i7 dX2_takeReading_30 ?_
      refine lv_iand hx hb dX2_takeReading_31 ?_
      refine lv_istore_n (lv' := [(3, .int ((σ.1 14) &&& (σ.2 13 ((a1 * 4) + a2).toNatClampNeg))), (0, .ref (q 5)), (1, .int a1), (2, .int a2)]) hx hb dX2_takeReading_32 rfl hl (by decide) rfl (fun ls hl => ?_)
      refine lv_iload_n hx hb dX2_takeReading_33 rfl (lv_at hl 0 rfl) ?_
      refine lv_if_ne (tgt := 40) hx hb dX2_takeReading_34 (by decide) (fun c8 => ?_) (fun c8 => ?_)
      · replace h := ifn c8 h
        refine lv_aload_n hx hb dX2_takeReading_40 rfl (lv_at hl 1 rfl) ?_
        refine lv_iload_n hx hb dX2_takeReading_41 rfl (lv_at hl 0 rfl) ?_
        refine pf_RX2_31 C hP hD hS dX2_takeReading_42 (fun H locs hP hD hS => ?_)
        refine lv_aload_n hx hb dX2_takeReading_45 rfl (lv_at hl 1 rfl) ?_
        refine gf_RX2_31 C hP dX2_takeReading_46 ?_
        refine lv_cv (y := ((σ.1 14) &&& (σ.2 13 ((a1 * 4) + a2).toNatClampNeg))) rfl ?_
        obtain ⟨r10, h9, h⟩ := bd1_some h
        refine goI C hD hS (runS (As := [.int ((σ.1 14) &&& (σ.2 13 ((a1 * 4) + a2).toNatClampNeg))]) (rest := []) (w := (xW G q (s1 σ 14 ((σ.1 14) &&& (σ.2 13 ((a1 * 4) + a2).toNatClampNeg))))) C lc_RX2_45 (ctJ6_bitCount_0f7a4 (w := (xW G q (s1 σ 14 ((σ.1 14) &&& (σ.2 13 ((a1 * 4) + a2).toNatClampNeg))))) N ((σ.1 14) &&& (σ.2 13 ((a1 * 4) + a2).toNatClampNeg)) r10 h9 _) hP hD hS hl.1 rfl rfl (by decide) (by decide) (Nat.le_of_ble_eq_true rfl) dX2_takeReading_49) (fun H locs hP hD hS => ?_)
        obtain ⟨rfl, rfl⟩ := so2 h
        exact retI C hP hD hS dX2_takeReading_52
      · replace h := ifp c8 h
        refine lv_bipush (v := (-3)) hx hb dX2_takeReading_37 (by decide) ?_
        obtain ⟨rfl, rfl⟩ := so2 h
        exact retI C hP hD hS dX2_takeReading_39
    · replace h := ifp c6 h
      refine lv_iconst (v := (-1)) hx hb dX2_takeReading_15 (by decide) ?_
      obtain ⟨rfl, rfl⟩ := so2 h
      exact retI C hP hD hS dX2_takeReading_16

def fX2_startAgain (N : Nat) (σ : St) : Option (Int32 × St) :=
  bd1 (fJ6_bitCount_0f7a4 N (σ.1 14)) (fun r2 => some (r2, (s1 σ 14 ((1 <<< ((σ.1 12) &&& 31)) - 1))))
set_option maxHeartbeats 4000000 in
set_option maxRecDepth 100000 in
theorem ctX2_startAgain {G : GP} {l : Launch} {q : Nat → Nat} (N : Nat) (σ σ' : St) (r : Int32) (h : fX2_startAgain N σ = some (r, σ')) : CI G l yX2_startAgain cX2_startAgain 2 (some .int) 1 [.ref (q 5)] (xW G q σ) (xW G q (σ')) r := by
  refine enterI (own := RX2) (by decide) rfl (Nat.le_of_ble_eq_true rfl) ?_
  intro p e s m args below meth c A C hP hD hS ls hl
  obtain ⟨hx, hb, hml, hown, hts, hK, hZ, hA, hlk, hr⟩ := id C
  have hl : lv_has ls 2 [(0, .ref (q 5))] := hl
  rw [fX2_startAgain.eq_1] at h
  refine lv_aload_n hx hb dX2_startAgain_0 rfl (lv_at hl 0 rfl) ?_
  refine gf_RX2_31 C hP dX2_startAgain_1 ?_
  obtain ⟨r2, h1, h⟩ := bd1_some h
  refine goI C hD hS (runS (As := [.int (σ.1 14)]) (rest := []) (w := (xW G q σ)) C lc_RX2_45 (ctJ6_bitCount_0f7a4 (w := (xW G q σ)) N (σ.1 14) r2 h1 _) hP hD hS hl.1 rfl rfl (by decide) (by decide) (Nat.le_of_ble_eq_true rfl) dX2_startAgain_4) (fun H locs hP hD hS => ?_)
  refine lv_istore_n (lv' := [(1, .int r2), (0, .ref (q 5))]) hx hb dX2_startAgain_7 rfl hl (by decide) rfl (fun ls hl => ?_)
  refine lv_aload_n hx hb dX2_startAgain_8 rfl (lv_at hl 1 rfl) ?_
  refine lv_iconst (v := 1) hx hb dX2_startAgain_9 (by decide) ?_
  refine lv_aload_n hx hb dX2_startAgain_10 rfl (lv_at hl 1 rfl) ?_
  refine gf_RX2_24 C hP dX2_startAgain_11 ?_
  refine lv_ishl hx hb dX2_startAgain_14 ?_
  refine lv_iconst (v := 1) hx hb dX2_startAgain_15 (by decide) ?_
  refine lv_isub hx hb dX2_startAgain_16 ?_
  refine pf_RX2_31 C hP hD hS dX2_startAgain_17 (fun H locs hP hD hS => ?_)
  refine lv_iload_n hx hb dX2_startAgain_20 rfl (lv_at hl 0 rfl) ?_
  obtain ⟨rfl, rfl⟩ := so2 h
  exact retI C hP hD hS dX2_startAgain_21

def fX2_likelihoodOf_L4 (N : Nat) (σ : St) (v1 : Int32) : Nat → Int32 → Int32 → Option Int32
  | 0, _, _ => none
  | n + 1, v2, v3 => (if (σ.1 12) ≤ v3 then some v2 else (if ((v1 >>> (v3 &&& 31)) &&& 1) = 1 then gi v3 12 (fX2_likelihoodOf_L4 N σ v1 n (v2 + (σ.2 11 v3.toNatClampNeg)) (v3 + 1)) else fX2_likelihoodOf_L4 N σ v1 n v2 (v3 + 1)))
set_option maxHeartbeats 4000000 in
set_option maxRecDepth 100000 in
theorem wX2_likelihoodOf_L4 {q : Nat → Nat} (C : Cx G p s m args meth c cX2_likelihoodOf 4 (some .int) (Cond.code yX2_likelihoodOf cX2_likelihoodOf 4 (some .int)) RX2 A) (N : Nat) (σ : St) (v1 : Int32) (r : Int32) : ∀ (n : Nat) (v2 : Int32) (v3 : Int32) (H : Heap) (locs : List Loc) (ls : Array Slot), fX2_likelihoodOf_L4 N σ v1 n v2 v3 = some r → va_P G.1 vwCl (xW G q σ) H → va_D A (xW G q σ) → va_S A s.heap H locs → lv_has ls 4 [(0, .ref (q 5)), (1, .int v1), (2, .int v2), (3, .int v3)] → W p l e (rmD 0) s m args below meth c H locs 0 0 (QI G below args s A (xW G q σ) r) (F0 m 4 ls []) := by
  obtain ⟨hx, hb, hml, hown, hts, hK, hZ, hA, hlk, hr⟩ := id C
  intro n
  induction n with
  | zero =>
    intro v2 v3 H locs ls h
    cases h
  | succ n ih =>
    intro v2 v3 H locs ls h hP hD hS hl
    rw [fX2_likelihoodOf_L4.eq_2] at h
    refine lv_iload_n hx hb dX2_likelihoodOf_4 rfl (lv_at hl 3 rfl) ?_
    refine lv_aload_n hx hb dX2_likelihoodOf_5 rfl (lv_at hl 0 rfl) ?_
    refine gf_RX2_24 C hP dX2_likelihoodOf_6 ?_
    refine lv_icmp_ge (tgt := 36) hx hb dX2_likelihoodOf_9 (by decide) (fun c1 => ?_) (fun c1 => ?_)
    · replace h := ifp c1 h
      refine lv_iload_n hx hb dX2_likelihoodOf_36 rfl (lv_at hl 2 rfl) ?_
      obtain rfl := so1 h
      exact retI C hP hD hS dX2_likelihoodOf_37
    · replace h := ifn c1 h
      refine lv_iload_n hx hb dX2_likelihoodOf_12 rfl (lv_at hl 1 rfl) ?_
      refine lv_iload_n hx hb dX2_likelihoodOf_13 rfl (lv_at hl 3 rfl) ?_
      refine lv_ishr hx hb dX2_likelihoodOf_14 ?_
      refine lv_iconst (v := 1) hx hb dX2_likelihoodOf_15 (by decide) ?_
      refine lv_iand hx hb dX2_likelihoodOf_16 ?_
      refine lv_iconst (v := 1) hx hb dX2_likelihoodOf_17 (by decide) ?_
      refine lv_icmp_ne (tgt := 30) hx hb dX2_likelihoodOf_18 (by decide) (fun c2 => ?_) (fun c2 => ?_)
      · replace h := ifn c2 h
        refine lv_iinc (v := (v3 + 1)) (lv' := [(3, .int (v3 + 1)), (0, .ref (q 5)), (1, .int v1), (2, .int v2)]) hx hb dX2_likelihoodOf_30 hl (k := 3) rfl (by first | rfl | decide) (by decide) rfl (fun ls hl => ?_)
        refine lv_goto (tgt := 4) hx hb dX2_likelihoodOf_33 (by decide) ?_
        exact ih v2 (v3 + 1) _ _ _ h hP hD hS (lv_sub hl [1, 2, 3, 0] rfl)
      · replace h := ifp c2 h
        refine lv_iload_n hx hb dX2_likelihoodOf_21 rfl (lv_at hl 2 rfl) ?_
        refine lv_aload_n hx hb dX2_likelihoodOf_22 rfl (lv_at hl 0 rfl) ?_
        refine gf_RX2_9 C hP dX2_likelihoodOf_23 ?_
        refine lv_iload_n hx hb dX2_likelihoodOf_26 rfl (lv_at hl 3 rfl) ?_
        obtain ⟨i3, h⟩ := gi_some h
        refine ldX_11 C hP i3 dX2_likelihoodOf_27 ?_
        refine lv_iadd hx hb dX2_likelihoodOf_28 ?_
        refine lv_istore_n (lv' := [(2, .int (v2 + (σ.2 11 v3.toNatClampNeg))), (0, .ref (q 5)), (1, .int v1), (3, .int v3)]) hx hb dX2_likelihoodOf_29 rfl hl (by decide) rfl (fun ls hl => ?_)
        refine lv_iinc (v := (v3 + 1)) (lv' := [(3, .int (v3 + 1)), (2, .int (v2 + (σ.2 11 v3.toNatClampNeg))), (0, .ref (q 5)), (1, .int v1)]) hx hb dX2_likelihoodOf_30 hl (k := 3) rfl (by first | rfl | decide) (by decide) rfl (fun ls hl => ?_)
        refine lv_goto (tgt := 4) hx hb dX2_likelihoodOf_33 (by decide) ?_
        exact ih (v2 + (σ.2 11 v3.toNatClampNeg)) (v3 + 1) _ _ _ h hP hD hS (lv_sub hl [2, 3, 1, 0] rfl)

def fX2_likelihoodOf (N : Nat) (σ : St) (a1 : Int32) : Option Int32 :=
  fX2_likelihoodOf_L4 N σ a1 N 0 0
set_option maxHeartbeats 4000000 in
set_option maxRecDepth 100000 in
theorem ctX2_likelihoodOf {G : GP} {l : Launch} {q : Nat → Nat} (N : Nat) (σ : St) (a1 : Int32) (r : Int32) (h : fX2_likelihoodOf N σ a1 = some r) : CI G l yX2_likelihoodOf cX2_likelihoodOf 4 (some .int) 0 [.ref (q 5), .int a1] (xW G q σ) (xW G q σ) r := by
  refine enterI (own := RX2) (by decide) rfl (Nat.le_of_ble_eq_true rfl) ?_
  intro p e s m args below meth c A C hP hD hS ls hl
  obtain ⟨hx, hb, hml, hown, hts, hK, hZ, hA, hlk, hr⟩ := id C
  have hl : lv_has ls 4 [(0, .ref (q 5)), (1, .int a1)] := hl
  rw [fX2_likelihoodOf.eq_1] at h
  refine lv_iconst (v := 0) hx hb dX2_likelihoodOf_0 (by decide) ?_
  refine lv_istore_n (lv' := [(2, .int 0), (0, .ref (q 5)), (1, .int a1)]) hx hb dX2_likelihoodOf_1 rfl hl (by decide) rfl (fun ls hl => ?_)
  refine lv_iconst (v := 0) hx hb dX2_likelihoodOf_2 (by decide) ?_
  refine lv_istore_n (lv' := [(3, .int 0), (2, .int 0), (0, .ref (q 5)), (1, .int a1)]) hx hb dX2_likelihoodOf_3 rfl hl (by decide) rfl (fun ls hl => ?_)
  exact wX2_likelihoodOf_L4 C N σ a1 r N 0 0 _ _ _ h hP hD hS (lv_sub hl [2, 3, 1, 0] rfl)

def fX2_greatestLikelihood_L4 (N : Nat) (σ : St) (v1 : Int32) : Nat → Int32 → Int32 → Option Int32
  | 0, _, _ => none
  | n + 1, v2, v3 => (if 4 ≤ v3 then some v2 else gi ((v1 * 4) + v3) 48 (bd1 (fX2_likelihoodOf N σ ((σ.2 13 ((v1 * 4) + v3).toNatClampNeg) &&& (σ.1 14))) (fun r4 => fX2_greatestLikelihood_L4 N σ v1 n (jmax v2 r4) (v3 + 1))))
set_option maxHeartbeats 4000000 in
set_option maxRecDepth 100000 in
theorem wX2_greatestLikelihood_L4 {q : Nat → Nat} (C : Cx G p s m args meth c cX2_greatestLikelihood 4 (some .int) (Cond.code yX2_greatestLikelihood cX2_greatestLikelihood 4 (some .int)) RX2 A) (N : Nat) (σ : St) (v1 : Int32) (r : Int32) : ∀ (n : Nat) (v2 : Int32) (v3 : Int32) (H : Heap) (locs : List Loc) (ls : Array Slot), fX2_greatestLikelihood_L4 N σ v1 n v2 v3 = some r → va_P G.1 vwCl (xW G q σ) H → va_D A (xW G q σ) → va_S A s.heap H locs → lv_has ls 4 [(0, .ref (q 5)), (1, .int v1), (2, .int v2), (3, .int v3)] → W p l e (rmD 1) s m args below meth c H locs 0 0 (QI G below args s A (xW G q σ) r) (F0 m 4 ls []) := by
  obtain ⟨hx, hb, hml, hown, hts, hK, hZ, hA, hlk, hr⟩ := id C
  intro n
  induction n with
  | zero =>
    intro v2 v3 H locs ls h
    cases h
  | succ n ih =>
    intro v2 v3 H locs ls h hP hD hS hl
    rw [fX2_greatestLikelihood_L4.eq_2] at h
    refine lv_iload_n hx hb dX2_greatestLikelihood_4 rfl (lv_at hl 3 rfl) ?_
    refine lv_iconst (v := 4) hx hb dX2_greatestLikelihood_5 (by decide) ?_
    refine lv_icmp_ge (tgt := 39) hx hb dX2_greatestLikelihood_6 (by decide) (fun c1 => ?_) (fun c1 => ?_)
    · replace h := ifp c1 h
      refine lv_iload_n hx hb dX2_greatestLikelihood_39 rfl (lv_at hl 2 rfl) ?_
      obtain rfl := so1 h
      exact retI C hP hD hS dX2_greatestLikelihood_40
    · replace h := ifn c1 h
      refine lv_iload_n hx hb dX2_greatestLikelihood_9 rfl (lv_at hl 2 rfl) ?_
      refine lv_aload_n hx hb dX2_greatestLikelihood_10 rfl (lv_at hl 0 rfl) ?_
      refine lv_aload_n hx hb dX2_greatestLikelihood_11 rfl (lv_at hl 0 rfl) ?_
      refine gf_RX2_18 C hP dX2_greatestLikelihood_12 ?_
      refine lv_iload_n hx hb dX2_greatestLikelihood_15 rfl (lv_at hl 1 rfl) ?_
      refine lv_iconst (v := 4) hx hb dX2_greatestLikelihood_16 (by decide) ?_
      refine lv_imul hx hb dX2_greatestLikelihood_17 ?_
      refine lv_iload_n hx hb dX2_greatestLikelihood_18 rfl (lv_at hl 3 rfl) ?_
      refine lv_iadd hx hb dX2_greatestLikelihood_19 ?_
      obtain ⟨i2, h⟩ := gi_some h
      refine ldX_13 C hP i2 dX2_greatestLikelihood_20 ?_
      refine lv_aload_n hx hb dX2_greatestLikelihood_21 rfl (lv_at hl 0 rfl) ?_
      refine gf_RX2_31 C hP dX2_greatestLikelihood_22 ?_
      refine lv_iand hx hb dX2_greatestLikelihood_25 ?_
      obtain ⟨r4, h3, h⟩ := bd1_some h
      refine goI C hD hS (runV (As := [.int ((σ.2 13 ((v1 * 4) + v3).toNatClampNeg) &&& (σ.1 14))]) (rest := [.int v2]) (w := (xW G q σ)) C lc_RX2_62 (ctX2_likelihoodOf N σ ((σ.2 13 ((v1 * 4) + v3).toNatClampNeg) &&& (σ.1 14)) r4 h3 _) hP hD hS (va_recv C.2.2.2.2.2.1 hP (ci := 2) (q0 := 5) rfl rfl) hl.1 rfl rfl (by decide) (by decide) (Nat.le_of_ble_eq_true rfl) dX2_greatestLikelihood_26) (fun H locs hP hD hS => ?_)
      refine rmax C lc_RX2_65 hl.1 (Nat.le_of_ble_eq_true rfl) dX2_greatestLikelihood_29 ?_
      refine lv_istore_n (lv' := [(2, .int (jmax v2 r4)), (0, .ref (q 5)), (1, .int v1), (3, .int v3)]) hx hb dX2_greatestLikelihood_32 rfl hl (by decide) rfl (fun ls hl => ?_)
      refine lv_iinc (v := (v3 + 1)) (lv' := [(3, .int (v3 + 1)), (2, .int (jmax v2 r4)), (0, .ref (q 5)), (1, .int v1)]) hx hb dX2_greatestLikelihood_33 hl (k := 3) rfl (by first | rfl | decide) (by decide) rfl (fun ls hl => ?_)
      refine lv_goto (tgt := 4) hx hb dX2_greatestLikelihood_36 (by decide) ?_
      exact ih (jmax v2 r4) (v3 + 1) _ _ _ h hP hD hS (lv_sub hl [2, 3, 1, 0] rfl)

def fX2_greatestLikelihood (N : Nat) (σ : St) (a1 : Int32) : Option Int32 :=
  fX2_greatestLikelihood_L4 N σ a1 N 0 0
set_option maxHeartbeats 4000000 in
set_option maxRecDepth 100000 in
theorem ctX2_greatestLikelihood {G : GP} {l : Launch} {q : Nat → Nat} (N : Nat) (σ : St) (a1 : Int32) (r : Int32) (h : fX2_greatestLikelihood N σ a1 = some r) : CI G l yX2_greatestLikelihood cX2_greatestLikelihood 4 (some .int) 1 [.ref (q 5), .int a1] (xW G q σ) (xW G q σ) r := by
  refine enterI (own := RX2) (by decide) rfl (Nat.le_of_ble_eq_true rfl) ?_
  intro p e s m args below meth c A C hP hD hS ls hl
  obtain ⟨hx, hb, hml, hown, hts, hK, hZ, hA, hlk, hr⟩ := id C
  have hl : lv_has ls 4 [(0, .ref (q 5)), (1, .int a1)] := hl
  rw [fX2_greatestLikelihood.eq_1] at h
  refine lv_iconst (v := 0) hx hb dX2_greatestLikelihood_0 (by decide) ?_
  refine lv_istore_n (lv' := [(2, .int 0), (0, .ref (q 5)), (1, .int a1)]) hx hb dX2_greatestLikelihood_1 rfl hl (by decide) rfl (fun ls hl => ?_)
  refine lv_iconst (v := 0) hx hb dX2_greatestLikelihood_2 (by decide) ?_
  refine lv_istore_n (lv' := [(3, .int 0), (2, .int 0), (0, .ref (q 5)), (1, .int a1)]) hx hb dX2_greatestLikelihood_3 rfl hl (by decide) rfl (fun ls hl => ?_)
  exact wX2_greatestLikelihood_L4 C N σ a1 r N 0 0 _ _ _ h hP hD hS (lv_sub hl [2, 3, 1, 0] rfl)

def fX2_partsSet_L2 (N : Nat) (σ : St) (v1 : Int32) (v2 : Int32) : Nat → Int32 → Option Int32
  | 0, _ => none
  | n + 1, v3 => (if 4 ≤ v3 then some 1 else gi ((v1 * 4) + v3) 48 ((if ((σ.2 13 ((v1 * 4) + v3).toNatClampNeg) &&& v2) = v2 then some 0 else fX2_partsSet_L2 N σ v1 v2 n (v3 + 1))))
set_option maxHeartbeats 4000000 in
set_option maxRecDepth 100000 in
theorem wX2_partsSet_L2 {q : Nat → Nat} (C : Cx G p s m args meth c cX2_partsSet 4 (some .boolean) (Cond.code yX2_partsSet cX2_partsSet 4 (some .boolean)) RX2 A) (N : Nat) (σ : St) (v1 : Int32) (v2 : Int32) (r : Int32) : ∀ (n : Nat) (v3 : Int32) (H : Heap) (locs : List Loc) (ls : Array Slot), fX2_partsSet_L2 N σ v1 v2 n v3 = some r → va_P G.1 vwCl (xW G q σ) H → va_D A (xW G q σ) → va_S A s.heap H locs → lv_has ls 4 [(0, .ref (q 5)), (1, .int v1), (2, .int v2), (3, .int v3)] → W p l e (rmD 0) s m args below meth c H locs 0 0 (QI G below args s A (xW G q σ) r) (F0 m 2 ls []) := by
  obtain ⟨hx, hb, hml, hown, hts, hK, hZ, hA, hlk, hr⟩ := id C
  intro n
  induction n with
  | zero =>
    intro v3 H locs ls h
    cases h
  | succ n ih =>
    intro v3 H locs ls h hP hD hS hl
    rw [fX2_partsSet_L2.eq_2] at h
    refine lv_iload_n hx hb dX2_partsSet_2 rfl (lv_at hl 3 rfl) ?_
    refine lv_iconst (v := 4) hx hb dX2_partsSet_3 (by decide) ?_
    refine lv_icmp_ge (tgt := 31) hx hb dX2_partsSet_4 (by decide) (fun c1 => ?_) (fun c1 => ?_)
    · replace h := ifp c1 h
      refine lv_iconst (v := 1) hx hb dX2_partsSet_31 (by decide) ?_
      obtain rfl := so1 h
      exact retZ C hP hD hS (by decide) dX2_partsSet_32
    · replace h := ifn c1 h
      refine lv_aload_n hx hb dX2_partsSet_7 rfl (lv_at hl 0 rfl) ?_
      refine gf_RX2_18 C hP dX2_partsSet_8 ?_
      refine lv_iload_n hx hb dX2_partsSet_11 rfl (lv_at hl 1 rfl) ?_
      refine lv_iconst (v := 4) hx hb dX2_partsSet_12 (by decide) ?_
      refine lv_imul hx hb dX2_partsSet_13 ?_
      refine lv_iload_n hx hb dX2_partsSet_14 rfl (lv_at hl 3 rfl) ?_
      refine lv_iadd hx hb dX2_partsSet_15 ?_
      obtain ⟨i2, h⟩ := gi_some h
      refine ldX_13 C hP i2 dX2_partsSet_16 ?_
      refine lv_iload_n hx hb dX2_partsSet_17 rfl (lv_at hl 2 rfl) ?_
      refine lv_iand hx hb dX2_partsSet_18 ?_
      refine lv_iload_n hx hb dX2_partsSet_19 rfl (lv_at hl 2 rfl) ?_
      refine lv_icmp_ne (tgt := 25) hx hb dX2_partsSet_20 (by decide) (fun c3 => ?_) (fun c3 => ?_)
      · replace h := ifn c3 h
        refine lv_iinc (v := (v3 + 1)) (lv' := [(3, .int (v3 + 1)), (0, .ref (q 5)), (1, .int v1), (2, .int v2)]) hx hb dX2_partsSet_25 hl (k := 3) rfl (by first | rfl | decide) (by decide) rfl (fun ls hl => ?_)
        refine lv_goto (tgt := 2) hx hb dX2_partsSet_28 (by decide) ?_
        exact ih (v3 + 1) _ _ _ h hP hD hS (lv_sub hl [1, 2, 3, 0] rfl)
      · replace h := ifp c3 h
        refine lv_iconst (v := 0) hx hb dX2_partsSet_23 (by decide) ?_
        obtain rfl := so1 h
        exact retZ C hP hD hS (by decide) dX2_partsSet_24

def fX2_partsSet (N : Nat) (σ : St) (a1 : Int32) (a2 : Int32) : Option Int32 :=
  fX2_partsSet_L2 N σ a1 a2 N 0
set_option maxHeartbeats 4000000 in
set_option maxRecDepth 100000 in
theorem ctX2_partsSet {G : GP} {l : Launch} {q : Nat → Nat} (N : Nat) (σ : St) (a1 : Int32) (a2 : Int32) (r : Int32) (h : fX2_partsSet N σ a1 a2 = some r) : CI G l yX2_partsSet cX2_partsSet 4 (some .boolean) 0 [.ref (q 5), .int a1, .int a2] (xW G q σ) (xW G q σ) r := by
  refine enterI (own := RX2) (by decide) rfl (Nat.le_of_ble_eq_true rfl) ?_
  intro p e s m args below meth c A C hP hD hS ls hl
  obtain ⟨hx, hb, hml, hown, hts, hK, hZ, hA, hlk, hr⟩ := id C
  have hl : lv_has ls 4 [(0, .ref (q 5)), (1, .int a1), (2, .int a2)] := hl
  rw [fX2_partsSet.eq_1] at h
  refine lv_iconst (v := 0) hx hb dX2_partsSet_0 (by decide) ?_
  refine lv_istore_n (lv' := [(3, .int 0), (0, .ref (q 5)), (1, .int a1), (2, .int a2)]) hx hb dX2_partsSet_1 rfl hl (by decide) rfl (fun ls hl => ?_)
  exact wX2_partsSet_L2 C N σ a1 a2 r N 0 _ _ _ h hP hD hS (lv_sub hl [1, 2, 3, 0] rfl)

def fX2_nextBest_L10 (N : Nat) (σ : St) : Nat → Int32 → Int32 → Int32 → Int32 → Option Int32
  | 0, _, _, _, _ => none
  | n + 1, v1, v2, v3, v4 => (if (σ.1 13) ≤ v4 then some v1 else bd1 (fX2_partsSet N σ v4 (σ.1 14)) (fun r3 => (if r3 = 0 then fX2_nextBest_L10 N σ n v1 v2 v3 (v4 + 1) else bd1 (fX2_greatestLikelihood N σ v4) (fun r6 => (if v1 = (-4) then gi v4 12 (fX2_nextBest_L10 N σ n v4 r6 (σ.2 12 v4.toNatClampNeg) (v4 + 1)) else (if r6 < v2 then gi v4 12 (fX2_nextBest_L10 N σ n v4 r6 (σ.2 12 v4.toNatClampNeg) (v4 + 1)) else (if r6 = v2 then gi v4 12 ((if v3 ≤ (σ.2 12 v4.toNatClampNeg) then fX2_nextBest_L10 N σ n v1 v2 v3 (v4 + 1) else gi v4 12 (fX2_nextBest_L10 N σ n v4 r6 (σ.2 12 v4.toNatClampNeg) (v4 + 1)))) else fX2_nextBest_L10 N σ n v1 v2 v3 (v4 + 1))))))))
set_option maxHeartbeats 4000000 in
set_option maxRecDepth 100000 in
theorem wX2_nextBest_L10 {q : Nat → Nat} (C : Cx G p s m args meth c cX2_nextBest 6 (some .int) (Cond.code yX2_nextBest cX2_nextBest 6 (some .int)) RX2 A) (N : Nat) (σ : St) (r : Int32) : ∀ (n : Nat) (v1 : Int32) (v2 : Int32) (v3 : Int32) (v4 : Int32) (H : Heap) (locs : List Loc) (ls : Array Slot), fX2_nextBest_L10 N σ n v1 v2 v3 v4 = some r → va_P G.1 vwCl (xW G q σ) H → va_D A (xW G q σ) → va_S A s.heap H locs → lv_has ls 6 [(0, .ref (q 5)), (1, .int v1), (2, .int v2), (3, .int v3), (4, .int v4)] → W p l e (rmD 2) s m args below meth c H locs 0 0 (QI G below args s A (xW G q σ) r) (F0 m 10 ls []) := by
  obtain ⟨hx, hb, hml, hown, hts, hK, hZ, hA, hlk, hr⟩ := id C
  intro n
  induction n with
  | zero =>
    intro v1 v2 v3 v4 H locs ls h
    cases h
  | succ n ih =>
    intro v1 v2 v3 v4 H locs ls h hP hD hS hl
    rw [fX2_nextBest_L10.eq_2] at h
    refine lv_iload hx hb dX2_nextBest_10 (lv_at hl 4 rfl) ?_
    refine lv_aload_n hx hb dX2_nextBest_12 rfl (lv_at hl 0 rfl) ?_
    refine gf_RX2_28 C hP dX2_nextBest_13 ?_
    refine lv_icmp_ge (tgt := 92) hx hb dX2_nextBest_16 (by decide) (fun c1 => ?_) (fun c1 => ?_)
    · replace h := ifp c1 h
      refine lv_iload_n hx hb dX2_nextBest_92 rfl (lv_at hl 1 rfl) ?_
      obtain rfl := so1 h
      exact retI C hP hD hS dX2_nextBest_93
    · replace h := ifn c1 h
      refine lv_aload_n hx hb dX2_nextBest_19 rfl (lv_at hl 0 rfl) ?_
      refine lv_iload hx hb dX2_nextBest_20 (lv_at hl 4 rfl) ?_
      refine lv_aload_n hx hb dX2_nextBest_22 rfl (lv_at hl 0 rfl) ?_
      refine gf_RX2_31 C hP dX2_nextBest_23 ?_
      obtain ⟨r3, h2, h⟩ := bd1_some h
      refine goI C hD hS (runV (As := [.int v4, .int (σ.1 14)]) (rest := []) (w := (xW G q σ)) C lc_RX2_51 (ctX2_partsSet N σ v4 (σ.1 14) r3 h2 _) hP hD hS (va_recv C.2.2.2.2.2.1 hP (ci := 2) (q0 := 5) rfl rfl) hl.1 rfl rfl (by decide) (by decide) (Nat.le_of_ble_eq_true rfl) dX2_nextBest_26) (fun H locs hP hD hS => ?_)
      refine lv_if_ne (tgt := 35) hx hb dX2_nextBest_29 (by decide) (fun c4 => ?_) (fun c4 => ?_)
      · replace h := ifn c4 h
        refine lv_aload_n hx hb dX2_nextBest_35 rfl (lv_at hl 0 rfl) ?_
        refine lv_iload hx hb dX2_nextBest_36 (lv_at hl 4 rfl) ?_
        obtain ⟨r6, h5, h⟩ := bd1_some h
        refine goI C hD hS (runV (As := [.int v4]) (rest := []) (w := (xW G q σ)) C lc_RX2_55 (ctX2_greatestLikelihood N σ v4 r6 h5 _) hP hD hS (va_recv C.2.2.2.2.2.1 hP (ci := 2) (q0 := 5) rfl rfl) hl.1 rfl rfl (by decide) (by decide) (Nat.le_of_ble_eq_true rfl) dX2_nextBest_38) (fun H locs hP hD hS => ?_)
        refine lv_istore (lv' := [(5, .int r6), (0, .ref (q 5)), (1, .int v1), (2, .int v2), (3, .int v3), (4, .int v4)]) hx hb dX2_nextBest_41 hl (by decide) rfl (fun ls hl => ?_)
        refine lv_iload_n hx hb dX2_nextBest_43 rfl (lv_at hl 2 rfl) ?_
        refine lv_bipush (v := (-4)) hx hb dX2_nextBest_44 (by decide) ?_
        refine lv_icmp_eq (tgt := 72) hx hb dX2_nextBest_46 (by decide) (fun c7 => ?_) (fun c7 => ?_)
        · replace h := ifp c7 h
          refine lv_iload hx hb dX2_nextBest_72 (lv_at hl 5 rfl) ?_
          refine lv_istore_n (lv' := [(1, .int v4), (5, .int r6), (0, .ref (q 5)), (2, .int v2), (3, .int v3), (4, .int v4)]) hx hb dX2_nextBest_74 rfl hl (by decide) rfl (fun ls hl => ?_)
          refine lv_iload hx hb dX2_nextBest_75 (lv_at hl 1 rfl) ?_
          refine lv_istore_n (lv' := [(2, .int r6), (1, .int v4), (5, .int r6), (0, .ref (q 5)), (3, .int v3), (4, .int v4)]) hx hb dX2_nextBest_77 rfl hl (by decide) rfl (fun ls hl => ?_)
          refine lv_aload_n hx hb dX2_nextBest_78 rfl (lv_at hl 3 rfl) ?_
          refine gf_RX2_15 C hP dX2_nextBest_79 ?_
          refine lv_iload hx hb dX2_nextBest_82 (lv_at hl 5 rfl) ?_
          obtain ⟨i8, h⟩ := gi_some h
          refine ldX_12 C hP i8 dX2_nextBest_84 ?_
          refine lv_istore_n (lv' := [(3, .int (σ.2 12 v4.toNatClampNeg)), (2, .int r6), (1, .int v4), (5, .int r6), (0, .ref (q 5)), (4, .int v4)]) hx hb dX2_nextBest_85 rfl hl (by decide) rfl (fun ls hl => ?_)
          refine lv_iinc (v := (v4 + 1)) (lv' := [(4, .int (v4 + 1)), (3, .int (σ.2 12 v4.toNatClampNeg)), (2, .int r6), (1, .int v4), (5, .int r6), (0, .ref (q 5))]) hx hb dX2_nextBest_86 hl (k := 5) rfl (by first | rfl | decide) (by decide) rfl (fun ls hl => ?_)
          refine lv_goto (tgt := 10) hx hb dX2_nextBest_89 (by decide) ?_
          exact ih v4 r6 (σ.2 12 v4.toNatClampNeg) (v4 + 1) _ _ _ h hP hD hS (lv_sub hl [5, 3, 2, 1, 0] rfl)
        · replace h := ifn c7 h
          refine lv_iload hx hb dX2_nextBest_49 (lv_at hl 0 rfl) ?_
          refine lv_iload_n hx hb dX2_nextBest_51 rfl (lv_at hl 3 rfl) ?_
          refine lv_icmp_lt (tgt := 72) hx hb dX2_nextBest_52 (by decide) (fun c9 => ?_) (fun c9 => ?_)
          · replace h := ifp c9 h
            refine lv_iload hx hb dX2_nextBest_72 (lv_at hl 5 rfl) ?_
            refine lv_istore_n (lv' := [(1, .int v4), (5, .int r6), (0, .ref (q 5)), (2, .int v2), (3, .int v3), (4, .int v4)]) hx hb dX2_nextBest_74 rfl hl (by decide) rfl (fun ls hl => ?_)
            refine lv_iload hx hb dX2_nextBest_75 (lv_at hl 1 rfl) ?_
            refine lv_istore_n (lv' := [(2, .int r6), (1, .int v4), (5, .int r6), (0, .ref (q 5)), (3, .int v3), (4, .int v4)]) hx hb dX2_nextBest_77 rfl hl (by decide) rfl (fun ls hl => ?_)
            refine lv_aload_n hx hb dX2_nextBest_78 rfl (lv_at hl 3 rfl) ?_
            refine gf_RX2_15 C hP dX2_nextBest_79 ?_
            refine lv_iload hx hb dX2_nextBest_82 (lv_at hl 5 rfl) ?_
            obtain ⟨i10, h⟩ := gi_some h
            refine ldX_12 C hP i10 dX2_nextBest_84 ?_
            refine lv_istore_n (lv' := [(3, .int (σ.2 12 v4.toNatClampNeg)), (2, .int r6), (1, .int v4), (5, .int r6), (0, .ref (q 5)), (4, .int v4)]) hx hb dX2_nextBest_85 rfl hl (by decide) rfl (fun ls hl => ?_)
            refine lv_iinc (v := (v4 + 1)) (lv' := [(4, .int (v4 + 1)), (3, .int (σ.2 12 v4.toNatClampNeg)), (2, .int r6), (1, .int v4), (5, .int r6), (0, .ref (q 5))]) hx hb dX2_nextBest_86 hl (k := 5) rfl (by first | rfl | decide) (by decide) rfl (fun ls hl => ?_)
            refine lv_goto (tgt := 10) hx hb dX2_nextBest_89 (by decide) ?_
            exact ih v4 r6 (σ.2 12 v4.toNatClampNeg) (v4 + 1) _ _ _ h hP hD hS (lv_sub hl [5, 3, 2, 1, 0] rfl)
          · replace h := ifn c9 h
            refine lv_iload hx hb dX2_nextBest_55 (lv_at hl 0 rfl) ?_
            refine lv_iload_n hx hb dX2_nextBest_57 rfl (lv_at hl 3 rfl) ?_
            refine lv_icmp_ne (tgt := 86) hx hb dX2_nextBest_58 (by decide) (fun c11 => ?_) (fun c11 => ?_)
            · replace h := ifn c11 h
              refine lv_iinc (v := (v4 + 1)) (lv' := [(4, .int (v4 + 1)), (5, .int r6), (0, .ref (q 5)), (1, .int v1), (2, .int v2), (3, .int v3)]) hx hb dX2_nextBest_86 hl (k := 5) rfl (by first | rfl | decide) (by decide) rfl (fun ls hl => ?_)
              refine lv_goto (tgt := 10) hx hb dX2_nextBest_89 (by decide) ?_
              exact ih v1 v2 v3 (v4 + 1) _ _ _ h hP hD hS (lv_sub hl [2, 3, 4, 5, 0] rfl)
            · replace h := ifp c11 h
              refine lv_aload_n hx hb dX2_nextBest_61 rfl (lv_at hl 1 rfl) ?_
              refine gf_RX2_15 C hP dX2_nextBest_62 ?_
              refine lv_iload hx hb dX2_nextBest_65 (lv_at hl 5 rfl) ?_
              obtain ⟨i12, h⟩ := gi_some h
              refine ldX_12 C hP i12 dX2_nextBest_67 ?_
              refine lv_iload_n hx hb dX2_nextBest_68 rfl (lv_at hl 4 rfl) ?_
              refine lv_icmp_ge (tgt := 86) hx hb dX2_nextBest_69 (by decide) (fun c13 => ?_) (fun c13 => ?_)
              · replace h := ifp c13 h
                refine lv_iinc (v := (v4 + 1)) (lv' := [(4, .int (v4 + 1)), (5, .int r6), (0, .ref (q 5)), (1, .int v1), (2, .int v2), (3, .int v3)]) hx hb dX2_nextBest_86 hl (k := 5) rfl (by first | rfl | decide) (by decide) rfl (fun ls hl => ?_)
                refine lv_goto (tgt := 10) hx hb dX2_nextBest_89 (by decide) ?_
                exact ih v1 v2 v3 (v4 + 1) _ _ _ h hP hD hS (lv_sub hl [2, 3, 4, 5, 0] rfl)
              · replace h := ifn c13 h
                refine lv_iload hx hb dX2_nextBest_72 (lv_at hl 5 rfl) ?_
                refine lv_istore_n (lv' := [(1, .int v4), (5, .int r6), (0, .ref (q 5)), (2, .int v2), (3, .int v3), (4, .int v4)]) hx hb dX2_nextBest_74 rfl hl (by decide) rfl (fun ls hl => ?_)
                refine lv_iload hx hb dX2_nextBest_75 (lv_at hl 1 rfl) ?_
                refine lv_istore_n (lv' := [(2, .int r6), (1, .int v4), (5, .int r6), (0, .ref (q 5)), (3, .int v3), (4, .int v4)]) hx hb dX2_nextBest_77 rfl hl (by decide) rfl (fun ls hl => ?_)
                refine lv_aload_n hx hb dX2_nextBest_78 rfl (lv_at hl 3 rfl) ?_
                refine gf_RX2_15 C hP dX2_nextBest_79 ?_
                refine lv_iload hx hb dX2_nextBest_82 (lv_at hl 5 rfl) ?_
                obtain ⟨i14, h⟩ := gi_some h
                refine ldX_12 C hP i14 dX2_nextBest_84 ?_
                refine lv_istore_n (lv' := [(3, .int (σ.2 12 v4.toNatClampNeg)), (2, .int r6), (1, .int v4), (5, .int r6), (0, .ref (q 5)), (4, .int v4)]) hx hb dX2_nextBest_85 rfl hl (by decide) rfl (fun ls hl => ?_)
                refine lv_iinc (v := (v4 + 1)) (lv' := [(4, .int (v4 + 1)), (3, .int (σ.2 12 v4.toNatClampNeg)), (2, .int r6), (1, .int v4), (5, .int r6), (0, .ref (q 5))]) hx hb dX2_nextBest_86 hl (k := 5) rfl (by first | rfl | decide) (by decide) rfl (fun ls hl => ?_)
                refine lv_goto (tgt := 10) hx hb dX2_nextBest_89 (by decide) ?_
                exact ih v4 r6 (σ.2 12 v4.toNatClampNeg) (v4 + 1) _ _ _ h hP hD hS (lv_sub hl [5, 3, 2, 1, 0] rfl)
      · replace h := ifp c4 h
        refine lv_goto (tgt := 86) hx hb dX2_nextBest_32 (by decide) ?_
        refine lv_iinc (v := (v4 + 1)) (lv' := [(4, .int (v4 + 1)), (0, .ref (q 5)), (1, .int v1), (2, .int v2), (3, .int v3)]) hx hb dX2_nextBest_86 hl (k := 4) rfl (by first | rfl | decide) (by decide) rfl (fun ls hl => ?_)
        refine lv_goto (tgt := 10) hx hb dX2_nextBest_89 (by decide) ?_
        exact ih v1 v2 v3 (v4 + 1) _ _ _ h hP hD hS (lv_sub hl [1, 2, 3, 4, 0] rfl)

def fX2_nextBest (N : Nat) (σ : St) : Option Int32 :=
  fX2_nextBest_L10 N σ N (-4) 0 0 0
set_option maxHeartbeats 4000000 in
set_option maxRecDepth 100000 in
theorem ctX2_nextBest {G : GP} {l : Launch} {q : Nat → Nat} (N : Nat) (σ : St) (r : Int32) (h : fX2_nextBest N σ = some r) : CI G l yX2_nextBest cX2_nextBest 6 (some .int) 2 [.ref (q 5)] (xW G q σ) (xW G q σ) r := by
  refine enterI (own := RX2) (by decide) rfl (Nat.le_of_ble_eq_true rfl) ?_
  intro p e s m args below meth c A C hP hD hS ls hl
  obtain ⟨hx, hb, hml, hown, hts, hK, hZ, hA, hlk, hr⟩ := id C
  have hl : lv_has ls 6 [(0, .ref (q 5))] := hl
  rw [fX2_nextBest.eq_1] at h
  refine lv_bipush (v := (-4)) hx hb dX2_nextBest_0 (by decide) ?_
  refine lv_istore_n (lv' := [(1, .int (-4)), (0, .ref (q 5))]) hx hb dX2_nextBest_2 rfl hl (by decide) rfl (fun ls hl => ?_)
  refine lv_iconst (v := 0) hx hb dX2_nextBest_3 (by decide) ?_
  refine lv_istore_n (lv' := [(2, .int 0), (1, .int (-4)), (0, .ref (q 5))]) hx hb dX2_nextBest_4 rfl hl (by decide) rfl (fun ls hl => ?_)
  refine lv_iconst (v := 0) hx hb dX2_nextBest_5 (by decide) ?_
  refine lv_istore_n (lv' := [(3, .int 0), (2, .int 0), (1, .int (-4)), (0, .ref (q 5))]) hx hb dX2_nextBest_6 rfl hl (by decide) rfl (fun ls hl => ?_)
  refine lv_iconst (v := 0) hx hb dX2_nextBest_7 (by decide) ?_
  refine lv_istore (lv' := [(4, .int 0), (3, .int 0), (2, .int 0), (1, .int (-4)), (0, .ref (q 5))]) hx hb dX2_nextBest_8 hl (by decide) rfl (fun ls hl => ?_)
  exact wX2_nextBest_L10 C N σ r N (-4) 0 0 0 _ _ _ h hP hD hS (lv_sub hl [4, 3, 2, 1, 0] rfl)

def fX2_dearestPart_L5 (N : Nat) (σ : St) (v1 : Int32) (v2 : Int32) : Nat → Int32 → Int32 → Option Int32
  | 0, _, _ => none
  | n + 1, v3, v4 => (if 4 ≤ v4 then some v3 else gi ((v1 * 4) + v4) 48 (gi ((σ.2 13 ((v1 * 4) + v4).toNatClampNeg) &&& v2) 4096 (fX2_dearestPart_L5 N σ v1 v2 n (jmax v3 (σ.2 14 ((σ.2 13 ((v1 * 4) + v4).toNatClampNeg) &&& v2).toNatClampNeg)) (v4 + 1))))
set_option maxHeartbeats 4000000 in
set_option maxRecDepth 100000 in
theorem wX2_dearestPart_L5 {q : Nat → Nat} (C : Cx G p s m args meth c cX2_dearestPart 5 (some .int) (Cond.code yX2_dearestPart cX2_dearestPart 5 (some .int)) RX2 A) (N : Nat) (σ : St) (v1 : Int32) (v2 : Int32) (r : Int32) : ∀ (n : Nat) (v3 : Int32) (v4 : Int32) (H : Heap) (locs : List Loc) (ls : Array Slot), fX2_dearestPart_L5 N σ v1 v2 n v3 v4 = some r → va_P G.1 vwCl (xW G q σ) H → va_D A (xW G q σ) → va_S A s.heap H locs → lv_has ls 5 [(0, .ref (q 5)), (1, .int v1), (2, .int v2), (3, .int v3), (4, .int v4)] → W p l e (rmD 1) s m args below meth c H locs 0 0 (QI G below args s A (xW G q σ) r) (F0 m 5 ls []) := by
  obtain ⟨hx, hb, hml, hown, hts, hK, hZ, hA, hlk, hr⟩ := id C
  intro n
  induction n with
  | zero =>
    intro v3 v4 H locs ls h
    cases h
  | succ n ih =>
    intro v3 v4 H locs ls h hP hD hS hl
    rw [fX2_dearestPart_L5.eq_2] at h
    refine lv_iload hx hb dX2_dearestPart_5 (lv_at hl 4 rfl) ?_
    refine lv_iconst (v := 4) hx hb dX2_dearestPart_7 (by decide) ?_
    refine lv_icmp_ge (tgt := 40) hx hb dX2_dearestPart_8 (by decide) (fun c1 => ?_) (fun c1 => ?_)
    · replace h := ifp c1 h
      refine lv_iload_n hx hb dX2_dearestPart_40 rfl (lv_at hl 3 rfl) ?_
      obtain rfl := so1 h
      exact retI C hP hD hS dX2_dearestPart_41
    · replace h := ifn c1 h
      refine lv_iload_n hx hb dX2_dearestPart_11 rfl (lv_at hl 3 rfl) ?_
      refine lv_aload_n hx hb dX2_dearestPart_12 rfl (lv_at hl 0 rfl) ?_
      refine gf_RX2_21 C hP dX2_dearestPart_13 ?_
      refine lv_aload_n hx hb dX2_dearestPart_16 rfl (lv_at hl 0 rfl) ?_
      refine gf_RX2_18 C hP dX2_dearestPart_17 ?_
      refine lv_iload_n hx hb dX2_dearestPart_20 rfl (lv_at hl 1 rfl) ?_
      refine lv_iconst (v := 4) hx hb dX2_dearestPart_21 (by decide) ?_
      refine lv_imul hx hb dX2_dearestPart_22 ?_
      refine lv_iload hx hb dX2_dearestPart_23 (lv_at hl 4 rfl) ?_
      refine lv_iadd hx hb dX2_dearestPart_25 ?_
      obtain ⟨i2, h⟩ := gi_some h
      refine ldX_13 C hP i2 dX2_dearestPart_26 ?_
      refine lv_iload_n hx hb dX2_dearestPart_27 rfl (lv_at hl 2 rfl) ?_
      refine lv_iand hx hb dX2_dearestPart_28 ?_
      obtain ⟨i3, h⟩ := gi_some h
      refine ldX_14 C hP i3 dX2_dearestPart_29 ?_
      refine rmax C lc_RX2_65 hl.1 (Nat.le_of_ble_eq_true rfl) dX2_dearestPart_30 ?_
      refine lv_istore_n (lv' := [(3, .int (jmax v3 (σ.2 14 ((σ.2 13 ((v1 * 4) + v4).toNatClampNeg) &&& v2).toNatClampNeg))), (0, .ref (q 5)), (1, .int v1), (2, .int v2), (4, .int v4)]) hx hb dX2_dearestPart_33 rfl hl (by decide) rfl (fun ls hl => ?_)
      refine lv_iinc (v := (v4 + 1)) (lv' := [(4, .int (v4 + 1)), (3, .int (jmax v3 (σ.2 14 ((σ.2 13 ((v1 * 4) + v4).toNatClampNeg) &&& v2).toNatClampNeg))), (0, .ref (q 5)), (1, .int v1), (2, .int v2)]) hx hb dX2_dearestPart_34 hl (k := 4) rfl (by first | rfl | decide) (by decide) rfl (fun ls hl => ?_)
      refine lv_goto (tgt := 5) hx hb dX2_dearestPart_37 (by decide) ?_
      exact ih (jmax v3 (σ.2 14 ((σ.2 13 ((v1 * 4) + v4).toNatClampNeg) &&& v2).toNatClampNeg)) (v4 + 1) _ _ _ h hP hD hS (lv_sub hl [2, 3, 4, 1, 0] rfl)

def fX2_dearestPart (N : Nat) (σ : St) (a1 : Int32) (a2 : Int32) : Option Int32 :=
  fX2_dearestPart_L5 N σ a1 a2 N 0 0
set_option maxHeartbeats 4000000 in
set_option maxRecDepth 100000 in
theorem ctX2_dearestPart {G : GP} {l : Launch} {q : Nat → Nat} (N : Nat) (σ : St) (a1 : Int32) (a2 : Int32) (r : Int32) (h : fX2_dearestPart N σ a1 a2 = some r) : CI G l yX2_dearestPart cX2_dearestPart 5 (some .int) 1 [.ref (q 5), .int a1, .int a2] (xW G q σ) (xW G q σ) r := by
  refine enterI (own := RX2) (by decide) rfl (Nat.le_of_ble_eq_true rfl) ?_
  intro p e s m args below meth c A C hP hD hS ls hl
  obtain ⟨hx, hb, hml, hown, hts, hK, hZ, hA, hlk, hr⟩ := id C
  have hl : lv_has ls 5 [(0, .ref (q 5)), (1, .int a1), (2, .int a2)] := hl
  rw [fX2_dearestPart.eq_1] at h
  refine lv_iconst (v := 0) hx hb dX2_dearestPart_0 (by decide) ?_
  refine lv_istore_n (lv' := [(3, .int 0), (0, .ref (q 5)), (1, .int a1), (2, .int a2)]) hx hb dX2_dearestPart_1 rfl hl (by decide) rfl (fun ls hl => ?_)
  refine lv_iconst (v := 0) hx hb dX2_dearestPart_2 (by decide) ?_
  refine lv_istore (lv' := [(4, .int 0), (3, .int 0), (0, .ref (q 5)), (1, .int a1), (2, .int a2)]) hx hb dX2_dearestPart_3 hl (by decide) rfl (fun ls hl => ?_)
  exact wX2_dearestPart_L5 C N σ a1 a2 r N 0 0 _ _ _ h hP hD hS (lv_sub hl [2, 3, 4, 1, 0] rfl)

def fX2_costOfParting_L5 (N : Nat) (σ : St) (v1 : Int32) (v2 : Int32) : Nat → Int32 → Int32 → Option Int32
  | 0, _, _ => none
  | n + 1, v3, v4 => (if (σ.1 13) ≤ v4 then (if v3 = (-1) then some 0 else some v3) else bd1 (fX2_partsSet N σ v4 v1) (fun r4 => (if r4 = 0 then fX2_costOfParting_L5 N σ v1 v2 n v3 (v4 + 1) else (if v2 = 0 then bd1 (fX2_dearestPart N σ v4 v1) (fun r8 => (if v3 = (-1) then fX2_costOfParting_L5 N σ v1 v2 n (1 + r8) (v4 + 1) else fX2_costOfParting_L5 N σ v1 v2 n (jmin v3 (1 + r8)) (v4 + 1))) else gi v4 12 (bd1 (fX2_dearestPart N σ v4 v1) (fun r12 => (if v3 = (-1) then fX2_costOfParting_L5 N σ v1 v2 n ((σ.2 12 v4.toNatClampNeg) + r12) (v4 + 1) else fX2_costOfParting_L5 N σ v1 v2 n (jmin v3 ((σ.2 12 v4.toNatClampNeg) + r12)) (v4 + 1))))))))
set_option maxHeartbeats 4000000 in
set_option maxRecDepth 100000 in
theorem wX2_costOfParting_L5 {q : Nat → Nat} (C : Cx G p s m args meth c cX2_costOfParting 6 (some .int) (Cond.code yX2_costOfParting cX2_costOfParting 6 (some .int)) RX2 A) (N : Nat) (σ : St) (v1 : Int32) (v2 : Int32) (r : Int32) : ∀ (n : Nat) (v3 : Int32) (v4 : Int32) (H : Heap) (locs : List Loc) (ls : Array Slot), fX2_costOfParting_L5 N σ v1 v2 n v3 v4 = some r → va_P G.1 vwCl (xW G q σ) H → va_D A (xW G q σ) → va_S A s.heap H locs → lv_has ls 6 [(0, .ref (q 5)), (1, .int v1), (2, .int v2), (3, .int v3), (4, .int v4)] → W p l e (rmD 2) s m args below meth c H locs 0 0 (QI G below args s A (xW G q σ) r) (F0 m 5 ls []) := by
  obtain ⟨hx, hb, hml, hown, hts, hK, hZ, hA, hlk, hr⟩ := id C
  intro n
  induction n with
  | zero =>
    intro v3 v4 H locs ls h
    cases h
  | succ n ih =>
    intro v3 v4 H locs ls h hP hD hS hl
    rw [fX2_costOfParting_L5.eq_2] at h
    refine lv_iload hx hb dX2_costOfParting_5 (lv_at hl 4 rfl) ?_
    refine lv_aload_n hx hb dX2_costOfParting_7 rfl (lv_at hl 0 rfl) ?_
    refine gf_RX2_28 C hP dX2_costOfParting_8 ?_
    refine lv_icmp_ge (tgt := 72) hx hb dX2_costOfParting_11 (by decide) (fun c1 => ?_) (fun c1 => ?_)
    · replace h := ifp c1 h
      refine lv_iload_n hx hb dX2_costOfParting_72 rfl (lv_at hl 3 rfl) ?_
      refine lv_iconst (v := (-1)) hx hb dX2_costOfParting_73 (by decide) ?_
      refine lv_icmp_ne (tgt := 81) hx hb dX2_costOfParting_74 (by decide) (fun c2 => ?_) (fun c2 => ?_)
      · replace h := ifn c2 h
        refine lv_iload_n hx hb dX2_costOfParting_81 rfl (lv_at hl 3 rfl) ?_
        obtain rfl := so1 h
        exact retI C hP hD hS dX2_costOfParting_82
      · replace h := ifp c2 h
        refine lv_iconst (v := 0) hx hb dX2_costOfParting_77 (by decide) ?_
        refine lv_goto (tgt := 82) hx hb dX2_costOfParting_78 (by decide) ?_
        obtain rfl := so1 h
        exact retI C hP hD hS dX2_costOfParting_82
    · replace h := ifn c1 h
      refine lv_aload_n hx hb dX2_costOfParting_14 rfl (lv_at hl 0 rfl) ?_
      refine lv_iload hx hb dX2_costOfParting_15 (lv_at hl 4 rfl) ?_
      refine lv_iload_n hx hb dX2_costOfParting_17 rfl (lv_at hl 1 rfl) ?_
      obtain ⟨r4, h3, h⟩ := bd1_some h
      refine goI C hD hS (runV (As := [.int v4, .int v1]) (rest := []) (w := (xW G q σ)) C lc_RX2_51 (ctX2_partsSet N σ v4 v1 r4 h3 _) hP hD hS (va_recv C.2.2.2.2.2.1 hP (ci := 2) (q0 := 5) rfl rfl) hl.1 rfl rfl (by decide) (by decide) (Nat.le_of_ble_eq_true rfl) dX2_costOfParting_18) (fun H locs hP hD hS => ?_)
      refine lv_if_eq (tgt := 66) hx hb dX2_costOfParting_21 (by decide) (fun c5 => ?_) (fun c5 => ?_)
      · replace h := ifp c5 h
        refine lv_iinc (v := (v4 + 1)) (lv' := [(4, .int (v4 + 1)), (0, .ref (q 5)), (1, .int v1), (2, .int v2), (3, .int v3)]) hx hb dX2_costOfParting_66 hl (k := 4) rfl (by first | rfl | decide) (by decide) rfl (fun ls hl => ?_)
        refine lv_goto (tgt := 5) hx hb dX2_costOfParting_69 (by decide) ?_
        exact ih v3 (v4 + 1) _ _ _ h hP hD hS (lv_sub hl [1, 2, 3, 4, 0] rfl)
      · replace h := ifn c5 h
        refine lv_iload_n hx hb dX2_costOfParting_24 rfl (lv_at hl 2 rfl) ?_
        refine lv_if_eq (tgt := 38) hx hb dX2_costOfParting_25 (by decide) (fun c6 => ?_) (fun c6 => ?_)
        · replace h := ifp c6 h
          refine lv_iconst (v := 1) hx hb dX2_costOfParting_38 (by decide) ?_
          refine lv_aload_n hx hb dX2_costOfParting_39 rfl (lv_at hl 0 rfl) ?_
          refine lv_iload hx hb dX2_costOfParting_40 (lv_at hl 4 rfl) ?_
          refine lv_iload_n hx hb dX2_costOfParting_42 rfl (lv_at hl 1 rfl) ?_
          obtain ⟨r8, h7, h⟩ := bd1_some h
          refine goI C hD hS (runV (As := [.int v4, .int v1]) (rest := [.int 1]) (w := (xW G q σ)) C lc_RX2_71 (ctX2_dearestPart N σ v4 v1 r8 h7 _) hP hD hS (va_recv C.2.2.2.2.2.1 hP (ci := 2) (q0 := 5) rfl rfl) hl.1 rfl rfl (by decide) (by decide) (Nat.le_of_ble_eq_true rfl) dX2_costOfParting_43) (fun H locs hP hD hS => ?_)
          refine lv_iadd hx hb dX2_costOfParting_46 ?_
          refine lv_istore (lv' := [(5, .int (1 + r8)), (0, .ref (q 5)), (1, .int v1), (2, .int v2), (3, .int v3), (4, .int v4)]) hx hb dX2_costOfParting_47 hl (by decide) rfl (fun ls hl => ?_)
          refine lv_iload_n hx hb dX2_costOfParting_49 rfl (lv_at hl 4 rfl) ?_
          refine lv_iconst (v := (-1)) hx hb dX2_costOfParting_50 (by decide) ?_
          refine lv_icmp_ne (tgt := 59) hx hb dX2_costOfParting_51 (by decide) (fun c9 => ?_) (fun c9 => ?_)
          · replace h := ifn c9 h
            refine lv_iload_n hx hb dX2_costOfParting_59 rfl (lv_at hl 4 rfl) ?_
            refine lv_iload hx hb dX2_costOfParting_60 (lv_at hl 0 rfl) ?_
            refine rmin C lc_RX2_74 hl.1 (Nat.le_of_ble_eq_true rfl) dX2_costOfParting_62 ?_
            refine lv_istore_n (lv' := [(3, .int (jmin v3 (1 + r8))), (5, .int (1 + r8)), (0, .ref (q 5)), (1, .int v1), (2, .int v2), (4, .int v4)]) hx hb dX2_costOfParting_65 rfl hl (by decide) rfl (fun ls hl => ?_)
            refine lv_iinc (v := (v4 + 1)) (lv' := [(4, .int (v4 + 1)), (3, .int (jmin v3 (1 + r8))), (5, .int (1 + r8)), (0, .ref (q 5)), (1, .int v1), (2, .int v2)]) hx hb dX2_costOfParting_66 hl (k := 5) rfl (by first | rfl | decide) (by decide) rfl (fun ls hl => ?_)
            refine lv_goto (tgt := 5) hx hb dX2_costOfParting_69 (by decide) ?_
            exact ih (jmin v3 (1 + r8)) (v4 + 1) _ _ _ h hP hD hS (lv_sub hl [3, 4, 5, 1, 0] rfl)
          · replace h := ifp c9 h
            refine lv_iload hx hb dX2_costOfParting_54 (lv_at hl 0 rfl) ?_
            refine lv_goto (tgt := 65) hx hb dX2_costOfParting_56 (by decide) ?_
            refine lv_istore_n (lv' := [(3, .int (1 + r8)), (5, .int (1 + r8)), (0, .ref (q 5)), (1, .int v1), (2, .int v2), (4, .int v4)]) hx hb dX2_costOfParting_65 rfl hl (by decide) rfl (fun ls hl => ?_)
            refine lv_iinc (v := (v4 + 1)) (lv' := [(4, .int (v4 + 1)), (3, .int (1 + r8)), (5, .int (1 + r8)), (0, .ref (q 5)), (1, .int v1), (2, .int v2)]) hx hb dX2_costOfParting_66 hl (k := 5) rfl (by first | rfl | decide) (by decide) rfl (fun ls hl => ?_)
            refine lv_goto (tgt := 5) hx hb dX2_costOfParting_69 (by decide) ?_
            exact ih (1 + r8) (v4 + 1) _ _ _ h hP hD hS (lv_sub hl [3, 4, 5, 1, 0] rfl)
        · replace h := ifn c6 h
          refine lv_aload_n hx hb dX2_costOfParting_28 rfl (lv_at hl 0 rfl) ?_
          refine gf_RX2_15 C hP dX2_costOfParting_29 ?_
          refine lv_iload hx hb dX2_costOfParting_32 (lv_at hl 4 rfl) ?_
          obtain ⟨i10, h⟩ := gi_some h
          refine ldX_12 C hP i10 dX2_costOfParting_34 ?_
          refine lv_goto (tgt := 39) hx hb dX2_costOfParting_35 (by decide) ?_
          refine lv_aload_n hx hb dX2_costOfParting_39 rfl (lv_at hl 0 rfl) ?_
          refine lv_iload hx hb dX2_costOfParting_40 (lv_at hl 4 rfl) ?_
          refine lv_iload_n hx hb dX2_costOfParting_42 rfl (lv_at hl 1 rfl) ?_
          obtain ⟨r12, h11, h⟩ := bd1_some h
          refine goI C hD hS (runV (As := [.int v4, .int v1]) (rest := [.int (σ.2 12 v4.toNatClampNeg)]) (w := (xW G q σ)) C lc_RX2_71 (ctX2_dearestPart N σ v4 v1 r12 h11 _) hP hD hS (va_recv C.2.2.2.2.2.1 hP (ci := 2) (q0 := 5) rfl rfl) hl.1 rfl rfl (by decide) (by decide) (Nat.le_of_ble_eq_true rfl) dX2_costOfParting_43) (fun H locs hP hD hS => ?_)
          refine lv_iadd hx hb dX2_costOfParting_46 ?_
          refine lv_istore (lv' := [(5, .int ((σ.2 12 v4.toNatClampNeg) + r12)), (0, .ref (q 5)), (1, .int v1), (2, .int v2), (3, .int v3), (4, .int v4)]) hx hb dX2_costOfParting_47 hl (by decide) rfl (fun ls hl => ?_)
          refine lv_iload_n hx hb dX2_costOfParting_49 rfl (lv_at hl 4 rfl) ?_
          refine lv_iconst (v := (-1)) hx hb dX2_costOfParting_50 (by decide) ?_
          refine lv_icmp_ne (tgt := 59) hx hb dX2_costOfParting_51 (by decide) (fun c13 => ?_) (fun c13 => ?_)
          · replace h := ifn c13 h
            refine lv_iload_n hx hb dX2_costOfParting_59 rfl (lv_at hl 4 rfl) ?_
            refine lv_iload hx hb dX2_costOfParting_60 (lv_at hl 0 rfl) ?_
            refine rmin C lc_RX2_74 hl.1 (Nat.le_of_ble_eq_true rfl) dX2_costOfParting_62 ?_
            refine lv_istore_n (lv' := [(3, .int (jmin v3 ((σ.2 12 v4.toNatClampNeg) + r12))), (5, .int ((σ.2 12 v4.toNatClampNeg) + r12)), (0, .ref (q 5)), (1, .int v1), (2, .int v2), (4, .int v4)]) hx hb dX2_costOfParting_65 rfl hl (by decide) rfl (fun ls hl => ?_)
            refine lv_iinc (v := (v4 + 1)) (lv' := [(4, .int (v4 + 1)), (3, .int (jmin v3 ((σ.2 12 v4.toNatClampNeg) + r12))), (5, .int ((σ.2 12 v4.toNatClampNeg) + r12)), (0, .ref (q 5)), (1, .int v1), (2, .int v2)]) hx hb dX2_costOfParting_66 hl (k := 5) rfl (by first | rfl | decide) (by decide) rfl (fun ls hl => ?_)
            refine lv_goto (tgt := 5) hx hb dX2_costOfParting_69 (by decide) ?_
            exact ih (jmin v3 ((σ.2 12 v4.toNatClampNeg) + r12)) (v4 + 1) _ _ _ h hP hD hS (lv_sub hl [3, 4, 5, 1, 0] rfl)
          · replace h := ifp c13 h
            refine lv_iload hx hb dX2_costOfParting_54 (lv_at hl 0 rfl) ?_
            refine lv_goto (tgt := 65) hx hb dX2_costOfParting_56 (by decide) ?_
            refine lv_istore_n (lv' := [(3, .int ((σ.2 12 v4.toNatClampNeg) + r12)), (5, .int ((σ.2 12 v4.toNatClampNeg) + r12)), (0, .ref (q 5)), (1, .int v1), (2, .int v2), (4, .int v4)]) hx hb dX2_costOfParting_65 rfl hl (by decide) rfl (fun ls hl => ?_)
            refine lv_iinc (v := (v4 + 1)) (lv' := [(4, .int (v4 + 1)), (3, .int ((σ.2 12 v4.toNatClampNeg) + r12)), (5, .int ((σ.2 12 v4.toNatClampNeg) + r12)), (0, .ref (q 5)), (1, .int v1), (2, .int v2)]) hx hb dX2_costOfParting_66 hl (k := 5) rfl (by first | rfl | decide) (by decide) rfl (fun ls hl => ?_)
            refine lv_goto (tgt := 5) hx hb dX2_costOfParting_69 (by decide) ?_
            exact ih ((σ.2 12 v4.toNatClampNeg) + r12) (v4 + 1) _ _ _ h hP hD hS (lv_sub hl [3, 4, 5, 1, 0] rfl)

def fX2_costOfParting (N : Nat) (σ : St) (a1 : Int32) (a2 : Int32) : Option Int32 :=
  fX2_costOfParting_L5 N σ a1 a2 N (-1) 0
set_option maxHeartbeats 4000000 in
set_option maxRecDepth 100000 in
theorem ctX2_costOfParting {G : GP} {l : Launch} {q : Nat → Nat} (N : Nat) (σ : St) (a1 : Int32) (a2 : Int32) (r : Int32) (h : fX2_costOfParting N σ a1 a2 = some r) : CI G l yX2_costOfParting cX2_costOfParting 6 (some .int) 2 [.ref (q 5), .int a1, .int a2] (xW G q σ) (xW G q σ) r := by
  refine enterI (own := RX2) (by decide) rfl (Nat.le_of_ble_eq_true rfl) ?_
  intro p e s m args below meth c A C hP hD hS ls hl
  obtain ⟨hx, hb, hml, hown, hts, hK, hZ, hA, hlk, hr⟩ := id C
  have hl : lv_has ls 6 [(0, .ref (q 5)), (1, .int a1), (2, .int a2)] := hl
  rw [fX2_costOfParting.eq_1] at h
  refine lv_iconst (v := (-1)) hx hb dX2_costOfParting_0 (by decide) ?_
  refine lv_istore_n (lv' := [(3, .int (-1)), (0, .ref (q 5)), (1, .int a1), (2, .int a2)]) hx hb dX2_costOfParting_1 rfl hl (by decide) rfl (fun ls hl => ?_)
  refine lv_iconst (v := 0) hx hb dX2_costOfParting_2 (by decide) ?_
  refine lv_istore (lv' := [(4, .int 0), (3, .int (-1)), (0, .ref (q 5)), (1, .int a1), (2, .int a2)]) hx hb dX2_costOfParting_3 hl (by decide) rfl (fun ls hl => ?_)
  exact wX2_costOfParting_L5 C N σ a1 a2 r N (-1) 0 _ _ _ h hP hD hS (lv_sub hl [2, 3, 4, 1, 0] rfl)

def fX2_leastCost_L4 (N : Nat) (v1 : Int32) : Nat → Int32 → Int32 → St → Option (Int32 × St)
  | 0, _, _, _ => none
  | n + 1, v2, v3, σ => (if 4095 ≤ v3 then bd1 (fX2_costOfParting N σ (σ.1 14) v1) (fun r3 => some (r3, σ)) else (if v2 = (σ.1 14) then bd1 (fX2_costOfParting N σ (σ.1 14) v1) (fun r6 => some (r6, σ)) else bd1 (fX2_costOfParting N σ v2 v1) (fun r8 => gi v2 4096 (fX2_leastCost_L4 N v1 n ((v2 - (σ.1 14)) &&& (σ.1 14)) (v3 + 1) (sA σ 14 v2.toNatClampNeg r8)))))
set_option maxHeartbeats 4000000 in
set_option maxRecDepth 100000 in
theorem wX2_leastCost_L4 {q : Nat → Nat} (C : Cx G p s m args meth c cX2_leastCost 4 (some .int) (Cond.code yX2_leastCost cX2_leastCost 4 (some .int)) RX2 A) (N : Nat) (v1 : Int32) (r : Int32) (σ' : St) : ∀ (n : Nat) (v2 : Int32) (v3 : Int32) (σ : St) (H : Heap) (locs : List Loc) (ls : Array Slot), fX2_leastCost_L4 N v1 n v2 v3 σ = some (r, σ') → va_P G.1 vwCl (xW G q σ) H → va_D A (xW G q σ) → va_S A s.heap H locs → lv_has ls 4 [(0, .ref (q 5)), (1, .int v1), (2, .int v2), (3, .int v3)] → W p l e (rmD 3) s m args below meth c H locs 0 0 (QI G below args s A (xW G q (σ')) r) (F0 m 4 ls []) := by
  obtain ⟨hx, hb, hml, hown, hts, hK, hZ, hA, hlk, hr⟩ := id C
  intro n
  induction n with
  | zero =>
    intro v2 v3 σ H locs ls h
    cases h
  | succ n ih =>
    intro v2 v3 σ H locs ls h hP hD hS hl
    rw [fX2_leastCost_L4.eq_2] at h
    refine lv_iload_n hx hb dX2_leastCost_4 rfl (lv_at hl 3 rfl) ?_
    refine lv_sipush (v := 4095) hx hb dX2_leastCost_5 (by decide) ?_
    refine lv_icmp_ge (tgt := 49) hx hb dX2_leastCost_8 (by decide) (fun c1 => ?_) (fun c1 => ?_)
    · replace h := ifp c1 h
      refine lv_aload_n hx hb dX2_leastCost_49 rfl (lv_at hl 0 rfl) ?_
      refine lv_aload_n hx hb dX2_leastCost_50 rfl (lv_at hl 0 rfl) ?_
      refine gf_RX2_31 C hP dX2_leastCost_51 ?_
      refine lv_iload_n hx hb dX2_leastCost_54 rfl (lv_at hl 1 rfl) ?_
      obtain ⟨r3, h2, h⟩ := bd1_some h
      refine goI C hD hS (runV (As := [.int (σ.1 14), .int v1]) (rest := []) (w := (xW G q σ)) C lc_RX2_58 (ctX2_costOfParting N σ (σ.1 14) v1 r3 h2 _) hP hD hS (va_recv C.2.2.2.2.2.1 hP (ci := 2) (q0 := 5) rfl rfl) hl.1 rfl rfl (by decide) (by decide) (Nat.le_of_ble_eq_true rfl) dX2_leastCost_55) (fun H locs hP hD hS => ?_)
      obtain ⟨rfl, rfl⟩ := so2 h
      exact retI C hP hD hS dX2_leastCost_58
    · replace h := ifn c1 h
      refine lv_iload_n hx hb dX2_leastCost_11 rfl (lv_at hl 2 rfl) ?_
      refine lv_aload_n hx hb dX2_leastCost_12 rfl (lv_at hl 0 rfl) ?_
      refine gf_RX2_31 C hP dX2_leastCost_13 ?_
      refine lv_icmp_eq (tgt := 49) hx hb dX2_leastCost_16 (by decide) (fun c4 => ?_) (fun c4 => ?_)
      · replace h := ifp c4 h
        refine lv_aload_n hx hb dX2_leastCost_49 rfl (lv_at hl 0 rfl) ?_
        refine lv_aload_n hx hb dX2_leastCost_50 rfl (lv_at hl 0 rfl) ?_
        refine gf_RX2_31 C hP dX2_leastCost_51 ?_
        refine lv_iload_n hx hb dX2_leastCost_54 rfl (lv_at hl 1 rfl) ?_
        obtain ⟨r6, h5, h⟩ := bd1_some h
        refine goI C hD hS (runV (As := [.int (σ.1 14), .int v1]) (rest := []) (w := (xW G q σ)) C lc_RX2_58 (ctX2_costOfParting N σ (σ.1 14) v1 r6 h5 _) hP hD hS (va_recv C.2.2.2.2.2.1 hP (ci := 2) (q0 := 5) rfl rfl) hl.1 rfl rfl (by decide) (by decide) (Nat.le_of_ble_eq_true rfl) dX2_leastCost_55) (fun H locs hP hD hS => ?_)
        obtain ⟨rfl, rfl⟩ := so2 h
        exact retI C hP hD hS dX2_leastCost_58
      · replace h := ifn c4 h
        refine lv_aload_n hx hb dX2_leastCost_19 rfl (lv_at hl 0 rfl) ?_
        refine gf_RX2_21 C hP dX2_leastCost_20 ?_
        refine lv_iload_n hx hb dX2_leastCost_23 rfl (lv_at hl 2 rfl) ?_
        refine lv_aload_n hx hb dX2_leastCost_24 rfl (lv_at hl 0 rfl) ?_
        refine lv_iload_n hx hb dX2_leastCost_25 rfl (lv_at hl 2 rfl) ?_
        refine lv_iload_n hx hb dX2_leastCost_26 rfl (lv_at hl 1 rfl) ?_
        obtain ⟨r8, h7, h⟩ := bd1_some h
        refine goI C hD hS (runV (As := [.int v2, .int v1]) (rest := [.int v2, .ref (q 20)]) (w := (xW G q σ)) C lc_RX2_58 (ctX2_costOfParting N σ v2 v1 r8 h7 _) hP hD hS (va_recv C.2.2.2.2.2.1 hP (ci := 2) (q0 := 5) rfl rfl) hl.1 rfl rfl (by decide) (by decide) (Nat.le_of_ble_eq_true rfl) dX2_leastCost_27) (fun H locs hP hD hS => ?_)
        obtain ⟨i9, h⟩ := gi_some h
        refine stX_14 C hP hD hS i9 dX2_leastCost_30 (fun H locs hP hD hS => ?_)
        refine lv_iload_n hx hb dX2_leastCost_31 rfl (lv_at hl 2 rfl) ?_
        refine lv_aload_n hx hb dX2_leastCost_32 rfl (lv_at hl 0 rfl) ?_
        refine gf_RX2_31 C hP dX2_leastCost_33 ?_
        refine lv_cv (y := (σ.1 14)) rfl ?_
        refine lv_isub hx hb dX2_leastCost_36 ?_
        refine lv_aload_n hx hb dX2_leastCost_37 rfl (lv_at hl 0 rfl) ?_
        refine gf_RX2_31 C hP dX2_leastCost_38 ?_
        refine lv_cv (y := (σ.1 14)) rfl ?_
        refine lv_iand hx hb dX2_leastCost_41 ?_
        refine lv_istore_n (lv' := [(2, .int ((v2 - (σ.1 14)) &&& (σ.1 14))), (0, .ref (q 5)), (1, .int v1), (3, .int v3)]) hx hb dX2_leastCost_42 rfl hl (by decide) rfl (fun ls hl => ?_)
        refine lv_iinc (v := (v3 + 1)) (lv' := [(3, .int (v3 + 1)), (2, .int ((v2 - (σ.1 14)) &&& (σ.1 14))), (0, .ref (q 5)), (1, .int v1)]) hx hb dX2_leastCost_43 hl (k := 3) rfl (by first | rfl | decide) (by decide) rfl (fun ls hl => ?_)
        refine lv_goto (tgt := 4) hx hb dX2_leastCost_46 (by decide) ?_
        exact ih ((v2 - (σ.1 14)) &&& (σ.1 14)) (v3 + 1) (sA σ 14 v2.toNatClampNeg r8) _ _ _ h hP hD hS (lv_sub hl [2, 3, 1, 0] rfl)

def fX2_leastCost (N : Nat) (σ : St) (a1 : Int32) : Option (Int32 × St) :=
  fX2_leastCost_L4 N a1 N 0 0 σ
set_option maxHeartbeats 4000000 in
set_option maxRecDepth 100000 in
theorem ctX2_leastCost {G : GP} {l : Launch} {q : Nat → Nat} (N : Nat) (σ σ' : St) (a1 : Int32) (r : Int32) (h : fX2_leastCost N σ a1 = some (r, σ')) : CI G l yX2_leastCost cX2_leastCost 4 (some .int) 3 [.ref (q 5), .int a1] (xW G q σ) (xW G q (σ')) r := by
  refine enterI (own := RX2) (by decide) rfl (Nat.le_of_ble_eq_true rfl) ?_
  intro p e s m args below meth c A C hP hD hS ls hl
  obtain ⟨hx, hb, hml, hown, hts, hK, hZ, hA, hlk, hr⟩ := id C
  have hl : lv_has ls 4 [(0, .ref (q 5)), (1, .int a1)] := hl
  rw [fX2_leastCost.eq_1] at h
  refine lv_iconst (v := 0) hx hb dX2_leastCost_0 (by decide) ?_
  refine lv_istore_n (lv' := [(2, .int 0), (0, .ref (q 5)), (1, .int a1)]) hx hb dX2_leastCost_1 rfl hl (by decide) rfl (fun ls hl => ?_)
  refine lv_iconst (v := 0) hx hb dX2_leastCost_2 (by decide) ?_
  refine lv_istore_n (lv' := [(3, .int 0), (2, .int 0), (0, .ref (q 5)), (1, .int a1)]) hx hb dX2_leastCost_3 rfl hl (by decide) rfl (fun ls hl => ?_)
  exact wX2_leastCost_L4 C N a1 r σ' N 0 0 σ _ _ _ h hP hD hS (lv_sub hl [2, 3, 1, 0] rfl)

def fX5_points (N : Nat) (σ : St) : Option Int32 :=
  some (σ.1 8)
set_option maxHeartbeats 4000000 in
set_option maxRecDepth 100000 in
theorem ctX5_points {G : GP} {l : Launch} {q : Nat → Nat} (N : Nat) (σ : St) (r : Int32) (h : fX5_points N σ = some r) : CI G l yX5_points cX5_points 1 (some .int) 0 [.ref (q 3)] (xW G q σ) (xW G q σ) r := by
  refine enterI (own := RX5) (by decide) rfl (Nat.le_of_ble_eq_true rfl) ?_
  intro p e s m args below meth c A C hP hD hS ls hl
  obtain ⟨hx, hb, hml, hown, hts, hK, hZ, hA, hlk, hr⟩ := id C
  have hl : lv_has ls 1 [(0, .ref (q 3))] := hl
  rw [fX5_points.eq_1] at h
  refine lv_aload_n hx hb dX5_points_0 rfl (lv_at hl 0 rfl) ?_
  refine gf_RX5_25 C hP dX5_points_1 ?_
  obtain rfl := so1 h
  exact retI C hP hD hS dX5_points_4

def fX5_changeGang (N : Nat) (σ : St) (a1 : Int32) (a2 : Int32) : Option (Int32 × St) :=
  bd1 (fX6_within N a1 10 999) (fun r2 => (if r2 = 0 then some ((-1), σ) else bd1 (fX6_within N a2 10 999) (fun r5 => (if r5 = 0 then some ((-1), σ) else some (1, (s1 (s1 σ 6 a1) 7 a2))))))
set_option maxHeartbeats 4000000 in
set_option maxRecDepth 100000 in
theorem ctX5_changeGang {G : GP} {l : Launch} {q : Nat → Nat} (N : Nat) (σ σ' : St) (a1 : Int32) (a2 : Int32) (r : Int32) (h : fX5_changeGang N σ a1 a2 = some (r, σ')) : CI G l yX5_changeGang cX5_changeGang 3 (some .int) 1 [.ref (q 3), .int a1, .int a2] (xW G q σ) (xW G q (σ')) r := by
  refine enterI (own := RX5) (by decide) rfl (Nat.le_of_ble_eq_true rfl) ?_
  intro p e s m args below meth c A C hP hD hS ls hl
  obtain ⟨hx, hb, hml, hown, hts, hK, hZ, hA, hlk, hr⟩ := id C
  have hl : lv_has ls 3 [(0, .ref (q 3)), (1, .int a1), (2, .int a2)] := hl
  rw [fX5_changeGang.eq_1] at h
  refine lv_iload_n hx hb dX5_changeGang_0 rfl (lv_at hl 1 rfl) ?_
  refine lv_bipush (v := 10) hx hb dX5_changeGang_1 (by decide) ?_
  refine lv_sipush (v := 999) hx hb dX5_changeGang_3 (by decide) ?_
  obtain ⟨r2, h1, h⟩ := bd1_some h
  refine goI C hD hS (runN (As := [.int a1, .int 10, .int 999]) (rest := []) (w := (xW G q σ)) C lc_RX5_50 C.2.2.2.2.2.2.1.2.2.1.2.2.2.2.1 (ctX6_within (w := (xW G q σ)) N a1 10 999 r2 h1 _) hP hD hS hl.1 rfl rfl (by decide) (by decide) (Nat.le_of_ble_eq_true rfl) dX5_changeGang_6) (fun H locs hP hD hS => ?_)
  refine lv_if_eq (tgt := 24) hx hb dX5_changeGang_9 (by decide) (fun c3 => ?_) (fun c3 => ?_)
  · replace h := ifp c3 h
    refine lv_iconst (v := (-1)) hx hb dX5_changeGang_24 (by decide) ?_
    obtain ⟨rfl, rfl⟩ := so2 h
    exact retI C hP hD hS dX5_changeGang_25
  · replace h := ifn c3 h
    refine lv_iload_n hx hb dX5_changeGang_12 rfl (lv_at hl 2 rfl) ?_
    refine lv_bipush (v := 10) hx hb dX5_changeGang_13 (by decide) ?_
    refine lv_sipush (v := 999) hx hb dX5_changeGang_15 (by decide) ?_
    obtain ⟨r5, h4, h⟩ := bd1_some h
    refine goI C hD hS (runN (As := [.int a2, .int 10, .int 999]) (rest := []) (w := (xW G q σ)) C lc_RX5_50 C.2.2.2.2.2.2.1.2.2.1.2.2.2.2.1 (ctX6_within (w := (xW G q σ)) N a2 10 999 r5 h4 _) hP hD hS hl.1 rfl rfl (by decide) (by decide) (Nat.le_of_ble_eq_true rfl) dX5_changeGang_18) (fun H locs hP hD hS => ?_)
    refine lv_if_ne (tgt := 26) hx hb dX5_changeGang_21 (by decide) (fun c6 => ?_) (fun c6 => ?_)
    · replace h := ifn c6 h
      refine lv_aload_n hx hb dX5_changeGang_26 rfl (lv_at hl 0 rfl) ?_
      refine lv_iload_n hx hb dX5_changeGang_27 rfl (lv_at hl 1 rfl) ?_
      refine pf_RX5_18 C hP hD hS dX5_changeGang_28 (fun H locs hP hD hS => ?_)
      refine lv_aload_n hx hb dX5_changeGang_31 rfl (lv_at hl 0 rfl) ?_
      refine lv_iload_n hx hb dX5_changeGang_32 rfl (lv_at hl 2 rfl) ?_
      refine pf_RX5_22 C hP hD hS dX5_changeGang_33 (fun H locs hP hD hS => ?_)
      refine lv_iconst (v := 1) hx hb dX5_changeGang_36 (by decide) ?_
      obtain ⟨rfl, rfl⟩ := so2 h
      exact retI C hP hD hS dX5_changeGang_37
    · replace h := ifp c6 h
      refine lv_iconst (v := (-1)) hx hb dX5_changeGang_24 (by decide) ?_
      obtain ⟨rfl, rfl⟩ := so2 h
      exact retI C hP hD hS dX5_changeGang_25

def fX5_changePart (N : Nat) (σ : St) (a1 : Int32) (a2 : Int32) : Option (Int32 × St) :=
  bd1 (fX6_within N a1 0 4) (fun r2 => (if r2 = 0 then some ((-1), σ) else gi a1 6 (gi a1 6 (bd1 (fX6_within N a2 (st2 a1.toNatClampNeg) (st3 a1.toNatClampNeg)) (fun r7 => (if r7 = 0 then some ((-1), σ) else gi a1 6 (gi a1 6 (some ((σ.2 4 a1.toNatClampNeg), (sA σ 4 a1.toNatClampNeg a2))))))))))
set_option maxHeartbeats 4000000 in
set_option maxRecDepth 100000 in
theorem ctX5_changePart {G : GP} {l : Launch} {q : Nat → Nat} (N : Nat) (σ σ' : St) (a1 : Int32) (a2 : Int32) (r : Int32) (h : fX5_changePart N σ a1 a2 = some (r, σ')) : CI G l yX5_changePart cX5_changePart 4 (some .int) 1 [.ref (q 3), .int a1, .int a2] (xW G q σ) (xW G q (σ')) r := by
  refine enterI (own := RX5) (by decide) rfl (Nat.le_of_ble_eq_true rfl) ?_
  intro p e s m args below meth c A C hP hD hS ls hl
  obtain ⟨hx, hb, hml, hown, hts, hK, hZ, hA, hlk, hr⟩ := id C
  have hl : lv_has ls 4 [(0, .ref (q 3)), (1, .int a1), (2, .int a2)] := hl
  rw [fX5_changePart.eq_1] at h
  refine lv_iload_n hx hb dX5_changePart_0 rfl (lv_at hl 1 rfl) ?_
  refine lv_iconst (v := 0) hx hb dX5_changePart_1 (by decide) ?_
  refine lv_iconst (v := 4) hx hb dX5_changePart_2 (by decide) ?_
  obtain ⟨r2, h1, h⟩ := bd1_some h
  refine goI C hD hS (runN (As := [.int a1, .int 0, .int 4]) (rest := []) (w := (xW G q σ)) C lc_RX5_50 C.2.2.2.2.2.2.1.2.2.1.2.2.2.2.1 (ctX6_within (w := (xW G q σ)) N a1 0 4 r2 h1 _) hP hD hS hl.1 rfl rfl (by decide) (by decide) (Nat.le_of_ble_eq_true rfl) dX5_changePart_3) (fun H locs hP hD hS => ?_)
  refine lv_if_eq (tgt := 26) hx hb dX5_changePart_6 (by decide) (fun c3 => ?_) (fun c3 => ?_)
  · replace h := ifp c3 h
    refine lv_iconst (v := (-1)) hx hb dX5_changePart_26 (by decide) ?_
    obtain ⟨rfl, rfl⟩ := so2 h
    exact retI C hP hD hS dX5_changePart_27
  · replace h := ifn c3 h
    refine lv_iload_n hx hb dX5_changePart_9 rfl (lv_at hl 2 rfl) ?_
    refine va_getsN hx hb hZ.1.2.2.1.1 hS hown (va_Nw.use rfl hZ.2.1.2.2.1) (fun _ h9 => h9) dX5_changePart_10 ?_
    refine lv_iload_n hx hb dX5_changePart_13 rfl (lv_at hl 1 rfl) ?_
    obtain ⟨i4, h⟩ := gi_some h
    refine va_ti (v := .int (st2 a1.toNatClampNeg)) hx hb hZ.1.2.2.1.2 hS i4 rfl dX5_changePart_14 ?_
    refine va_getsN hx hb hZ.1.2.2.2.1 hS hown (va_Nw.use rfl hZ.2.1.2.2.2.1) (fun _ h9 => h9) dX5_changePart_15 ?_
    refine lv_iload_n hx hb dX5_changePart_18 rfl (lv_at hl 1 rfl) ?_
    obtain ⟨i5, h⟩ := gi_some h
    refine va_ti (v := .int (st3 a1.toNatClampNeg)) hx hb hZ.1.2.2.2.2 hS i5 rfl dX5_changePart_19 ?_
    obtain ⟨r7, h6, h⟩ := bd1_some h
    refine goI C hD hS (runN (As := [.int a2, .int (st2 a1.toNatClampNeg), .int (st3 a1.toNatClampNeg)]) (rest := []) (w := (xW G q σ)) C lc_RX5_50 C.2.2.2.2.2.2.1.2.2.1.2.2.2.2.1 (ctX6_within (w := (xW G q σ)) N a2 (st2 a1.toNatClampNeg) (st3 a1.toNatClampNeg) r7 h6 _) hP hD hS hl.1 rfl rfl (by decide) (by decide) (Nat.le_of_ble_eq_true rfl) dX5_changePart_20) (fun H locs hP hD hS => ?_)
    refine lv_if_ne (tgt := 28) hx hb dX5_changePart_23 (by decide) (fun c8 => ?_) (fun c8 => ?_)
    · replace h := ifn c8 h
      refine lv_aload_n hx hb dX5_changePart_28 rfl (lv_at hl 0 rfl) ?_
      refine gf_RX5_9 C hP dX5_changePart_29 ?_
      refine lv_iload_n hx hb dX5_changePart_32 rfl (lv_at hl 1 rfl) ?_
      obtain ⟨i9, h⟩ := gi_some h
      refine ldX_4 C hP i9 dX5_changePart_33 ?_
      refine lv_istore_n (lv' := [(3, .int (σ.2 4 a1.toNatClampNeg)), (0, .ref (q 3)), (1, .int a1), (2, .int a2)]) hx hb dX5_changePart_34 rfl hl (by decide) rfl (fun ls hl => ?_)
      refine lv_aload_n hx hb dX5_changePart_35 rfl (lv_at hl 1 rfl) ?_
      refine gf_RX5_9 C hP dX5_changePart_36 ?_
      refine lv_iload_n hx hb dX5_changePart_39 rfl (lv_at hl 2 rfl) ?_
      refine lv_iload_n hx hb dX5_changePart_40 rfl (lv_at hl 3 rfl) ?_
      obtain ⟨i10, h⟩ := gi_some h
      refine stX_4 C hP hD hS i10 dX5_changePart_41 (fun H locs hP hD hS => ?_)
      refine lv_iload_n hx hb dX5_changePart_42 rfl (lv_at hl 0 rfl) ?_
      obtain ⟨rfl, rfl⟩ := so2 h
      exact retI C hP hD hS dX5_changePart_43
    · replace h := ifp c8 h
      refine lv_iconst (v := (-1)) hx hb dX5_changePart_26 (by decide) ?_
      obtain ⟨rfl, rfl⟩ := so2 h
      exact retI C hP hD hS dX5_changePart_27

def fX5_signalTuned (N : Nat) (σ : St) (a1 : Int32) : Option Int32 :=
  bd1 (fX5_capacityAt N σ a1) (fun r2 => bd1 (fX5_tunedTo N (σ.2 4 (3 : Int32).toNatClampNeg) (r2 + (σ.2 4 (0 : Int32).toNatClampNeg))) (fun r4 => some r4))
set_option maxHeartbeats 4000000 in
set_option maxRecDepth 100000 in
theorem ctX5_signalTuned {G : GP} {l : Launch} {q : Nat → Nat} (N : Nat) (σ : St) (a1 : Int32) (r : Int32) (h : fX5_signalTuned N σ a1 = some r) : CI G l yX5_signalTuned cX5_signalTuned 2 (some .int) 1 [.ref (q 3), .int a1] (xW G q σ) (xW G q σ) r := by
  refine enterI (own := RX5) (by decide) rfl (Nat.le_of_ble_eq_true rfl) ?_
  intro p e s m args below meth c A C hP hD hS ls hl
  obtain ⟨hx, hb, hml, hown, hts, hK, hZ, hA, hlk, hr⟩ := id C
  have hl : lv_has ls 2 [(0, .ref (q 3)), (1, .int a1)] := hl
  rw [fX5_signalTuned.eq_1] at h
  refine lv_aload_n hx hb dX5_signalTuned_0 rfl (lv_at hl 0 rfl) ?_
  refine gf_RX5_9 C hP dX5_signalTuned_1 ?_
  refine lv_iconst (v := 3) hx hb dX5_signalTuned_4 (by decide) ?_
  refine ldX_4 C hP (vin (by decide)) dX5_signalTuned_5 ?_
  refine lv_aload_n hx hb dX5_signalTuned_6 rfl (lv_at hl 0 rfl) ?_
  refine lv_iload_n hx hb dX5_signalTuned_7 rfl (lv_at hl 1 rfl) ?_
  obtain ⟨r2, h1, h⟩ := bd1_some h
  refine goI C hD hS (runV (As := [.int a1]) (rest := [.int (σ.2 4 (3 : Int32).toNatClampNeg)]) (w := (xW G q σ)) C lc_RX5_64 (ctX5_capacityAt N σ a1 r2 h1 _) hP hD hS (va_recv C.2.2.2.2.2.1 hP (ci := 5) (q0 := 3) rfl rfl) hl.1 rfl rfl (by decide) (by decide) (Nat.le_of_ble_eq_true rfl) dX5_signalTuned_8) (fun H locs hP hD hS => ?_)
  refine lv_aload_n hx hb dX5_signalTuned_11 rfl (lv_at hl 0 rfl) ?_
  refine gf_RX5_9 C hP dX5_signalTuned_12 ?_
  refine lv_iconst (v := 0) hx hb dX5_signalTuned_15 (by decide) ?_
  refine ldX_4 C hP (vin (by decide)) dX5_signalTuned_16 ?_
  refine lv_iadd hx hb dX5_signalTuned_17 ?_
  obtain ⟨r4, h3, h⟩ := bd1_some h
  refine goI C hD hS (runS (As := [.int (σ.2 4 (3 : Int32).toNatClampNeg), .int (r2 + (σ.2 4 (0 : Int32).toNatClampNeg))]) (rest := []) (w := (xW G q σ)) C lc_RX5_71 (ctX5_tunedTo (w := (xW G q σ)) N (σ.2 4 (3 : Int32).toNatClampNeg) (r2 + (σ.2 4 (0 : Int32).toNatClampNeg)) r4 h3 _) hP hD hS hl.1 rfl rfl (by decide) (by decide) (Nat.le_of_ble_eq_true rfl) dX5_signalTuned_18) (fun H locs hP hD hS => ?_)
  obtain rfl := so1 h
  exact retI C hP hD hS dX5_signalTuned_21

def fX5_tunedAt (N : Nat) (σ : St) (a1 : Int32) (a2 : Int32) : Option Int32 :=
  (if a2 = 0 then bd1 (fX5_signalTuned N σ a1) (fun r3 => some r3) else if a2 = 1 then bd1 (fX5_capacityAt N σ a1) (fun r6 => bd1 (fX5_padded N (σ.2 4 (2 : Int32).toNatClampNeg) (r6 + (σ.2 4 (1 : Int32).toNatClampNeg))) (fun r8 => bd1 (fX5_tunedTo N (σ.2 4 (4 : Int32).toNatClampNeg) r8) (fun r10 => some r10))) else if a2 = 2 then bd1 (fX5_capacityAt N σ a1) (fun r13 => some r13) else some (-1))
set_option maxHeartbeats 4000000 in
set_option maxRecDepth 100000 in
theorem ctX5_tunedAt {G : GP} {l : Launch} {q : Nat → Nat} (N : Nat) (σ : St) (a1 : Int32) (a2 : Int32) (r : Int32) (h : fX5_tunedAt N σ a1 a2 = some r) : CI G l yX5_tunedAt cX5_tunedAt 3 (some .int) 2 [.ref (q 3), .int a1, .int a2] (xW G q σ) (xW G q σ) r := by
  refine enterI (own := RX5) (by decide) rfl (Nat.le_of_ble_eq_true rfl) ?_
  intro p e s m args below meth c A C hP hD hS ls hl
  obtain ⟨hx, hb, hml, hown, hts, hK, hZ, hA, hlk, hr⟩ := id C
  have hl : lv_has ls 3 [(0, .ref (q 3)), (1, .int a1), (2, .int a2)] := hl
  rw [fX5_tunedAt.eq_1] at h
  refine lv_iload_n hx hb dX5_tunedAt_0 rfl (lv_at hl 2 rfl) ?_
  by_cases c1 : a2 = 0
  · replace h := ifp c1 h
    refine lv_tableIn (off := 27) (tgt := 28) hx hb dX5_tunedAt_1 (by rw [c1]; decide) (by rw [c1]; decide) (by rw [c1]; rfl) (by decide) ?_
    refine lv_aload_n hx hb dX5_tunedAt_28 rfl (lv_at hl 0 rfl) ?_
    refine lv_iload_n hx hb dX5_tunedAt_29 rfl (lv_at hl 1 rfl) ?_
    obtain ⟨r3, h2, h⟩ := bd1_some h
    refine goI C hD hS (runV (As := [.int a1]) (rest := []) (w := (xW G q σ)) C lc_RX5_60 (ctX5_signalTuned N σ a1 r3 h2 _) hP hD hS (va_recv C.2.2.2.2.2.1 hP (ci := 5) (q0 := 3) rfl rfl) hl.1 rfl rfl (by decide) (by decide) (Nat.le_of_ble_eq_true rfl) dX5_tunedAt_30) (fun H locs hP hD hS => ?_)
    obtain rfl := so1 h
    exact retI C hP hD hS dX5_tunedAt_33
  · replace h := ifn c1 h
    by_cases c4 : a2 = 1
    · replace h := ifp c4 h
      refine lv_tableIn (off := 33) (tgt := 34) hx hb dX5_tunedAt_1 (by rw [c4]; decide) (by rw [c4]; decide) (by rw [c4]; rfl) (by decide) ?_
      refine lv_aload_n hx hb dX5_tunedAt_34 rfl (lv_at hl 0 rfl) ?_
      refine gf_RX5_9 C hP dX5_tunedAt_35 ?_
      refine lv_iconst (v := 4) hx hb dX5_tunedAt_38 (by decide) ?_
      refine ldX_4 C hP (vin (by decide)) dX5_tunedAt_39 ?_
      refine lv_aload_n hx hb dX5_tunedAt_40 rfl (lv_at hl 0 rfl) ?_
      refine gf_RX5_9 C hP dX5_tunedAt_41 ?_
      refine lv_iconst (v := 2) hx hb dX5_tunedAt_44 (by decide) ?_
      refine ldX_4 C hP (vin (by decide)) dX5_tunedAt_45 ?_
      refine lv_aload_n hx hb dX5_tunedAt_46 rfl (lv_at hl 0 rfl) ?_
      refine lv_iload_n hx hb dX5_tunedAt_47 rfl (lv_at hl 1 rfl) ?_
      obtain ⟨r6, h5, h⟩ := bd1_some h
      refine goI C hD hS (runV (As := [.int a1]) (rest := [.int (σ.2 4 (2 : Int32).toNatClampNeg), .int (σ.2 4 (4 : Int32).toNatClampNeg)]) (w := (xW G q σ)) C lc_RX5_64 (ctX5_capacityAt N σ a1 r6 h5 _) hP hD hS (va_recv C.2.2.2.2.2.1 hP (ci := 5) (q0 := 3) rfl rfl) hl.1 rfl rfl (by decide) (by decide) (Nat.le_of_ble_eq_true rfl) dX5_tunedAt_48) (fun H locs hP hD hS => ?_)
      refine lv_aload_n hx hb dX5_tunedAt_51 rfl (lv_at hl 0 rfl) ?_
      refine gf_RX5_9 C hP dX5_tunedAt_52 ?_
      refine lv_iconst (v := 1) hx hb dX5_tunedAt_55 (by decide) ?_
      refine ldX_4 C hP (vin (by decide)) dX5_tunedAt_56 ?_
      refine lv_iadd hx hb dX5_tunedAt_57 ?_
      obtain ⟨r8, h7, h⟩ := bd1_some h
      refine goI C hD hS (runS (As := [.int (σ.2 4 (2 : Int32).toNatClampNeg), .int (r6 + (σ.2 4 (1 : Int32).toNatClampNeg))]) (rest := [.int (σ.2 4 (4 : Int32).toNatClampNeg)]) (w := (xW G q σ)) C lc_RX5_67 (ctX5_padded (w := (xW G q σ)) N (σ.2 4 (2 : Int32).toNatClampNeg) (r6 + (σ.2 4 (1 : Int32).toNatClampNeg)) r8 h7 _) hP hD hS hl.1 rfl rfl (by decide) (by decide) (Nat.le_of_ble_eq_true rfl) dX5_tunedAt_58) (fun H locs hP hD hS => ?_)
      obtain ⟨r10, h9, h⟩ := bd1_some h
      refine goI C hD hS (runS (As := [.int (σ.2 4 (4 : Int32).toNatClampNeg), .int r8]) (rest := []) (w := (xW G q σ)) C lc_RX5_71 (ctX5_tunedTo (w := (xW G q σ)) N (σ.2 4 (4 : Int32).toNatClampNeg) r8 r10 h9 _) hP hD hS hl.1 rfl rfl (by decide) (by decide) (Nat.le_of_ble_eq_true rfl) dX5_tunedAt_61) (fun H locs hP hD hS => ?_)
      obtain rfl := so1 h
      exact retI C hP hD hS dX5_tunedAt_64
    · replace h := ifn c4 h
      by_cases c11 : a2 = 2
      · replace h := ifp c11 h
        refine lv_tableIn (off := 64) (tgt := 65) hx hb dX5_tunedAt_1 (by rw [c11]; decide) (by rw [c11]; decide) (by rw [c11]; rfl) (by decide) ?_
        refine lv_aload_n hx hb dX5_tunedAt_65 rfl (lv_at hl 0 rfl) ?_
        refine lv_iload_n hx hb dX5_tunedAt_66 rfl (lv_at hl 1 rfl) ?_
        obtain ⟨r13, h12, h⟩ := bd1_some h
        refine goI C hD hS (runV (As := [.int a1]) (rest := []) (w := (xW G q σ)) C lc_RX5_64 (ctX5_capacityAt N σ a1 r13 h12 _) hP hD hS (va_recv C.2.2.2.2.2.1 hP (ci := 5) (q0 := 3) rfl rfl) hl.1 rfl rfl (by decide) (by decide) (Nat.le_of_ble_eq_true rfl) dX5_tunedAt_67) (fun H locs hP hD hS => ?_)
        obtain rfl := so1 h
        exact retI C hP hD hS dX5_tunedAt_70
      · replace h := ifn c11 h
        refine lv_tableOut (tgt := 71) hx hb dX5_tunedAt_1 (sw_out 2 (by decide) (fun k hk => by rcases (show k = 0 ∨ k = 1 ∨ k = 2 by omega) with rfl | rfl | rfl <;> assumption)) (by decide) ?_
        refine lv_iconst (v := (-1)) hx hb dX5_tunedAt_71 (by decide) ?_
        obtain rfl := so1 h
        exact retI C hP hD hS dX5_tunedAt_72

def fX6_isPlace (N : Nat) (a1 : Int32) : Option Int32 :=
  bd1 (fX6_within N a1 0 100) (fun r2 => bz r2 (some r2))
set_option maxHeartbeats 4000000 in
set_option maxRecDepth 100000 in
theorem ctX6_isPlace {G : GP} {l : Launch} {w : va_W} (N : Nat) (a1 : Int32) (r : Int32) (h : fX6_isPlace N a1 = some r) : CI G l yX6_isPlace cX6_isPlace 1 (some .boolean) 1 [.int a1] w w r := by
  refine enterI (own := RX6) (by decide) rfl (Nat.le_of_ble_eq_true rfl) ?_
  intro p e s m args below meth c A C hP hD hS ls hl
  obtain ⟨hx, hb, hml, hown, hts, hK, hZ, hA, hlk, hr⟩ := id C
  have hl : lv_has ls 1 [(0, .int a1)] := hl
  rw [fX6_isPlace.eq_1] at h
  refine lv_iload_n hx hb dX6_isPlace_0 rfl (lv_at hl 0 rfl) ?_
  refine lv_iconst (v := 0) hx hb dX6_isPlace_1 (by decide) ?_
  refine lv_bipush (v := 100) hx hb dX6_isPlace_2 (by decide) ?_
  obtain ⟨r2, h1, h⟩ := bd1_some h
  refine goI C hD hS (runS (As := [.int a1, .int 0, .int 100]) (rest := []) (w := w) C lc_RX6_78 (ctX6_within (w := w) N a1 0 100 r2 h1 _) hP hD hS hl.1 rfl rfl (by decide) (by decide) (Nat.le_of_ble_eq_true rfl) dX6_isPlace_4) (fun H locs hP hD hS => ?_)
  obtain ⟨b3, h⟩ := bz_some h
  obtain rfl := so1 h
  exact retZ C hP hD hS b3 dX6_isPlace_7

def fX5_indexOfPoint_L2 (N : Nat) (σ : St) (v1 : Int32) : Nat → Int32 → Option Int32
  | 0, _ => none
  | n + 1, v2 => (if (σ.1 8) ≤ v2 then some (-1) else gi v2 5 ((if (σ.2 5 v2.toNatClampNeg) = v1 then some v2 else fX5_indexOfPoint_L2 N σ v1 n (v2 + 1))))
set_option maxHeartbeats 4000000 in
set_option maxRecDepth 100000 in
theorem wX5_indexOfPoint_L2 {q : Nat → Nat} (C : Cx G p s m args meth c cX5_indexOfPoint 3 (some .int) (Cond.code yX5_indexOfPoint cX5_indexOfPoint 3 (some .int)) RX5 A) (N : Nat) (σ : St) (v1 : Int32) (r : Int32) : ∀ (n : Nat) (v2 : Int32) (H : Heap) (locs : List Loc) (ls : Array Slot), fX5_indexOfPoint_L2 N σ v1 n v2 = some r → va_P G.1 vwCl (xW G q σ) H → va_D A (xW G q σ) → va_S A s.heap H locs → lv_has ls 3 [(0, .ref (q 3)), (1, .int v1), (2, .int v2)] → W p l e (rmD 0) s m args below meth c H locs 0 0 (QI G below args s A (xW G q σ) r) (F0 m 2 ls []) := by
  obtain ⟨hx, hb, hml, hown, hts, hK, hZ, hA, hlk, hr⟩ := id C
  intro n
  induction n with
  | zero =>
    intro v2 H locs ls h
    cases h
  | succ n ih =>
    intro v2 H locs ls h hP hD hS hl
    rw [fX5_indexOfPoint_L2.eq_2] at h
    refine lv_iload_n hx hb dX5_indexOfPoint_2 rfl (lv_at hl 2 rfl) ?_
    refine lv_aload_n hx hb dX5_indexOfPoint_3 rfl (lv_at hl 0 rfl) ?_
    refine gf_RX5_25 C hP dX5_indexOfPoint_4 ?_
    refine lv_icmp_ge (tgt := 28) hx hb dX5_indexOfPoint_7 (by decide) (fun c1 => ?_) (fun c1 => ?_)
    · replace h := ifp c1 h
      refine lv_iconst (v := (-1)) hx hb dX5_indexOfPoint_28 (by decide) ?_
      obtain rfl := so1 h
      exact retI C hP hD hS dX5_indexOfPoint_29
    · replace h := ifn c1 h
      refine lv_aload_n hx hb dX5_indexOfPoint_10 rfl (lv_at hl 0 rfl) ?_
      refine gf_RX5_15 C hP dX5_indexOfPoint_11 ?_
      refine lv_iload_n hx hb dX5_indexOfPoint_14 rfl (lv_at hl 2 rfl) ?_
      obtain ⟨i2, h⟩ := gi_some h
      refine ldX_5 C hP i2 dX5_indexOfPoint_15 ?_
      refine lv_iload_n hx hb dX5_indexOfPoint_16 rfl (lv_at hl 1 rfl) ?_
      refine lv_icmp_ne (tgt := 22) hx hb dX5_indexOfPoint_17 (by decide) (fun c3 => ?_) (fun c3 => ?_)
      · replace h := ifn c3 h
        refine lv_iinc (v := (v2 + 1)) (lv' := [(2, .int (v2 + 1)), (0, .ref (q 3)), (1, .int v1)]) hx hb dX5_indexOfPoint_22 hl (k := 2) rfl (by first | rfl | decide) (by decide) rfl (fun ls hl => ?_)
        refine lv_goto (tgt := 2) hx hb dX5_indexOfPoint_25 (by decide) ?_
        exact ih (v2 + 1) _ _ _ h hP hD hS (lv_sub hl [1, 2, 0] rfl)
      · replace h := ifp c3 h
        refine lv_iload_n hx hb dX5_indexOfPoint_20 rfl (lv_at hl 2 rfl) ?_
        obtain rfl := so1 h
        exact retI C hP hD hS dX5_indexOfPoint_21

def fX5_indexOfPoint (N : Nat) (σ : St) (a1 : Int32) : Option Int32 :=
  fX5_indexOfPoint_L2 N σ a1 N 0
set_option maxHeartbeats 4000000 in
set_option maxRecDepth 100000 in
theorem ctX5_indexOfPoint {G : GP} {l : Launch} {q : Nat → Nat} (N : Nat) (σ : St) (a1 : Int32) (r : Int32) (h : fX5_indexOfPoint N σ a1 = some r) : CI G l yX5_indexOfPoint cX5_indexOfPoint 3 (some .int) 0 [.ref (q 3), .int a1] (xW G q σ) (xW G q σ) r := by
  refine enterI (own := RX5) (by decide) rfl (Nat.le_of_ble_eq_true rfl) ?_
  intro p e s m args below meth c A C hP hD hS ls hl
  obtain ⟨hx, hb, hml, hown, hts, hK, hZ, hA, hlk, hr⟩ := id C
  have hl : lv_has ls 3 [(0, .ref (q 3)), (1, .int a1)] := hl
  rw [fX5_indexOfPoint.eq_1] at h
  refine lv_iconst (v := 0) hx hb dX5_indexOfPoint_0 (by decide) ?_
  refine lv_istore_n (lv' := [(2, .int 0), (0, .ref (q 3)), (1, .int a1)]) hx hb dX5_indexOfPoint_1 rfl hl (by decide) rfl (fun ls hl => ?_)
  exact wX5_indexOfPoint_L2 C N σ a1 r N 0 _ _ _ h hP hD hS (lv_sub hl [1, 2, 0] rfl)

def fX5_changePoint (N : Nat) (σ : St) (a1 : Int32) (a2 : Int32) : Option (Int32 × St) :=
  bd1 (fX6_isPlace N a1) (fun r2 => (if r2 = 0 then some ((-1), σ) else bd1 (fX6_within N a2 0 1) (fun r5 => (if r5 = 0 then some ((-1), σ) else bd1 (fX5_indexOfPoint N σ a1) (fun r8 => (if r8 = (-1) then (if a2 = 0 then some (0, σ) else (if a2 = 1 then (if (σ.1 8) < 5 then gi (σ.1 8) 5 (some (0, (s1 (sA σ 5 (σ.1 8).toNatClampNeg a1) 8 ((σ.1 8) + 1)))) else some ((-2), σ)) else gi ((σ.1 8) - 1) 5 (gi r8 5 (some (0, (sA (s1 σ 8 ((σ.1 8) - 1)) 5 r8.toNatClampNeg (σ.2 5 ((σ.1 8) - 1).toNatClampNeg))))))) else (if a2 = 1 then some (1, σ) else (if a2 = 1 then (if (σ.1 8) < 5 then gi (σ.1 8) 5 (some (1, (s1 (sA σ 5 (σ.1 8).toNatClampNeg a1) 8 ((σ.1 8) + 1)))) else some ((-2), σ)) else gi ((σ.1 8) - 1) 5 (gi r8 5 (some (1, (sA (s1 σ 8 ((σ.1 8) - 1)) 5 r8.toNatClampNeg (σ.2 5 ((σ.1 8) - 1).toNatClampNeg)))))))))))))
set_option maxHeartbeats 4000000 in
set_option maxRecDepth 100000 in
theorem ctX5_changePoint {G : GP} {l : Launch} {q : Nat → Nat} (N : Nat) (σ σ' : St) (a1 : Int32) (a2 : Int32) (r : Int32) (h : fX5_changePoint N σ a1 a2 = some (r, σ')) : CI G l yX5_changePoint cX5_changePoint 5 (some .int) 2 [.ref (q 3), .int a1, .int a2] (xW G q σ) (xW G q (σ')) r := by
  refine enterI (own := RX5) (by decide) rfl (Nat.le_of_ble_eq_true rfl) ?_
  intro p e s m args below meth c A C hP hD hS ls hl
  obtain ⟨hx, hb, hml, hown, hts, hK, hZ, hA, hlk, hr⟩ := id C
  have hl : lv_has ls 5 [(0, .ref (q 3)), (1, .int a1), (2, .int a2)] := hl
  rw [fX5_changePoint.eq_1] at h
  refine lv_iload_n hx hb dX5_changePoint_0 rfl (lv_at hl 1 rfl) ?_
  obtain ⟨r2, h1, h⟩ := bd1_some h
  refine goI C hD hS (runN (As := [.int a1]) (rest := []) (w := (xW G q σ)) C lc_RX5_87 C.2.2.2.2.2.2.1.2.2.1.2.2.2.2.2.1 (ctX6_isPlace (w := (xW G q σ)) N a1 r2 h1 _) hP hD hS hl.1 rfl rfl (by decide) (by decide) (Nat.le_of_ble_eq_true rfl) dX5_changePoint_1) (fun H locs hP hD hS => ?_)
  refine lv_if_eq (tgt := 16) hx hb dX5_changePoint_4 (by decide) (fun c3 => ?_) (fun c3 => ?_)
  · replace h := ifp c3 h
    refine lv_iconst (v := (-1)) hx hb dX5_changePoint_16 (by decide) ?_
    obtain ⟨rfl, rfl⟩ := so2 h
    exact retI C hP hD hS dX5_changePoint_17
  · replace h := ifn c3 h
    refine lv_iload_n hx hb dX5_changePoint_7 rfl (lv_at hl 2 rfl) ?_
    refine lv_iconst (v := 0) hx hb dX5_changePoint_8 (by decide) ?_
    refine lv_iconst (v := 1) hx hb dX5_changePoint_9 (by decide) ?_
    obtain ⟨r5, h4, h⟩ := bd1_some h
    refine goI C hD hS (runN (As := [.int a2, .int 0, .int 1]) (rest := []) (w := (xW G q σ)) C lc_RX5_50 C.2.2.2.2.2.2.1.2.2.1.2.2.2.2.1 (ctX6_within (w := (xW G q σ)) N a2 0 1 r5 h4 _) hP hD hS hl.1 rfl rfl (by decide) (by decide) (Nat.le_of_ble_eq_true rfl) dX5_changePoint_10) (fun H locs hP hD hS => ?_)
    refine lv_if_ne (tgt := 18) hx hb dX5_changePoint_13 (by decide) (fun c6 => ?_) (fun c6 => ?_)
    · replace h := ifn c6 h
      refine lv_aload_n hx hb dX5_changePoint_18 rfl (lv_at hl 0 rfl) ?_
      refine lv_iload_n hx hb dX5_changePoint_19 rfl (lv_at hl 1 rfl) ?_
      obtain ⟨r8, h7, h⟩ := bd1_some h
      refine goI C hD hS (runV (As := [.int a1]) (rest := []) (w := (xW G q σ)) C lc_RX5_91 (ctX5_indexOfPoint N σ a1 r8 h7 _) hP hD hS (va_recv C.2.2.2.2.2.1 hP (ci := 5) (q0 := 3) rfl rfl) hl.1 rfl rfl (by decide) (by decide) (Nat.le_of_ble_eq_true rfl) dX5_changePoint_20) (fun H locs hP hD hS => ?_)
      refine lv_istore_n (lv' := [(3, .int r8), (0, .ref (q 3)), (1, .int a1), (2, .int a2)]) hx hb dX5_changePoint_23 rfl hl (by decide) rfl (fun ls hl => ?_)
      refine lv_iload_n hx hb dX5_changePoint_24 rfl (lv_at hl 0 rfl) ?_
      refine lv_iconst (v := (-1)) hx hb dX5_changePoint_25 (by decide) ?_
      refine lv_icmp_ne (tgt := 33) hx hb dX5_changePoint_26 (by decide) (fun c9 => ?_) (fun c9 => ?_)
      · replace h := ifn c9 h
        refine lv_iconst (v := 1) hx hb dX5_changePoint_33 (by decide) ?_
        refine lv_istore (lv' := [(4, .int 1), (3, .int r8), (0, .ref (q 3)), (1, .int a1), (2, .int a2)]) hx hb dX5_changePoint_34 hl (by decide) rfl (fun ls hl => ?_)
        refine lv_iload_n hx hb dX5_changePoint_36 rfl (lv_at hl 4 rfl) ?_
        refine lv_iload hx hb dX5_changePoint_37 (lv_at hl 0 rfl) ?_
        refine lv_icmp_ne (tgt := 45) hx hb dX5_changePoint_39 (by decide) (fun c10 => ?_) (fun c10 => ?_)
        · replace h := ifn c10 h
          refine lv_iload_n hx hb dX5_changePoint_45 rfl (lv_at hl 4 rfl) ?_
          refine lv_iconst (v := 1) hx hb dX5_changePoint_46 (by decide) ?_
          refine lv_icmp_ne (tgt := 84) hx hb dX5_changePoint_47 (by decide) (fun c11 => ?_) (fun c11 => ?_)
          · replace h := ifn c11 h
            refine lv_aload_n hx hb dX5_changePoint_84 rfl (lv_at hl 2 rfl) ?_
            refine lv_dup hx hb dX5_changePoint_85 rfl ?_
            refine gf_RX5_25 C hP dX5_changePoint_86 ?_
            refine lv_iconst (v := 1) hx hb dX5_changePoint_89 (by decide) ?_
            refine lv_isub hx hb dX5_changePoint_90 ?_
            refine pf_RX5_25 C hP hD hS dX5_changePoint_91 (fun H locs hP hD hS => ?_)
            refine lv_aload_n hx hb dX5_changePoint_94 rfl (lv_at hl 2 rfl) ?_
            refine gf_RX5_15 C hP dX5_changePoint_95 ?_
            refine lv_iload_n hx hb dX5_changePoint_98 rfl (lv_at hl 1 rfl) ?_
            refine lv_aload_n hx hb dX5_changePoint_99 rfl (lv_at hl 2 rfl) ?_
            refine gf_RX5_15 C hP dX5_changePoint_100 ?_
            refine lv_aload_n hx hb dX5_changePoint_103 rfl (lv_at hl 2 rfl) ?_
            refine gf_RX5_25 C hP dX5_changePoint_104 ?_
            refine lv_cv (y := ((σ.1 8) - 1)) rfl ?_
            obtain ⟨i12, h⟩ := gi_some h
            refine ldX_5 C hP i12 dX5_changePoint_107 ?_
            refine lv_cv (y := (σ.2 5 ((σ.1 8) - 1).toNatClampNeg)) rfl ?_
            obtain ⟨i13, h⟩ := gi_some h
            refine stX_5 C hP hD hS i13 dX5_changePoint_108 (fun H locs hP hD hS => ?_)
            refine lv_iload hx hb dX5_changePoint_109 (lv_at hl 0 rfl) ?_
            obtain ⟨rfl, rfl⟩ := so2 h
            exact retI C hP hD hS dX5_changePoint_111
          · replace h := ifp c11 h
            refine lv_aload_n hx hb dX5_changePoint_50 rfl (lv_at hl 2 rfl) ?_
            refine gf_RX5_25 C hP dX5_changePoint_51 ?_
            refine lv_iconst (v := 5) hx hb dX5_changePoint_54 (by decide) ?_
            refine lv_icmp_lt (tgt := 61) hx hb dX5_changePoint_55 (by decide) (fun c14 => ?_) (fun c14 => ?_)
            · replace h := ifp c14 h
              refine lv_aload_n hx hb dX5_changePoint_61 rfl (lv_at hl 2 rfl) ?_
              refine gf_RX5_15 C hP dX5_changePoint_62 ?_
              refine lv_aload_n hx hb dX5_changePoint_65 rfl (lv_at hl 2 rfl) ?_
              refine gf_RX5_25 C hP dX5_changePoint_66 ?_
              refine lv_iload_n hx hb dX5_changePoint_69 rfl (lv_at hl 3 rfl) ?_
              obtain ⟨i15, h⟩ := gi_some h
              refine stX_5 C hP hD hS i15 dX5_changePoint_70 (fun H locs hP hD hS => ?_)
              refine lv_aload_n hx hb dX5_changePoint_71 rfl (lv_at hl 2 rfl) ?_
              refine lv_dup hx hb dX5_changePoint_72 rfl ?_
              refine gf_RX5_25 C hP dX5_changePoint_73 ?_
              refine lv_cv (y := (σ.1 8)) rfl ?_
              refine lv_iconst (v := 1) hx hb dX5_changePoint_76 (by decide) ?_
              refine lv_iadd hx hb dX5_changePoint_77 ?_
              refine pf_RX5_25 C hP hD hS dX5_changePoint_78 (fun H locs hP hD hS => ?_)
              refine lv_goto (tgt := 109) hx hb dX5_changePoint_81 (by decide) ?_
              refine lv_iload hx hb dX5_changePoint_109 (lv_at hl 0 rfl) ?_
              obtain ⟨rfl, rfl⟩ := so2 h
              exact retI C hP hD hS dX5_changePoint_111
            · replace h := ifn c14 h
              refine lv_bipush (v := (-2)) hx hb dX5_changePoint_58 (by decide) ?_
              obtain ⟨rfl, rfl⟩ := so2 h
              exact retI C hP hD hS dX5_changePoint_60
        · replace h := ifp c10 h
          refine lv_iload hx hb dX5_changePoint_42 (lv_at hl 0 rfl) ?_
          obtain ⟨rfl, rfl⟩ := so2 h
          exact retI C hP hD hS dX5_changePoint_44
      · replace h := ifp c9 h
        refine lv_iconst (v := 0) hx hb dX5_changePoint_29 (by decide) ?_
        refine lv_goto (tgt := 34) hx hb dX5_changePoint_30 (by decide) ?_
        refine lv_istore (lv' := [(4, .int 0), (3, .int r8), (0, .ref (q 3)), (1, .int a1), (2, .int a2)]) hx hb dX5_changePoint_34 hl (by decide) rfl (fun ls hl => ?_)
        refine lv_iload_n hx hb dX5_changePoint_36 rfl (lv_at hl 4 rfl) ?_
        refine lv_iload hx hb dX5_changePoint_37 (lv_at hl 0 rfl) ?_
        refine lv_icmp_ne (tgt := 45) hx hb dX5_changePoint_39 (by decide) (fun c16 => ?_) (fun c16 => ?_)
        · replace h := ifn c16 h
          refine lv_iload_n hx hb dX5_changePoint_45 rfl (lv_at hl 4 rfl) ?_
          refine lv_iconst (v := 1) hx hb dX5_changePoint_46 (by decide) ?_
          refine lv_icmp_ne (tgt := 84) hx hb dX5_changePoint_47 (by decide) (fun c17 => ?_) (fun c17 => ?_)
          · replace h := ifn c17 h
            refine lv_aload_n hx hb dX5_changePoint_84 rfl (lv_at hl 2 rfl) ?_
            refine lv_dup hx hb dX5_changePoint_85 rfl ?_
            refine gf_RX5_25 C hP dX5_changePoint_86 ?_
            refine lv_iconst (v := 1) hx hb dX5_changePoint_89 (by decide) ?_
            refine lv_isub hx hb dX5_changePoint_90 ?_
            refine pf_RX5_25 C hP hD hS dX5_changePoint_91 (fun H locs hP hD hS => ?_)
            refine lv_aload_n hx hb dX5_changePoint_94 rfl (lv_at hl 2 rfl) ?_
            refine gf_RX5_15 C hP dX5_changePoint_95 ?_
            refine lv_iload_n hx hb dX5_changePoint_98 rfl (lv_at hl 1 rfl) ?_
            refine lv_aload_n hx hb dX5_changePoint_99 rfl (lv_at hl 2 rfl) ?_
            refine gf_RX5_15 C hP dX5_changePoint_100 ?_
            refine lv_aload_n hx hb dX5_changePoint_103 rfl (lv_at hl 2 rfl) ?_
            refine gf_RX5_25 C hP dX5_changePoint_104 ?_
            refine lv_cv (y := ((σ.1 8) - 1)) rfl ?_
            obtain ⟨i18, h⟩ := gi_some h
            refine ldX_5 C hP i18 dX5_changePoint_107 ?_
            refine lv_cv (y := (σ.2 5 ((σ.1 8) - 1).toNatClampNeg)) rfl ?_
            obtain ⟨i19, h⟩ := gi_some h
            refine stX_5 C hP hD hS i19 dX5_changePoint_108 (fun H locs hP hD hS => ?_)
            refine lv_iload hx hb dX5_changePoint_109 (lv_at hl 0 rfl) ?_
            obtain ⟨rfl, rfl⟩ := so2 h
            exact retI C hP hD hS dX5_changePoint_111
          · replace h := ifp c17 h
            refine lv_aload_n hx hb dX5_changePoint_50 rfl (lv_at hl 2 rfl) ?_
            refine gf_RX5_25 C hP dX5_changePoint_51 ?_
            refine lv_iconst (v := 5) hx hb dX5_changePoint_54 (by decide) ?_
            refine lv_icmp_lt (tgt := 61) hx hb dX5_changePoint_55 (by decide) (fun c20 => ?_) (fun c20 => ?_)
            · replace h := ifp c20 h
              refine lv_aload_n hx hb dX5_changePoint_61 rfl (lv_at hl 2 rfl) ?_
              refine gf_RX5_15 C hP dX5_changePoint_62 ?_
              refine lv_aload_n hx hb dX5_changePoint_65 rfl (lv_at hl 2 rfl) ?_
              refine gf_RX5_25 C hP dX5_changePoint_66 ?_
              refine lv_iload_n hx hb dX5_changePoint_69 rfl (lv_at hl 3 rfl) ?_
              obtain ⟨i21, h⟩ := gi_some h
              refine stX_5 C hP hD hS i21 dX5_changePoint_70 (fun H locs hP hD hS => ?_)
              refine lv_aload_n hx hb dX5_changePoint_71 rfl (lv_at hl 2 rfl) ?_
              refine lv_dup hx hb dX5_changePoint_72 rfl ?_
              refine gf_RX5_25 C hP dX5_changePoint_73 ?_
              refine lv_cv (y := (σ.1 8)) rfl ?_
              refine lv_iconst (v := 1) hx hb dX5_changePoint_76 (by decide) ?_
              refine lv_iadd hx hb dX5_changePoint_77 ?_
              refine pf_RX5_25 C hP hD hS dX5_changePoint_78 (fun H locs hP hD hS => ?_)
              refine lv_goto (tgt := 109) hx hb dX5_changePoint_81 (by decide) ?_
              refine lv_iload hx hb dX5_changePoint_109 (lv_at hl 0 rfl) ?_
              obtain ⟨rfl, rfl⟩ := so2 h
              exact retI C hP hD hS dX5_changePoint_111
            · replace h := ifn c20 h
              refine lv_bipush (v := (-2)) hx hb dX5_changePoint_58 (by decide) ?_
              obtain ⟨rfl, rfl⟩ := so2 h
              exact retI C hP hD hS dX5_changePoint_60
        · replace h := ifp c16 h
          refine lv_iload hx hb dX5_changePoint_42 (lv_at hl 0 rfl) ?_
          obtain ⟨rfl, rfl⟩ := so2 h
          exact retI C hP hD hS dX5_changePoint_44
    · replace h := ifp c6 h
      refine lv_iconst (v := (-1)) hx hb dX5_changePoint_16 (by decide) ?_
      obtain ⟨rfl, rfl⟩ := so2 h
      exact retI C hP hD hS dX5_changePoint_17

def fX5_prepareTrim_L96 (N : Nat) (v2 : Int32) : Nat → Int32 → St → Option (St)
  | 0, _, _ => none
  | n + 1, v3, σ => (if 1098 < v3 then some σ else bd1 (fX5_tunedTo N v2 v3) (fun r10 => gi v3 1099 (fX5_prepareTrim_L96 N v2 n (v3 + 1) (sA σ 8 v3.toNatClampNeg r10))))
set_option maxHeartbeats 4000000 in
set_option maxRecDepth 100000 in
theorem wX5_prepareTrim_L96 {q : Nat → Nat} (C : Cx G p s m args meth c cX5_prepareTrim 4 none (Cond.code yX5_prepareTrim cX5_prepareTrim 4 none) RX5 A) (N : Nat) (v2 : Int32)  (σ' : St) (K : ∀ H locs ls, va_P G.1 vwCl (xW G q (σ')) H → va_D A (xW G q (σ')) → va_S A s.heap H locs → lv_has ls 4 [(0, .ref (q 3)), (2, .int v2)] → W p l e (rmD 2) s m args below meth c H locs 0 0 Q (F0 m 120 ls [])) : ∀ (n : Nat) (v3 : Int32) (σ : St) (H : Heap) (locs : List Loc) (ls : Array Slot), fX5_prepareTrim_L96 N v2 n v3 σ = some σ' → va_P G.1 vwCl (xW G q σ) H → va_D A (xW G q σ) → va_S A s.heap H locs → lv_has ls 4 [(0, .ref (q 3)), (2, .int v2), (3, .int v3)] → W p l e (rmD 2) s m args below meth c H locs 0 0 Q (F0 m 96 ls []) := by
  obtain ⟨hx, hb, hml, hown, hts, hK, hZ, hA, hlk, hr⟩ := id C
  intro n
  induction n with
  | zero =>
    intro v3 σ H locs ls h
    cases h
  | succ n ih =>
    intro v3 σ H locs ls h hP hD hS hl
    rw [fX5_prepareTrim_L96.eq_2] at h
    refine lv_iload_n hx hb dX5_prepareTrim_96 rfl (lv_at hl 2 rfl) ?_
    refine lv_sipush (v := 1098) hx hb dX5_prepareTrim_97 (by decide) ?_
    refine lv_icmp_gt (tgt := 120) hx hb dX5_prepareTrim_100 (by decide) (fun c8 => ?_) (fun c8 => ?_)
    · replace h := ifp c8 h
      obtain rfl := so1 h
      exact K _ _ _ hP hD hS (lv_sub hl [0, 1] rfl)
    · replace h := ifn c8 h
      refine lv_aload_n hx hb dX5_prepareTrim_103 rfl (lv_at hl 0 rfl) ?_
      refine gf_RX5_34 C hP dX5_prepareTrim_104 ?_
      refine lv_iload_n hx hb dX5_prepareTrim_107 rfl (lv_at hl 2 rfl) ?_
      refine lv_iload_n hx hb dX5_prepareTrim_108 rfl (lv_at hl 1 rfl) ?_
      refine lv_iload_n hx hb dX5_prepareTrim_109 rfl (lv_at hl 2 rfl) ?_
      obtain ⟨r10, h9, h⟩ := bd1_some h
      refine goI C hD hS (runS (As := [.int v2, .int v3]) (rest := [.int v3, .ref (q 14)]) (w := (xW G q σ)) C lc_RX5_71 (ctX5_tunedTo (w := (xW G q σ)) N v2 v3 r10 h9 _) hP hD hS hl.1 rfl rfl (by decide) (by decide) (Nat.le_of_ble_eq_true rfl) dX5_prepareTrim_110) (fun H locs hP hD hS => ?_)
      obtain ⟨i11, h⟩ := gi_some h
      refine stX_8 C hP hD hS i11 dX5_prepareTrim_113 (fun H locs hP hD hS => ?_)
      refine lv_iinc (v := (v3 + 1)) (lv' := [(3, .int (v3 + 1)), (0, .ref (q 3)), (2, .int v2)]) hx hb dX5_prepareTrim_114 hl (k := 2) rfl (by first | rfl | decide) (by decide) rfl (fun ls hl => ?_)
      refine lv_goto (tgt := 96) hx hb dX5_prepareTrim_117 (by decide) ?_
      exact ih (v3 + 1) (sA σ 8 v3.toNatClampNeg r10) _ _ _ h hP hD hS (lv_sub hl [1, 2, 0] rfl)

def fX5_prepareTrim_L31 (N : Nat) (v1 : Int32) : Nat → Int32 → St → Option St
  | 0, _, _ => none
  | n + 1, v2, σ => (if (σ.1 8) ≤ v2 then (if (σ.1 9) = (σ.2 4 (4 : Int32).toNatClampNeg) then some σ else bd1 (fX5_prepareTrim_L96 N (σ.2 4 (4 : Int32).toNatClampNeg) N 1 σ) (fun σ12 => some (s1 σ12 9 (σ.2 4 (4 : Int32).toNatClampNeg)))) else gi v2 5 (bd1 (fX5_capacityAt N σ (σ.2 5 v2.toNatClampNeg)) (fun r16 => gi v2 5 (gi v2 5 (bd1 (fX5_signalTuned N (sA σ 6 v2.toNatClampNeg r16) (σ.2 5 v2.toNatClampNeg)) (fun r20 => gi v2 5 (fX5_prepareTrim_L31 N v1 n (v2 + 1) (sA (sA σ 6 v2.toNatClampNeg r16) 7 v2.toNatClampNeg (r20 + v1)))))))))
set_option maxHeartbeats 4000000 in
set_option maxRecDepth 100000 in
theorem wX5_prepareTrim_L31 {q : Nat → Nat} (C : Cx G p s m args meth c cX5_prepareTrim 4 none (Cond.code yX5_prepareTrim cX5_prepareTrim 4 none) RX5 A) (N : Nat) (v1 : Int32) (σ' : St) : ∀ (n : Nat) (v2 : Int32) (σ : St) (H : Heap) (locs : List Loc) (ls : Array Slot), fX5_prepareTrim_L31 N v1 n v2 σ = some σ' → va_P G.1 vwCl (xW G q σ) H → va_D A (xW G q σ) → va_S A s.heap H locs → lv_has ls 4 [(0, .ref (q 3)), (1, .int v1), (2, .int v2)] → W p l e (rmD 2) s m args below meth c H locs 0 0 (QV G below args s A (xW G q (σ'))) (F0 m 31 ls []) := by
  obtain ⟨hx, hb, hml, hown, hts, hK, hZ, hA, hlk, hr⟩ := id C
  intro n
  induction n with
  | zero =>
    intro v2 σ H locs ls h
    cases h
  | succ n ih =>
    intro v2 σ H locs ls h hP hD hS hl
    rw [fX5_prepareTrim_L31.eq_2] at h
    refine lv_iload_n hx hb dX5_prepareTrim_31 rfl (lv_at hl 2 rfl) ?_
    refine lv_aload_n hx hb dX5_prepareTrim_32 rfl (lv_at hl 0 rfl) ?_
    refine gf_RX5_25 C hP dX5_prepareTrim_33 ?_
    refine lv_icmp_ge (tgt := 79) hx hb dX5_prepareTrim_36 (by decide) (fun c6 => ?_) (fun c6 => ?_)
    · replace h := ifp c6 h
      refine lv_aload_n hx hb dX5_prepareTrim_79 rfl (lv_at hl 0 rfl) ?_
      refine gf_RX5_9 C hP dX5_prepareTrim_80 ?_
      refine lv_iconst (v := 4) hx hb dX5_prepareTrim_83 (by decide) ?_
      refine ldX_4 C hP (vin (by decide)) dX5_prepareTrim_84 ?_
      refine lv_istore_n (lv' := [(2, .int (σ.2 4 (4 : Int32).toNatClampNeg)), (0, .ref (q 3)), (1, .int v1)]) hx hb dX5_prepareTrim_85 rfl hl (by decide) rfl (fun ls hl => ?_)
      refine lv_aload_n hx hb dX5_prepareTrim_86 rfl (lv_at hl 1 rfl) ?_
      refine gf_RX5_37 C hP dX5_prepareTrim_87 ?_
      refine lv_iload_n hx hb dX5_prepareTrim_90 rfl (lv_at hl 0 rfl) ?_
      refine lv_icmp_eq (tgt := 125) hx hb dX5_prepareTrim_91 (by decide) (fun c7 => ?_) (fun c7 => ?_)
      · replace h := ifp c7 h
        obtain rfl := so1 h
        exact retV C hP hD hS dX5_prepareTrim_125
      · replace h := ifn c7 h
        refine lv_iconst (v := 1) hx hb dX5_prepareTrim_94 (by decide) ?_
        refine lv_istore_n (lv' := [(3, .int 1), (2, .int (σ.2 4 (4 : Int32).toNatClampNeg)), (0, .ref (q 3)), (1, .int v1)]) hx hb dX5_prepareTrim_95 rfl hl (by decide) rfl (fun ls hl => ?_)
        obtain ⟨σ12, h13, h⟩ := bd1_some h
        refine wX5_prepareTrim_L96 C N (σ.2 4 (4 : Int32).toNatClampNeg) σ12 (fun H locs ls hP hD hS hl => ?_) N 1 σ _ _ _ h13 hP hD hS (lv_sub hl [2, 1, 0] rfl)
        refine lv_aload_n hx hb dX5_prepareTrim_120 rfl (lv_at hl 0 rfl) ?_
        refine lv_iload_n hx hb dX5_prepareTrim_121 rfl (lv_at hl 1 rfl) ?_
        refine pf_RX5_37 C hP hD hS dX5_prepareTrim_122 (fun H locs hP hD hS => ?_)
        obtain rfl := so1 h
        exact retV C hP hD hS dX5_prepareTrim_125
    · replace h := ifn c6 h
      refine lv_aload_n hx hb dX5_prepareTrim_39 rfl (lv_at hl 0 rfl) ?_
      refine gf_RX5_28 C hP dX5_prepareTrim_40 ?_
      refine lv_iload_n hx hb dX5_prepareTrim_43 rfl (lv_at hl 2 rfl) ?_
      refine lv_aload_n hx hb dX5_prepareTrim_44 rfl (lv_at hl 0 rfl) ?_
      refine lv_aload_n hx hb dX5_prepareTrim_45 rfl (lv_at hl 0 rfl) ?_
      refine gf_RX5_15 C hP dX5_prepareTrim_46 ?_
      refine lv_iload_n hx hb dX5_prepareTrim_49 rfl (lv_at hl 2 rfl) ?_
      obtain ⟨i14, h⟩ := gi_some h
      refine ldX_5 C hP i14 dX5_prepareTrim_50 ?_
      obtain ⟨r16, h15, h⟩ := bd1_some h
      refine goI C hD hS (runV (As := [.int (σ.2 5 v2.toNatClampNeg)]) (rest := [.int v2, .ref (q 12)]) (w := (xW G q σ)) C lc_RX5_64 (ctX5_capacityAt N σ (σ.2 5 v2.toNatClampNeg) r16 h15 _) hP hD hS (va_recv C.2.2.2.2.2.1 hP (ci := 5) (q0 := 3) rfl rfl) hl.1 rfl rfl (by decide) (by decide) (Nat.le_of_ble_eq_true rfl) dX5_prepareTrim_51) (fun H locs hP hD hS => ?_)
      obtain ⟨i17, h⟩ := gi_some h
      refine stX_6 C hP hD hS i17 dX5_prepareTrim_54 (fun H locs hP hD hS => ?_)
      refine lv_aload_n hx hb dX5_prepareTrim_55 rfl (lv_at hl 0 rfl) ?_
      refine gf_RX5_31 C hP dX5_prepareTrim_56 ?_
      refine lv_iload_n hx hb dX5_prepareTrim_59 rfl (lv_at hl 2 rfl) ?_
      refine lv_aload_n hx hb dX5_prepareTrim_60 rfl (lv_at hl 0 rfl) ?_
      refine lv_aload_n hx hb dX5_prepareTrim_61 rfl (lv_at hl 0 rfl) ?_
      refine gf_RX5_15 C hP dX5_prepareTrim_62 ?_
      refine lv_iload_n hx hb dX5_prepareTrim_65 rfl (lv_at hl 2 rfl) ?_
      obtain ⟨i18, h⟩ := gi_some h
      refine ldX_5 C hP i18 dX5_prepareTrim_66 ?_
      refine lv_cv (y := (σ.2 5 v2.toNatClampNeg)) rfl ?_
      obtain ⟨r20, h19, h⟩ := bd1_some h
      refine goI C hD hS (runV (As := [.int (σ.2 5 v2.toNatClampNeg)]) (rest := [.int v2, .ref (q 13)]) (w := (xW G q (sA σ 6 v2.toNatClampNeg r16))) C lc_RX5_60 (ctX5_signalTuned N (sA σ 6 v2.toNatClampNeg r16) (σ.2 5 v2.toNatClampNeg) r20 h19 _) hP hD hS (va_recv C.2.2.2.2.2.1 hP (ci := 5) (q0 := 3) rfl rfl) hl.1 rfl rfl (by decide) (by decide) (Nat.le_of_ble_eq_true rfl) dX5_prepareTrim_67) (fun H locs hP hD hS => ?_)
      refine lv_iload_n hx hb dX5_prepareTrim_70 rfl (lv_at hl 1 rfl) ?_
      refine lv_iadd hx hb dX5_prepareTrim_71 ?_
      obtain ⟨i21, h⟩ := gi_some h
      refine stX_7 C hP hD hS i21 dX5_prepareTrim_72 (fun H locs hP hD hS => ?_)
      refine lv_iinc (v := (v2 + 1)) (lv' := [(2, .int (v2 + 1)), (0, .ref (q 3)), (1, .int v1)]) hx hb dX5_prepareTrim_73 hl (k := 2) rfl (by first | rfl | decide) (by decide) rfl (fun ls hl => ?_)
      refine lv_goto (tgt := 31) hx hb dX5_prepareTrim_76 (by decide) ?_
      exact ih (v2 + 1) (sA (sA σ 6 v2.toNatClampNeg r16) 7 v2.toNatClampNeg (r20 + v1)) _ _ _ h hP hD hS (lv_sub hl [1, 2, 0] rfl)

def fX5_prepareTrim (N : Nat) (σ : St) : Option St :=
  bd1 (fX1_isOver N σ ) (fun r2 => (if r2 = 0 then bd1 (fX1_middle N σ ) (fun r5 => fX5_prepareTrim_L31 N (-r5) N 0 σ) else bd1 (fX1_middle N σ ) (fun r23 => fX5_prepareTrim_L31 N r23 N 0 σ)))
set_option maxHeartbeats 4000000 in
set_option maxRecDepth 100000 in
theorem ctX5_prepareTrim {G : GP} {l : Launch} {q : Nat → Nat} (N : Nat) (σ σ' : St) (h : fX5_prepareTrim N σ = some σ') : CV G l yX5_prepareTrim cX5_prepareTrim 4 none 2 [.ref (q 3)] (xW G q σ) (xW G q (σ')) := by
  refine enterV (own := RX5) (by decide) rfl (Nat.le_of_ble_eq_true rfl) ?_
  intro p e s m args below meth c A C hP hD hS ls hl
  obtain ⟨hx, hb, hml, hown, hts, hK, hZ, hA, hlk, hr⟩ := id C
  have hl : lv_has ls 4 [(0, .ref (q 3))] := hl
  rw [fX5_prepareTrim.eq_1] at h
  refine lv_aload_n hx hb dX5_prepareTrim_0 rfl (lv_at hl 0 rfl) ?_
  refine gf_RX5_40 C hP dX5_prepareTrim_1 ?_
  obtain ⟨r2, h1, h⟩ := bd1_some h
  refine goI C hD hS (runV (As := []) (rest := []) (w := (xW G q σ)) C lc_RX5_74 (ctX1_isOver N σ  r2 h1 _) hP hD hS (va_recv C.2.2.2.2.2.1 hP (ci := 1) (q0 := 1) rfl rfl) hl.1 rfl rfl (by decide) (by decide) (Nat.le_of_ble_eq_true rfl) dX5_prepareTrim_4) (fun H locs hP hD hS => ?_)
  refine lv_if_eq (tgt := 20) hx hb dX5_prepareTrim_7 (by decide) (fun c3 => ?_) (fun c3 => ?_)
  · replace h := ifp c3 h
    refine lv_aload_n hx hb dX5_prepareTrim_20 rfl (lv_at hl 0 rfl) ?_
    refine gf_RX5_40 C hP dX5_prepareTrim_21 ?_
    obtain ⟨r5, h4, h⟩ := bd1_some h
    refine goI C hD hS (runV (As := []) (rest := []) (w := (xW G q σ)) C lc_RX5_44 (ctX1_middle N σ  r5 h4 _) hP hD hS (va_recv C.2.2.2.2.2.1 hP (ci := 1) (q0 := 1) rfl rfl) hl.1 rfl rfl (by decide) (by decide) (Nat.le_of_ble_eq_true rfl) dX5_prepareTrim_24) (fun H locs hP hD hS => ?_)
    refine lv_ineg hx hb dX5_prepareTrim_27 ?_
    refine lv_istore_n (lv' := [(1, .int (-r5)), (0, .ref (q 3))]) hx hb dX5_prepareTrim_28 rfl hl (by decide) rfl (fun ls hl => ?_)
    refine lv_iconst (v := 0) hx hb dX5_prepareTrim_29 (by decide) ?_
    refine lv_istore_n (lv' := [(2, .int 0), (1, .int (-r5)), (0, .ref (q 3))]) hx hb dX5_prepareTrim_30 rfl hl (by decide) rfl (fun ls hl => ?_)
    exact wX5_prepareTrim_L31 C N (-r5) σ' N 0 σ _ _ _ h hP hD hS (lv_sub hl [2, 1, 0] rfl)
  · replace h := ifn c3 h
    refine lv_aload_n hx hb dX5_prepareTrim_10 rfl (lv_at hl 0 rfl) ?_
    refine gf_RX5_40 C hP dX5_prepareTrim_11 ?_
    obtain ⟨r23, h22, h⟩ := bd1_some h
    refine goI C hD hS (runV (As := []) (rest := []) (w := (xW G q σ)) C lc_RX5_44 (ctX1_middle N σ  r23 h22 _) hP hD hS (va_recv C.2.2.2.2.2.1 hP (ci := 1) (q0 := 1) rfl rfl) hl.1 rfl rfl (by decide) (by decide) (Nat.le_of_ble_eq_true rfl) dX5_prepareTrim_14) (fun H locs hP hD hS => ?_)
    refine lv_goto (tgt := 28) hx hb dX5_prepareTrim_17 (by decide) ?_
    refine lv_istore_n (lv' := [(1, .int r23), (0, .ref (q 3))]) hx hb dX5_prepareTrim_28 rfl hl (by decide) rfl (fun ls hl => ?_)
    refine lv_iconst (v := 0) hx hb dX5_prepareTrim_29 (by decide) ?_
    refine lv_istore_n (lv' := [(2, .int 0), (1, .int r23), (0, .ref (q 3))]) hx hb dX5_prepareTrim_30 rfl hl (by decide) rfl (fun ls hl => ?_)
    exact wX5_prepareTrim_L31 C N r23 σ' N 0 σ _ _ _ h hP hD hS (lv_sub hl [2, 1, 0] rfl)

def fX5_rankOfTrim_L8 (N : Nat) (σ : St) (v1 : Int32) (v2 : Int32) : Nat → Int32 → Int32 → Int32 → Option Int64
  | 0, _, _, _ => none
  | n + 1, v3, v4, v5 => (if (σ.1 8) ≤ v5 then some (((v3 : Int32).toInt64 <<< ((32 : Int32).toInt64 &&& 63)) + (v4 : Int32).toInt64) else gi v5 5 (bd1 (fX5_padded N v1 ((σ.2 6 v5.toNatClampNeg) + v2)) (fun r4 => gi (jmin r4 1098) 1099 (gi v5 5 (fX5_rankOfTrim_L8 N σ v1 v2 n (jmax v3 (jabs ((σ.2 8 (jmin r4 1098).toNatClampNeg) - (σ.2 7 v5.toNatClampNeg)))) (v4 + (jabs ((σ.2 8 (jmin r4 1098).toNatClampNeg) - (σ.2 7 v5.toNatClampNeg)))) (v5 + 1))))))
set_option maxHeartbeats 4000000 in
set_option maxRecDepth 100000 in
theorem wX5_rankOfTrim_L8 {q : Nat → Nat} (C : Cx G p s m args meth c cX5_rankOfTrim 8 (some .long) (Cond.code yX5_rankOfTrim cX5_rankOfTrim 8 (some .long)) RX5 A) (N : Nat) (σ : St) (v1 : Int32) (v2 : Int32) (r : Int64) : ∀ (n : Nat) (v3 : Int32) (v4 : Int32) (v5 : Int32) (H : Heap) (locs : List Loc) (ls : Array Slot), fX5_rankOfTrim_L8 N σ v1 v2 n v3 v4 v5 = some r → va_P G.1 vwCl (xW G q σ) H → va_D A (xW G q σ) → va_S A s.heap H locs → lv_has ls 8 [(0, .ref (q 3)), (1, .int v1), (2, .int v2), (3, .int v3), (4, .int v4), (5, .int v5)] → W p l e (rmD 1) s m args below meth c H locs 0 0 (QL G below args s A (xW G q σ) r) (F0 m 8 ls []) := by
  obtain ⟨hx, hb, hml, hown, hts, hK, hZ, hA, hlk, hr⟩ := id C
  intro n
  induction n with
  | zero =>
    intro v3 v4 v5 H locs ls h
    cases h
  | succ n ih =>
    intro v3 v4 v5 H locs ls h hP hD hS hl
    rw [fX5_rankOfTrim_L8.eq_2] at h
    refine lv_iload hx hb dX5_rankOfTrim_8 (lv_at hl 5 rfl) ?_
    refine lv_aload_n hx hb dX5_rankOfTrim_10 rfl (lv_at hl 0 rfl) ?_
    refine gf_RX5_25 C hP dX5_rankOfTrim_11 ?_
    refine lv_icmp_ge (tgt := 78) hx hb dX5_rankOfTrim_14 (by decide) (fun c1 => ?_) (fun c1 => ?_)
    · replace h := ifp c1 h
      refine lv_iload_n hx hb dX5_rankOfTrim_78 rfl (lv_at hl 3 rfl) ?_
      refine lv_i2l hx hb dX5_rankOfTrim_79 rfl ?_
      refine lv_bipush (v := 32) hx hb dX5_rankOfTrim_80 (by decide) ?_
      refine lv_lshl hx hb dX5_rankOfTrim_82 rfl ?_
      refine lv_iload hx hb dX5_rankOfTrim_83 (lv_at hl 4 rfl) ?_
      refine lv_i2l hx hb dX5_rankOfTrim_85 rfl ?_
      refine lv_ladd hx hb dX5_rankOfTrim_86 ?_
      obtain rfl := so1 h
      exact retL C hP hD hS dX5_rankOfTrim_87
    · replace h := ifn c1 h
      refine lv_iload_n hx hb dX5_rankOfTrim_17 rfl (lv_at hl 1 rfl) ?_
      refine lv_aload_n hx hb dX5_rankOfTrim_18 rfl (lv_at hl 0 rfl) ?_
      refine gf_RX5_28 C hP dX5_rankOfTrim_19 ?_
      refine lv_iload hx hb dX5_rankOfTrim_22 (lv_at hl 5 rfl) ?_
      obtain ⟨i2, h⟩ := gi_some h
      refine ldX_6 C hP i2 dX5_rankOfTrim_24 ?_
      refine lv_iload_n hx hb dX5_rankOfTrim_25 rfl (lv_at hl 2 rfl) ?_
      refine lv_iadd hx hb dX5_rankOfTrim_26 ?_
      obtain ⟨r4, h3, h⟩ := bd1_some h
      refine goI C hD hS (runS (As := [.int v1, .int ((σ.2 6 v5.toNatClampNeg) + v2)]) (rest := []) (w := (xW G q σ)) C lc_RX5_67 (ctX5_padded (w := (xW G q σ)) N v1 ((σ.2 6 v5.toNatClampNeg) + v2) r4 h3 _) hP hD hS hl.1 rfl rfl (by decide) (by decide) (Nat.le_of_ble_eq_true rfl) dX5_rankOfTrim_27) (fun H locs hP hD hS => ?_)
      refine lv_sipush (v := 1098) hx hb dX5_rankOfTrim_30 (by decide) ?_
      refine rmin C lc_RX5_101 hl.1 (Nat.le_of_ble_eq_true rfl) dX5_rankOfTrim_33 ?_
      refine lv_istore (lv' := [(6, .int (jmin r4 1098)), (0, .ref (q 3)), (1, .int v1), (2, .int v2), (3, .int v3), (4, .int v4), (5, .int v5)]) hx hb dX5_rankOfTrim_36 hl (by decide) rfl (fun ls hl => ?_)
      refine lv_aload_n hx hb dX5_rankOfTrim_38 rfl (lv_at hl 1 rfl) ?_
      refine gf_RX5_34 C hP dX5_rankOfTrim_39 ?_
      refine lv_iload hx hb dX5_rankOfTrim_42 (lv_at hl 0 rfl) ?_
      obtain ⟨i5, h⟩ := gi_some h
      refine ldX_8 C hP i5 dX5_rankOfTrim_44 ?_
      refine lv_aload_n hx hb dX5_rankOfTrim_45 rfl (lv_at hl 1 rfl) ?_
      refine gf_RX5_31 C hP dX5_rankOfTrim_46 ?_
      refine lv_iload hx hb dX5_rankOfTrim_49 (lv_at hl 6 rfl) ?_
      obtain ⟨i6, h⟩ := gi_some h
      refine ldX_7 C hP i6 dX5_rankOfTrim_51 ?_
      refine lv_isub hx hb dX5_rankOfTrim_52 ?_
      refine rabs C lc_RX5_78 hl.1 (Nat.le_of_ble_eq_true rfl) dX5_rankOfTrim_53 ?_
      refine lv_istore (lv' := [(7, .int (jabs ((σ.2 8 (jmin r4 1098).toNatClampNeg) - (σ.2 7 v5.toNatClampNeg)))), (6, .int (jmin r4 1098)), (0, .ref (q 3)), (1, .int v1), (2, .int v2), (3, .int v3), (4, .int v4), (5, .int v5)]) hx hb dX5_rankOfTrim_56 hl (by decide) rfl (fun ls hl => ?_)
      refine lv_iload_n hx hb dX5_rankOfTrim_58 rfl (lv_at hl 5 rfl) ?_
      refine lv_iload hx hb dX5_rankOfTrim_59 (lv_at hl 0 rfl) ?_
      refine rmax C lc_RX5_104 hl.1 (Nat.le_of_ble_eq_true rfl) dX5_rankOfTrim_61 ?_
      refine lv_istore_n (lv' := [(3, .int (jmax v3 (jabs ((σ.2 8 (jmin r4 1098).toNatClampNeg) - (σ.2 7 v5.toNatClampNeg))))), (7, .int (jabs ((σ.2 8 (jmin r4 1098).toNatClampNeg) - (σ.2 7 v5.toNatClampNeg)))), (6, .int (jmin r4 1098)), (0, .ref (q 3)), (1, .int v1), (2, .int v2), (4, .int v4), (5, .int v5)]) hx hb dX5_rankOfTrim_64 rfl hl (by decide) rfl (fun ls hl => ?_)
      refine lv_iload hx hb dX5_rankOfTrim_65 (lv_at hl 6 rfl) ?_
      refine lv_iload hx hb dX5_rankOfTrim_67 (lv_at hl 1 rfl) ?_
      refine lv_iadd hx hb dX5_rankOfTrim_69 ?_
      refine lv_istore (lv' := [(4, .int (v4 + (jabs ((σ.2 8 (jmin r4 1098).toNatClampNeg) - (σ.2 7 v5.toNatClampNeg))))), (3, .int (jmax v3 (jabs ((σ.2 8 (jmin r4 1098).toNatClampNeg) - (σ.2 7 v5.toNatClampNeg))))), (7, .int (jabs ((σ.2 8 (jmin r4 1098).toNatClampNeg) - (σ.2 7 v5.toNatClampNeg)))), (6, .int (jmin r4 1098)), (0, .ref (q 3)), (1, .int v1), (2, .int v2), (5, .int v5)]) hx hb dX5_rankOfTrim_70 hl (by decide) rfl (fun ls hl => ?_)
      refine lv_iinc (v := (v5 + 1)) (lv' := [(5, .int (v5 + 1)), (4, .int (v4 + (jabs ((σ.2 8 (jmin r4 1098).toNatClampNeg) - (σ.2 7 v5.toNatClampNeg))))), (3, .int (jmax v3 (jabs ((σ.2 8 (jmin r4 1098).toNatClampNeg) - (σ.2 7 v5.toNatClampNeg))))), (7, .int (jabs ((σ.2 8 (jmin r4 1098).toNatClampNeg) - (σ.2 7 v5.toNatClampNeg)))), (6, .int (jmin r4 1098)), (0, .ref (q 3)), (1, .int v1), (2, .int v2)]) hx hb dX5_rankOfTrim_72 hl (k := 7) rfl (by first | rfl | decide) (by decide) rfl (fun ls hl => ?_)
      refine lv_goto (tgt := 8) hx hb dX5_rankOfTrim_75 (by decide) ?_
      exact ih (jmax v3 (jabs ((σ.2 8 (jmin r4 1098).toNatClampNeg) - (σ.2 7 v5.toNatClampNeg)))) (v4 + (jabs ((σ.2 8 (jmin r4 1098).toNatClampNeg) - (σ.2 7 v5.toNatClampNeg)))) (v5 + 1) _ _ _ h hP hD hS (lv_sub hl [5, 6, 7, 2, 1, 0] rfl)

def fX5_rankOfTrim (N : Nat) (σ : St) (a1 : Int32) (a2 : Int32) : Option Int64 :=
  fX5_rankOfTrim_L8 N σ a1 a2 N 0 0 0
set_option maxHeartbeats 4000000 in
set_option maxRecDepth 100000 in
theorem ctX5_rankOfTrim {G : GP} {l : Launch} {q : Nat → Nat} (N : Nat) (σ : St) (a1 : Int32) (a2 : Int32) (r : Int64) (h : fX5_rankOfTrim N σ a1 a2 = some r) : CL G l yX5_rankOfTrim cX5_rankOfTrim 8 (some .long) 1 [.ref (q 3), .int a1, .int a2] (xW G q σ) (xW G q σ) r := by
  refine enterL (own := RX5) (by decide) rfl (Nat.le_of_ble_eq_true rfl) ?_
  intro p e s m args below meth c A C hP hD hS ls hl
  obtain ⟨hx, hb, hml, hown, hts, hK, hZ, hA, hlk, hr⟩ := id C
  have hl : lv_has ls 8 [(0, .ref (q 3)), (1, .int a1), (2, .int a2)] := hl
  rw [fX5_rankOfTrim.eq_1] at h
  refine lv_iconst (v := 0) hx hb dX5_rankOfTrim_0 (by decide) ?_
  refine lv_istore_n (lv' := [(3, .int 0), (0, .ref (q 3)), (1, .int a1), (2, .int a2)]) hx hb dX5_rankOfTrim_1 rfl hl (by decide) rfl (fun ls hl => ?_)
  refine lv_iconst (v := 0) hx hb dX5_rankOfTrim_2 (by decide) ?_
  refine lv_istore (lv' := [(4, .int 0), (3, .int 0), (0, .ref (q 3)), (1, .int a1), (2, .int a2)]) hx hb dX5_rankOfTrim_3 hl (by decide) rfl (fun ls hl => ?_)
  refine lv_iconst (v := 0) hx hb dX5_rankOfTrim_5 (by decide) ?_
  refine lv_istore (lv' := [(5, .int 0), (4, .int 0), (3, .int 0), (0, .ref (q 3)), (1, .int a1), (2, .int a2)]) hx hb dX5_rankOfTrim_6 hl (by decide) rfl (fun ls hl => ?_)
  exact wX5_rankOfTrim_L8 C N σ a1 a2 r N 0 0 0 _ _ _ h hP hD hS (lv_sub hl [3, 4, 5, 2, 1, 0] rfl)

def fX5_bestTrim_L75 (N : Nat) (v2 : Int32) (v7 : Int32) : Nat → Int64 → Int32 → Int32 → St → Option (Int64 × Int32 × St)
  | 0, _, _, _, _ => none
  | n + 1, v4, v6, v8, σ => (if (st3 (1 : Int32).toNatClampNeg) < v8 then some (v4, v6, σ) else bd1 (fX5_rankOfTrim N σ v7 v8) (fun r14 => (if v6 = (-1) then fX5_bestTrim_L75 N v2 v7 n r14 ((100 * v7) + v8) (v8 + 1) σ else (if 0 ≤ (lg_cmp r14 v4) then fX5_bestTrim_L75 N v2 v7 n v4 v6 (v8 + 1) σ else fX5_bestTrim_L75 N v2 v7 n r14 ((100 * v7) + v8) (v8 + 1) σ))))
set_option maxHeartbeats 4000000 in
set_option maxRecDepth 100000 in
theorem wX5_bestTrim_L75 {q : Nat → Nat} (C : Cx G p s m args meth c cX5_bestTrim 11 (some .int) (Cond.code yX5_bestTrim cX5_bestTrim 11 (some .int)) RX5 A) (N : Nat) (v2 : Int32) (v7 : Int32) (v4' : Int64) (v6' : Int32) (σ' : St) (K : ∀ H locs ls, va_P G.1 vwCl (xW G q (σ')) H → va_D A (xW G q (σ')) → va_S A s.heap H locs → lv_has ls 11 [(0, .ref (q 3)), (2, .int v2), (4, .long (v4')), (6, .int (v6')), (7, .int v7)] → W p l e (rmD 3) s m args below meth c H locs 0 0 Q (F0 m 129 ls [])) : ∀ (n : Nat) (v4 : Int64) (v6 : Int32) (v8 : Int32) (σ : St) (H : Heap) (locs : List Loc) (ls : Array Slot), fX5_bestTrim_L75 N v2 v7 n v4 v6 v8 σ = some (v4', v6', σ') → va_P G.1 vwCl (xW G q σ) H → va_D A (xW G q σ) → va_S A s.heap H locs → lv_has ls 11 [(0, .ref (q 3)), (2, .int v2), (4, .long v4), (6, .int v6), (7, .int v7), (8, .int v8)] → W p l e (rmD 3) s m args below meth c H locs 0 0 Q (F0 m 75 ls []) := by
  obtain ⟨hx, hb, hml, hown, hts, hK, hZ, hA, hlk, hr⟩ := id C
  intro n
  induction n with
  | zero =>
    intro v4 v6 v8 σ H locs ls h
    cases h
  | succ n ih =>
    intro v4 v6 v8 σ H locs ls h hP hD hS hl
    rw [fX5_bestTrim_L75.eq_2] at h
    refine lv_iload hx hb dX5_bestTrim_75 (lv_at hl 5 rfl) ?_
    refine va_getsN hx hb hZ.1.2.2.2.1 hS hown (va_Nw.use rfl hZ.2.1.2.2.2.1) (fun _ h9 => h9) dX5_bestTrim_77 ?_
    refine lv_iconst (v := 1) hx hb dX5_bestTrim_80 (by decide) ?_
    refine va_ti (v := .int (st3 (1 : Int32).toNatClampNeg)) hx hb hZ.1.2.2.2.2 hS (vin (by decide)) rfl dX5_bestTrim_81 ?_
    refine lv_icmp_gt (tgt := 129) hx hb dX5_bestTrim_82 (by decide) (fun c12 => ?_) (fun c12 => ?_)
    · replace h := ifp c12 h
      obtain ⟨rfl, rfl, rfl⟩ := so3 h
      exact K _ _ _ hP hD hS (lv_sub hl [0, 1, 2, 3, 4] rfl)
    · replace h := ifn c12 h
      refine lv_aload_n hx hb dX5_bestTrim_85 rfl (lv_at hl 0 rfl) ?_
      refine lv_iload hx hb dX5_bestTrim_86 (lv_at hl 4 rfl) ?_
      refine lv_iload hx hb dX5_bestTrim_88 (lv_at hl 5 rfl) ?_
      obtain ⟨r14, h13, h⟩ := bd1_some h
      refine goL C hD hS (runV (As := [.int v7, .int v8]) (rest := []) (w := (xW G q σ)) C lc_RX5_97 (ctX5_rankOfTrim N σ v7 v8 r14 h13 _) hP hD hS (va_recv C.2.2.2.2.2.1 hP (ci := 5) (q0 := 3) rfl rfl) hl.1 rfl rfl (by decide) (by decide) (Nat.le_of_ble_eq_true rfl) dX5_bestTrim_90) (fun H locs hP hD hS => ?_)
      refine lv_lstore (lv' := [(9, .long r14), (0, .ref (q 3)), (2, .int v2), (4, .long v4), (6, .int v6), (7, .int v7), (8, .int v8)]) hx hb dX5_bestTrim_93 hl (by decide) rfl (fun ls hl => ?_)
      refine lv_iload hx hb dX5_bestTrim_95 (lv_at hl 4 rfl) ?_
      refine lv_iconst (v := (-1)) hx hb dX5_bestTrim_97 (by decide) ?_
      refine lv_icmp_eq (tgt := 109) hx hb dX5_bestTrim_98 (by decide) (fun c15 => ?_) (fun c15 => ?_)
      · replace h := ifp c15 h
        refine lv_lload hx hb dX5_bestTrim_109 (lv_at hl 0 rfl) ?_
        refine lv_lstore (lv' := [(4, .long r14), (9, .long r14), (0, .ref (q 3)), (2, .int v2), (6, .int v6), (7, .int v7), (8, .int v8)]) hx hb dX5_bestTrim_111 hl (by decide) rfl (fun ls hl => ?_)
        refine lv_bipush (v := 100) hx hb dX5_bestTrim_113 (by decide) ?_
        refine lv_iload hx hb dX5_bestTrim_115 (lv_at hl 5 rfl) ?_
        refine lv_imul hx hb dX5_bestTrim_117 ?_
        refine lv_iload hx hb dX5_bestTrim_118 (lv_at hl 6 rfl) ?_
        refine lv_iadd hx hb dX5_bestTrim_120 ?_
        refine lv_istore (lv' := [(6, .int ((100 * v7) + v8)), (4, .long r14), (9, .long r14), (0, .ref (q 3)), (2, .int v2), (7, .int v7), (8, .int v8)]) hx hb dX5_bestTrim_121 hl (by decide) rfl (fun ls hl => ?_)
        refine lv_iinc (v := (v8 + 1)) (lv' := [(8, .int (v8 + 1)), (6, .int ((100 * v7) + v8)), (4, .long r14), (9, .long r14), (0, .ref (q 3)), (2, .int v2), (7, .int v7)]) hx hb dX5_bestTrim_123 hl (k := 6) rfl (by first | rfl | decide) (by decide) rfl (fun ls hl => ?_)
        refine lv_goto (tgt := 75) hx hb dX5_bestTrim_126 (by decide) ?_
        exact ih r14 ((100 * v7) + v8) (v8 + 1) σ _ _ _ h hP hD hS (lv_sub hl [4, 5, 2, 1, 6, 0] rfl)
      · replace h := ifn c15 h
        refine lv_lload hx hb dX5_bestTrim_101 (lv_at hl 0 rfl) ?_
        refine lv_lload hx hb dX5_bestTrim_103 (lv_at hl 3 rfl) ?_
        refine W.lcmp hx hb dX5_bestTrim_105 ?_
        refine lv_if_ge (tgt := 123) hx hb dX5_bestTrim_106 (by decide) (fun c16 => ?_) (fun c16 => ?_)
        · replace h := ifp c16 h
          refine lv_iinc (v := (v8 + 1)) (lv' := [(8, .int (v8 + 1)), (9, .long r14), (0, .ref (q 3)), (2, .int v2), (4, .long v4), (6, .int v6), (7, .int v7)]) hx hb dX5_bestTrim_123 hl (k := 6) rfl (by first | rfl | decide) (by decide) rfl (fun ls hl => ?_)
          refine lv_goto (tgt := 75) hx hb dX5_bestTrim_126 (by decide) ?_
          exact ih v4 v6 (v8 + 1) σ _ _ _ h hP hD hS (lv_sub hl [2, 3, 4, 5, 6, 0] rfl)
        · replace h := ifn c16 h
          refine lv_lload hx hb dX5_bestTrim_109 (lv_at hl 0 rfl) ?_
          refine lv_lstore (lv' := [(4, .long r14), (9, .long r14), (0, .ref (q 3)), (2, .int v2), (6, .int v6), (7, .int v7), (8, .int v8)]) hx hb dX5_bestTrim_111 hl (by decide) rfl (fun ls hl => ?_)
          refine lv_bipush (v := 100) hx hb dX5_bestTrim_113 (by decide) ?_
          refine lv_iload hx hb dX5_bestTrim_115 (lv_at hl 5 rfl) ?_
          refine lv_imul hx hb dX5_bestTrim_117 ?_
          refine lv_iload hx hb dX5_bestTrim_118 (lv_at hl 6 rfl) ?_
          refine lv_iadd hx hb dX5_bestTrim_120 ?_
          refine lv_istore (lv' := [(6, .int ((100 * v7) + v8)), (4, .long r14), (9, .long r14), (0, .ref (q 3)), (2, .int v2), (7, .int v7), (8, .int v8)]) hx hb dX5_bestTrim_121 hl (by decide) rfl (fun ls hl => ?_)
          refine lv_iinc (v := (v8 + 1)) (lv' := [(8, .int (v8 + 1)), (6, .int ((100 * v7) + v8)), (4, .long r14), (9, .long r14), (0, .ref (q 3)), (2, .int v2), (7, .int v7)]) hx hb dX5_bestTrim_123 hl (k := 6) rfl (by first | rfl | decide) (by decide) rfl (fun ls hl => ?_)
          refine lv_goto (tgt := 75) hx hb dX5_bestTrim_126 (by decide) ?_
          exact ih r14 ((100 * v7) + v8) (v8 + 1) σ _ _ _ h hP hD hS (lv_sub hl [4, 5, 2, 1, 6, 0] rfl)

def fX5_bestTrim_L62 (N : Nat) (v2 : Int32) : Nat → Int64 → Int32 → Int32 → St → Option (Int32 × St)
  | 0, _, _, _, _ => none
  | n + 1, v4, v6, v7, σ => (if v2 < v7 then some (v6, σ) else bd3 (fX5_bestTrim_L75 N v2 v7 N v4 v6 (st2 (1 : Int32).toNatClampNeg) σ) (fun y17 y18 σ19 => fX5_bestTrim_L62 N v2 n y17 y18 (v7 + 1) σ19))
set_option maxHeartbeats 4000000 in
set_option maxRecDepth 100000 in
theorem wX5_bestTrim_L62 {q : Nat → Nat} (C : Cx G p s m args meth c cX5_bestTrim 11 (some .int) (Cond.code yX5_bestTrim cX5_bestTrim 11 (some .int)) RX5 A) (N : Nat) (v2 : Int32) (r : Int32) (σ' : St) : ∀ (n : Nat) (v4 : Int64) (v6 : Int32) (v7 : Int32) (σ : St) (H : Heap) (locs : List Loc) (ls : Array Slot), fX5_bestTrim_L62 N v2 n v4 v6 v7 σ = some (r, σ') → va_P G.1 vwCl (xW G q σ) H → va_D A (xW G q σ) → va_S A s.heap H locs → lv_has ls 11 [(0, .ref (q 3)), (2, .int v2), (4, .long v4), (6, .int v6), (7, .int v7)] → W p l e (rmD 3) s m args below meth c H locs 0 0 (QI G below args s A (xW G q (σ')) r) (F0 m 62 ls []) := by
  obtain ⟨hx, hb, hml, hown, hts, hK, hZ, hA, hlk, hr⟩ := id C
  intro n
  induction n with
  | zero =>
    intro v4 v6 v7 σ H locs ls h
    cases h
  | succ n ih =>
    intro v4 v6 v7 σ H locs ls h hP hD hS hl
    rw [fX5_bestTrim_L62.eq_2] at h
    refine lv_iload hx hb dX5_bestTrim_62 (lv_at hl 4 rfl) ?_
    refine lv_iload_n hx hb dX5_bestTrim_64 rfl (lv_at hl 1 rfl) ?_
    refine lv_icmp_gt (tgt := 135) hx hb dX5_bestTrim_65 (by decide) (fun c11 => ?_) (fun c11 => ?_)
    · replace h := ifp c11 h
      refine lv_iload hx hb dX5_bestTrim_135 (lv_at hl 3 rfl) ?_
      obtain ⟨rfl, rfl⟩ := so2 h
      exact retI C hP hD hS dX5_bestTrim_137
    · replace h := ifn c11 h
      refine va_getsN hx hb hZ.1.2.2.1.1 hS hown (va_Nw.use rfl hZ.2.1.2.2.1) (fun _ h9 => h9) dX5_bestTrim_68 ?_
      refine lv_iconst (v := 1) hx hb dX5_bestTrim_71 (by decide) ?_
      refine va_ti (v := .int (st2 (1 : Int32).toNatClampNeg)) hx hb hZ.1.2.2.1.2 hS (vin (by decide)) rfl dX5_bestTrim_72 ?_
      refine lv_istore (lv' := [(8, .int (st2 (1 : Int32).toNatClampNeg)), (0, .ref (q 3)), (2, .int v2), (4, .long v4), (6, .int v6), (7, .int v7)]) hx hb dX5_bestTrim_73 hl (by decide) rfl (fun ls hl => ?_)
      obtain ⟨y17, y18, σ19, h20, h⟩ := bd3_some h
      refine wX5_bestTrim_L75 C N v2 v7 y17 y18 σ19 (fun H locs ls hP hD hS hl => ?_) N v4 v6 (st2 (1 : Int32).toNatClampNeg) σ _ _ _ h20 hP hD hS (lv_sub hl [1, 2, 3, 4, 5, 0] rfl)
      refine lv_iinc (v := (v7 + 1)) (lv' := [(7, .int (v7 + 1)), (0, .ref (q 3)), (2, .int v2), (4, .long y17), (6, .int y18)]) hx hb dX5_bestTrim_129 hl (k := 4) rfl (by first | rfl | decide) (by decide) rfl (fun ls hl => ?_)
      refine lv_goto (tgt := 62) hx hb dX5_bestTrim_132 (by decide) ?_
      exact ih y17 y18 (v7 + 1) σ19 _ _ _ h hP hD hS (lv_sub hl [1, 2, 3, 4, 0] rfl)

def fX5_bestTrim (N : Nat) (σ : St) (a1 : Int32) (a2 : Int32) : Option (Int32 × St) :=
  bd1 (fX6_within N a1 (st2 (2 : Int32).toNatClampNeg) (st3 (2 : Int32).toNatClampNeg)) (fun r2 => (if r2 = 0 then some ((-1), σ) else bd1 (fX6_within N a2 a1 (st3 (2 : Int32).toNatClampNeg)) (fun r5 => (if r5 = 0 then some ((-1), σ) else (if (a2 - a1) ≤ 300 then (if (σ.1 8) = 0 then some ((-3), σ) else bd1 (fX5_prepareTrim N σ ) (fun σ10 => fX5_bestTrim_L62 N a2 N 0 (-1) a1 σ10)) else some ((-1), σ))))))
set_option maxHeartbeats 4000000 in
set_option maxRecDepth 100000 in
theorem ctX5_bestTrim {G : GP} {l : Launch} {q : Nat → Nat} (N : Nat) (σ σ' : St) (a1 : Int32) (a2 : Int32) (r : Int32) (h : fX5_bestTrim N σ a1 a2 = some (r, σ')) : CI G l yX5_bestTrim cX5_bestTrim 11 (some .int) 3 [.ref (q 3), .int a1, .int a2] (xW G q σ) (xW G q (σ')) r := by
  refine enterI (own := RX5) (by decide) rfl (Nat.le_of_ble_eq_true rfl) ?_
  intro p e s m args below meth c A C hP hD hS ls hl
  obtain ⟨hx, hb, hml, hown, hts, hK, hZ, hA, hlk, hr⟩ := id C
  have hl : lv_has ls 11 [(0, .ref (q 3)), (1, .int a1), (2, .int a2)] := hl
  rw [fX5_bestTrim.eq_1] at h
  refine va_getsN hx hb hZ.1.2.2.2.1 hS hown (va_Nw.use rfl hZ.2.1.2.2.2.1) (fun _ h9 => h9) dX5_bestTrim_0 ?_
  refine lv_iconst (v := 2) hx hb dX5_bestTrim_3 (by decide) ?_
  refine va_ti (v := .int (st3 (2 : Int32).toNatClampNeg)) hx hb hZ.1.2.2.2.2 hS (vin (by decide)) rfl dX5_bestTrim_4 ?_
  refine lv_istore_n (lv' := [(3, .int (st3 (2 : Int32).toNatClampNeg)), (0, .ref (q 3)), (1, .int a1), (2, .int a2)]) hx hb dX5_bestTrim_5 rfl hl (by decide) rfl (fun ls hl => ?_)
  refine lv_iload_n hx hb dX5_bestTrim_6 rfl (lv_at hl 2 rfl) ?_
  refine va_getsN hx hb hZ.1.2.2.1.1 hS hown (va_Nw.use rfl hZ.2.1.2.2.1) (fun _ h9 => h9) dX5_bestTrim_7 ?_
  refine lv_iconst (v := 2) hx hb dX5_bestTrim_10 (by decide) ?_
  refine va_ti (v := .int (st2 (2 : Int32).toNatClampNeg)) hx hb hZ.1.2.2.1.2 hS (vin (by decide)) rfl dX5_bestTrim_11 ?_
  refine lv_iload_n hx hb dX5_bestTrim_12 rfl (lv_at hl 0 rfl) ?_
  obtain ⟨r2, h1, h⟩ := bd1_some h
  refine goI C hD hS (runN (As := [.int a1, .int (st2 (2 : Int32).toNatClampNeg), .int (st3 (2 : Int32).toNatClampNeg)]) (rest := []) (w := (xW G q σ)) C lc_RX5_50 C.2.2.2.2.2.2.1.2.2.1.2.2.2.2.1 (ctX6_within (w := (xW G q σ)) N a1 (st2 (2 : Int32).toNatClampNeg) (st3 (2 : Int32).toNatClampNeg) r2 h1 _) hP hD hS hl.1 rfl rfl (by decide) (by decide) (Nat.le_of_ble_eq_true rfl) dX5_bestTrim_13) (fun H locs hP hD hS => ?_)
  refine lv_if_eq (tgt := 37) hx hb dX5_bestTrim_16 (by decide) (fun c3 => ?_) (fun c3 => ?_)
  · replace h := ifp c3 h
    refine lv_iconst (v := (-1)) hx hb dX5_bestTrim_37 (by decide) ?_
    obtain ⟨rfl, rfl⟩ := so2 h
    exact retI C hP hD hS dX5_bestTrim_38
  · replace h := ifn c3 h
    refine lv_iload_n hx hb dX5_bestTrim_19 rfl (lv_at hl 3 rfl) ?_
    refine lv_iload_n hx hb dX5_bestTrim_20 rfl (lv_at hl 2 rfl) ?_
    refine lv_iload_n hx hb dX5_bestTrim_21 rfl (lv_at hl 0 rfl) ?_
    obtain ⟨r5, h4, h⟩ := bd1_some h
    refine goI C hD hS (runN (As := [.int a2, .int a1, .int (st3 (2 : Int32).toNatClampNeg)]) (rest := []) (w := (xW G q σ)) C lc_RX5_50 C.2.2.2.2.2.2.1.2.2.1.2.2.2.2.1 (ctX6_within (w := (xW G q σ)) N a2 a1 (st3 (2 : Int32).toNatClampNeg) r5 h4 _) hP hD hS hl.1 rfl rfl (by decide) (by decide) (Nat.le_of_ble_eq_true rfl) dX5_bestTrim_22) (fun H locs hP hD hS => ?_)
    refine lv_if_eq (tgt := 37) hx hb dX5_bestTrim_25 (by decide) (fun c6 => ?_) (fun c6 => ?_)
    · replace h := ifp c6 h
      refine lv_iconst (v := (-1)) hx hb dX5_bestTrim_37 (by decide) ?_
      obtain ⟨rfl, rfl⟩ := so2 h
      exact retI C hP hD hS dX5_bestTrim_38
    · replace h := ifn c6 h
      refine lv_iload_n hx hb dX5_bestTrim_28 rfl (lv_at hl 3 rfl) ?_
      refine lv_iload_n hx hb dX5_bestTrim_29 rfl (lv_at hl 2 rfl) ?_
      refine lv_isub hx hb dX5_bestTrim_30 ?_
      refine lv_sipush (v := 300) hx hb dX5_bestTrim_31 (by decide) ?_
      refine lv_icmp_le (tgt := 39) hx hb dX5_bestTrim_34 (by decide) (fun c7 => ?_) (fun c7 => ?_)
      · replace h := ifp c7 h
        refine lv_aload_n hx hb dX5_bestTrim_39 rfl (lv_at hl 1 rfl) ?_
        refine gf_RX5_25 C hP dX5_bestTrim_40 ?_
        refine lv_if_ne (tgt := 49) hx hb dX5_bestTrim_43 (by decide) (fun c8 => ?_) (fun c8 => ?_)
        · replace h := ifn c8 h
          refine lv_aload_n hx hb dX5_bestTrim_49 rfl (lv_at hl 1 rfl) ?_
          obtain ⟨σ10, h9, h⟩ := bd1_some h
          refine goV C hD hS (runV (As := []) (rest := []) (w := (xW G q σ)) C lc_RX5_94 (ctX5_prepareTrim N σ σ10  h9 _) hP hD hS (va_recv C.2.2.2.2.2.1 hP (ci := 5) (q0 := 3) rfl rfl) hl.1 rfl rfl (by decide) (by decide) (Nat.le_of_ble_eq_true rfl) dX5_bestTrim_50) (fun H locs hP hD hS => ?_)
          refine lv_lconst (v := 0) hx hb dX5_bestTrim_53 (by decide) ?_
          refine lv_lstore (lv' := [(4, .long 0), (3, .int (st3 (2 : Int32).toNatClampNeg)), (0, .ref (q 3)), (1, .int a1), (2, .int a2)]) hx hb dX5_bestTrim_54 hl (by decide) rfl (fun ls hl => ?_)
          refine lv_iconst (v := (-1)) hx hb dX5_bestTrim_56 (by decide) ?_
          refine lv_istore (lv' := [(6, .int (-1)), (4, .long 0), (3, .int (st3 (2 : Int32).toNatClampNeg)), (0, .ref (q 3)), (1, .int a1), (2, .int a2)]) hx hb dX5_bestTrim_57 hl (by decide) rfl (fun ls hl => ?_)
          refine lv_iload_n hx hb dX5_bestTrim_59 rfl (lv_at hl 4 rfl) ?_
          refine lv_istore (lv' := [(7, .int a1), (6, .int (-1)), (4, .long 0), (3, .int (st3 (2 : Int32).toNatClampNeg)), (0, .ref (q 3)), (1, .int a1), (2, .int a2)]) hx hb dX5_bestTrim_60 hl (by decide) rfl (fun ls hl => ?_)
          exact wX5_bestTrim_L62 C N a2 r σ' N 0 (-1) a1 σ10 _ _ _ h hP hD hS (lv_sub hl [4, 6, 2, 1, 0] rfl)
        · replace h := ifp c8 h
          refine lv_bipush (v := (-3)) hx hb dX5_bestTrim_46 (by decide) ?_
          obtain ⟨rfl, rfl⟩ := so2 h
          exact retI C hP hD hS dX5_bestTrim_48
      · replace h := ifn c7 h
        refine lv_iconst (v := (-1)) hx hb dX5_bestTrim_37 (by decide) ?_
        obtain ⟨rfl, rfl⟩ := so2 h
        exact retI C hP hD hS dX5_bestTrim_38

def fX5_markOf_L16 (N : Nat) (σ : St) (v1 : Int32) : Nat → Int32 → Int32 → Int32 → Option Int32
  | 0, _, _, _ => none
  | n + 1, v2, v3, v4 => (if 100 < v4 then some v2 else bd1 (fX5_signalTuned N σ v4) (fun r5 => (if v3 ≤ (jabs (r5 - v1)) then fX5_markOf_L16 N σ v1 n v2 v3 (v4 + 1) else fX5_markOf_L16 N σ v1 n v4 (jabs (r5 - v1)) (v4 + 1))))
set_option maxHeartbeats 4000000 in
set_option maxRecDepth 100000 in
theorem wX5_markOf_L16 {q : Nat → Nat} (C : Cx G p s m args meth c cX5_markOf 6 (some .int) (Cond.code yX5_markOf cX5_markOf 6 (some .int)) RX5 A) (N : Nat) (σ : St) (v1 : Int32) (r : Int32) : ∀ (n : Nat) (v2 : Int32) (v3 : Int32) (v4 : Int32) (H : Heap) (locs : List Loc) (ls : Array Slot), fX5_markOf_L16 N σ v1 n v2 v3 v4 = some r → va_P G.1 vwCl (xW G q σ) H → va_D A (xW G q σ) → va_S A s.heap H locs → lv_has ls 6 [(0, .ref (q 3)), (1, .int v1), (2, .int v2), (3, .int v3), (4, .int v4)] → W p l e (rmD 2) s m args below meth c H locs 0 0 (QI G below args s A (xW G q σ) r) (F0 m 16 ls []) := by
  obtain ⟨hx, hb, hml, hown, hts, hK, hZ, hA, hlk, hr⟩ := id C
  intro n
  induction n with
  | zero =>
    intro v2 v3 v4 H locs ls h
    cases h
  | succ n ih =>
    intro v2 v3 v4 H locs ls h hP hD hS hl
    rw [fX5_markOf_L16.eq_2] at h
    refine lv_iload hx hb dX5_markOf_16 (lv_at hl 4 rfl) ?_
    refine lv_bipush (v := 100) hx hb dX5_markOf_18 (by decide) ?_
    refine lv_icmp_gt (tgt := 54) hx hb dX5_markOf_20 (by decide) (fun c3 => ?_) (fun c3 => ?_)
    · replace h := ifp c3 h
      refine lv_iload_n hx hb dX5_markOf_54 rfl (lv_at hl 2 rfl) ?_
      obtain rfl := so1 h
      exact retI C hP hD hS dX5_markOf_55
    · replace h := ifn c3 h
      refine lv_aload_n hx hb dX5_markOf_23 rfl (lv_at hl 0 rfl) ?_
      refine lv_iload hx hb dX5_markOf_24 (lv_at hl 4 rfl) ?_
      obtain ⟨r5, h4, h⟩ := bd1_some h
      refine goI C hD hS (runV (As := [.int v4]) (rest := []) (w := (xW G q σ)) C lc_RX5_60 (ctX5_signalTuned N σ v4 r5 h4 _) hP hD hS (va_recv C.2.2.2.2.2.1 hP (ci := 5) (q0 := 3) rfl rfl) hl.1 rfl rfl (by decide) (by decide) (Nat.le_of_ble_eq_true rfl) dX5_markOf_26) (fun H locs hP hD hS => ?_)
      refine lv_iload_n hx hb dX5_markOf_29 rfl (lv_at hl 1 rfl) ?_
      refine lv_isub hx hb dX5_markOf_30 ?_
      refine rabs C lc_RX5_78 hl.1 (Nat.le_of_ble_eq_true rfl) dX5_markOf_31 ?_
      refine lv_istore (lv' := [(5, .int (jabs (r5 - v1))), (0, .ref (q 3)), (1, .int v1), (2, .int v2), (3, .int v3), (4, .int v4)]) hx hb dX5_markOf_34 hl (by decide) rfl (fun ls hl => ?_)
      refine lv_iload hx hb dX5_markOf_36 (lv_at hl 0 rfl) ?_
      refine lv_iload_n hx hb dX5_markOf_38 rfl (lv_at hl 4 rfl) ?_
      refine lv_icmp_ge (tgt := 48) hx hb dX5_markOf_39 (by decide) (fun c6 => ?_) (fun c6 => ?_)
      · replace h := ifp c6 h
        refine lv_iinc (v := (v4 + 1)) (lv' := [(4, .int (v4 + 1)), (5, .int (jabs (r5 - v1))), (0, .ref (q 3)), (1, .int v1), (2, .int v2), (3, .int v3)]) hx hb dX5_markOf_48 hl (k := 5) rfl (by first | rfl | decide) (by decide) rfl (fun ls hl => ?_)
        refine lv_goto (tgt := 16) hx hb dX5_markOf_51 (by decide) ?_
        exact ih v2 v3 (v4 + 1) _ _ _ h hP hD hS (lv_sub hl [2, 3, 4, 5, 0] rfl)
      · replace h := ifn c6 h
        refine lv_iload hx hb dX5_markOf_42 (lv_at hl 0 rfl) ?_
        refine lv_istore_n (lv' := [(3, .int (jabs (r5 - v1))), (5, .int (jabs (r5 - v1))), (0, .ref (q 3)), (1, .int v1), (2, .int v2), (4, .int v4)]) hx hb dX5_markOf_44 rfl hl (by decide) rfl (fun ls hl => ?_)
        refine lv_iload hx hb dX5_markOf_45 (lv_at hl 5 rfl) ?_
        refine lv_istore_n (lv' := [(2, .int v4), (3, .int (jabs (r5 - v1))), (5, .int (jabs (r5 - v1))), (0, .ref (q 3)), (1, .int v1), (4, .int v4)]) hx hb dX5_markOf_47 rfl hl (by decide) rfl (fun ls hl => ?_)
        refine lv_iinc (v := (v4 + 1)) (lv' := [(4, .int (v4 + 1)), (2, .int v4), (3, .int (jabs (r5 - v1))), (5, .int (jabs (r5 - v1))), (0, .ref (q 3)), (1, .int v1)]) hx hb dX5_markOf_48 hl (k := 5) rfl (by first | rfl | decide) (by decide) rfl (fun ls hl => ?_)
        refine lv_goto (tgt := 16) hx hb dX5_markOf_51 (by decide) ?_
        exact ih v4 (jabs (r5 - v1)) (v4 + 1) _ _ _ h hP hD hS (lv_sub hl [4, 5, 1, 2, 0] rfl)

def fX5_markOf (N : Nat) (σ : St) (a1 : Int32) : Option Int32 :=
  bd1 (fX5_signalTuned N σ 0) (fun r2 => fX5_markOf_L16 N σ a1 N 0 (jabs (r2 - a1)) 1)
set_option maxHeartbeats 4000000 in
set_option maxRecDepth 100000 in
theorem ctX5_markOf {G : GP} {l : Launch} {q : Nat → Nat} (N : Nat) (σ : St) (a1 : Int32) (r : Int32) (h : fX5_markOf N σ a1 = some r) : CI G l yX5_markOf cX5_markOf 6 (some .int) 2 [.ref (q 3), .int a1] (xW G q σ) (xW G q σ) r := by
  refine enterI (own := RX5) (by decide) rfl (Nat.le_of_ble_eq_true rfl) ?_
  intro p e s m args below meth c A C hP hD hS ls hl
  obtain ⟨hx, hb, hml, hown, hts, hK, hZ, hA, hlk, hr⟩ := id C
  have hl : lv_has ls 6 [(0, .ref (q 3)), (1, .int a1)] := hl
  rw [fX5_markOf.eq_1] at h
  refine lv_iconst (v := 0) hx hb dX5_markOf_0 (by decide) ?_
  refine lv_istore_n (lv' := [(2, .int 0), (0, .ref (q 3)), (1, .int a1)]) hx hb dX5_markOf_1 rfl hl (by decide) rfl (fun ls hl => ?_)
  refine lv_aload_n hx hb dX5_markOf_2 rfl (lv_at hl 1 rfl) ?_
  refine lv_iconst (v := 0) hx hb dX5_markOf_3 (by decide) ?_
  obtain ⟨r2, h1, h⟩ := bd1_some h
  refine goI C hD hS (runV (As := [.int 0]) (rest := []) (w := (xW G q σ)) C lc_RX5_60 (ctX5_signalTuned N σ 0 r2 h1 _) hP hD hS (va_recv C.2.2.2.2.2.1 hP (ci := 5) (q0 := 3) rfl rfl) hl.1 rfl rfl (by decide) (by decide) (Nat.le_of_ble_eq_true rfl) dX5_markOf_4) (fun H locs hP hD hS => ?_)
  refine lv_iload_n hx hb dX5_markOf_7 rfl (lv_at hl 2 rfl) ?_
  refine lv_isub hx hb dX5_markOf_8 ?_
  refine rabs C lc_RX5_78 hl.1 (Nat.le_of_ble_eq_true rfl) dX5_markOf_9 ?_
  refine lv_istore_n (lv' := [(3, .int (jabs (r2 - a1))), (2, .int 0), (0, .ref (q 3)), (1, .int a1)]) hx hb dX5_markOf_12 rfl hl (by decide) rfl (fun ls hl => ?_)
  refine lv_iconst (v := 1) hx hb dX5_markOf_13 (by decide) ?_
  refine lv_istore (lv' := [(4, .int 1), (3, .int (jabs (r2 - a1))), (2, .int 0), (0, .ref (q 3)), (1, .int a1)]) hx hb dX5_markOf_14 hl (by decide) rfl (fun ls hl => ?_)
  exact wX5_markOf_L16 C N σ a1 r N 0 (jabs (r2 - a1)) 1 _ _ _ h hP hD hS (lv_sub hl [3, 4, 2, 1, 0] rfl)

def fX6_station (N : Nat) (σ : St) (a1 : Int32) (a2 : Int32) : Option (Int32 × St) :=
  bd2 (fX1_addStation N σ a1 a2) (fun r3 σ2 => some (r3, σ2))
set_option maxHeartbeats 4000000 in
set_option maxRecDepth 100000 in
theorem ctX6_station {G : GP} {l : Launch} {q : Nat → Nat} (N : Nat) (σ σ' : St) (a1 : Int32) (a2 : Int32) (r : Int32) (h : fX6_station N σ a1 a2 = some (r, σ')) : CI G l yX6_station cX6_station 3 (some .int) 2 [.ref (q 0), .int a1, .int a2] (xW G q σ) (xW G q (σ')) r := by
  refine enterI (own := RX6) (by decide) rfl (Nat.le_of_ble_eq_true rfl) ?_
  intro p e s m args below meth c A C hP hD hS ls hl
  obtain ⟨hx, hb, hml, hown, hts, hK, hZ, hA, hlk, hr⟩ := id C
  have hl : lv_has ls 3 [(0, .ref (q 0)), (1, .int a1), (2, .int a2)] := hl
  rw [fX6_station.eq_1] at h
  refine lv_aload_n hx hb dX6_station_0 rfl (lv_at hl 0 rfl) ?_
  refine gf_RX6_12 C hP dX6_station_1 ?_
  refine lv_iload_n hx hb dX6_station_4 rfl (lv_at hl 1 rfl) ?_
  refine lv_iload_n hx hb dX6_station_5 rfl (lv_at hl 2 rfl) ?_
  obtain ⟨r3, σ2, h1, h⟩ := bd2_some h
  refine goI C hD hS (runV (As := [.int a1, .int a2]) (rest := []) (w := (xW G q σ)) C lc_RX6_41 (ctX1_addStation N σ σ2 a1 a2 r3 h1 _) hP hD hS (va_recv C.2.2.2.2.2.1 hP (ci := 1) (q0 := 1) rfl rfl) hl.1 rfl rfl (by decide) (by decide) (Nat.le_of_ble_eq_true rfl) dX6_station_6) (fun H locs hP hD hS => ?_)
  obtain ⟨rfl, rfl⟩ := so2 h
  exact retI C hP hD hS dX6_station_9

def fX6_plan (N : Nat) (σ : St) (a1 : Int32) (a2 : Int32) : Option (Int32 × St) :=
  bd2 (fX1_change N σ a1 a2) (fun r3 σ2 => some (r3, σ2))
set_option maxHeartbeats 4000000 in
set_option maxRecDepth 100000 in
theorem ctX6_plan {G : GP} {l : Launch} {q : Nat → Nat} (N : Nat) (σ σ' : St) (a1 : Int32) (a2 : Int32) (r : Int32) (h : fX6_plan N σ a1 a2 = some (r, σ')) : CI G l yX6_plan cX6_plan 3 (some .int) 2 [.ref (q 0), .int a1, .int a2] (xW G q σ) (xW G q (σ')) r := by
  refine enterI (own := RX6) (by decide) rfl (Nat.le_of_ble_eq_true rfl) ?_
  intro p e s m args below meth c A C hP hD hS ls hl
  obtain ⟨hx, hb, hml, hown, hts, hK, hZ, hA, hlk, hr⟩ := id C
  have hl : lv_has ls 3 [(0, .ref (q 0)), (1, .int a1), (2, .int a2)] := hl
  rw [fX6_plan.eq_1] at h
  refine lv_aload_n hx hb dX6_plan_0 rfl (lv_at hl 0 rfl) ?_
  refine gf_RX6_12 C hP dX6_plan_1 ?_
  refine lv_iload_n hx hb dX6_plan_4 rfl (lv_at hl 1 rfl) ?_
  refine lv_iload_n hx hb dX6_plan_5 rfl (lv_at hl 2 rfl) ?_
  obtain ⟨r3, σ2, h1, h⟩ := bd2_some h
  refine goI C hD hS (runV (As := [.int a1, .int a2]) (rest := []) (w := (xW G q σ)) C lc_RX6_45 (ctX1_change N σ σ2 a1 a2 r3 h1 _) hP hD hS (va_recv C.2.2.2.2.2.1 hP (ci := 1) (q0 := 1) rfl rfl) hl.1 rfl rfl (by decide) (by decide) (Nat.le_of_ble_eq_true rfl) dX6_plan_6) (fun H locs hP hD hS => ?_)
  obtain ⟨rfl, rfl⟩ := so2 h
  exact retI C hP hD hS dX6_plan_9

def fX6_oscillator (N : Nat) (σ : St) (a1 : Int32) : Option Int32 :=
  bd1 (fX1_hasStation N σ a1) (fun r2 => (if r2 = 0 then some (-2000000000) else bd1 (fX1_middle N σ ) (fun r5 => bd1 (fX1_oscillatorFor N σ a1 r5) (fun r7 => some r7))))
set_option maxHeartbeats 4000000 in
set_option maxRecDepth 100000 in
theorem ctX6_oscillator {G : GP} {l : Launch} {q : Nat → Nat} (N : Nat) (σ : St) (a1 : Int32) (r : Int32) (h : fX6_oscillator N σ a1 = some r) : CI G l yX6_oscillator cX6_oscillator 2 (some .int) 2 [.ref (q 0), .int a1] (xW G q σ) (xW G q σ) r := by
  refine enterI (own := RX6) (by decide) rfl (Nat.le_of_ble_eq_true rfl) ?_
  intro p e s m args below meth c A C hP hD hS ls hl
  obtain ⟨hx, hb, hml, hown, hts, hK, hZ, hA, hlk, hr⟩ := id C
  have hl : lv_has ls 2 [(0, .ref (q 0)), (1, .int a1)] := hl
  rw [fX6_oscillator.eq_1] at h
  refine lv_aload_n hx hb dX6_oscillator_0 rfl (lv_at hl 0 rfl) ?_
  refine gf_RX6_12 C hP dX6_oscillator_1 ?_
  refine lv_iload_n hx hb dX6_oscillator_4 rfl (lv_at hl 1 rfl) ?_
  obtain ⟨r2, h1, h⟩ := bd1_some h
  refine goI C hD hS (runV (As := [.int a1]) (rest := []) (w := (xW G q σ)) C lc_RX6_48 (ctX1_hasStation N σ a1 r2 h1 _) hP hD hS (va_recv C.2.2.2.2.2.1 hP (ci := 1) (q0 := 1) rfl rfl) hl.1 rfl rfl (by decide) (by decide) (Nat.le_of_ble_eq_true rfl) dX6_oscillator_5) (fun H locs hP hD hS => ?_)
  refine lv_if_eq (tgt := 29) hx hb dX6_oscillator_8 (by decide) (fun c3 => ?_) (fun c3 => ?_)
  · replace h := ifp c3 h
    refine lv_ldc hx hb hown (hts _ (List.mem_cons_of_mem _ kc_RX6_59)) dX6_oscillator_29 ?_
    obtain rfl := so1 h
    exact retI C hP hD hS dX6_oscillator_31
  · replace h := ifn c3 h
    refine lv_aload_n hx hb dX6_oscillator_11 rfl (lv_at hl 0 rfl) ?_
    refine gf_RX6_12 C hP dX6_oscillator_12 ?_
    refine lv_iload_n hx hb dX6_oscillator_15 rfl (lv_at hl 1 rfl) ?_
    refine lv_aload_n hx hb dX6_oscillator_16 rfl (lv_at hl 0 rfl) ?_
    refine gf_RX6_12 C hP dX6_oscillator_17 ?_
    obtain ⟨r5, h4, h⟩ := bd1_some h
    refine goI C hD hS (runV (As := []) (rest := [.int a1, .ref (q 1)]) (w := (xW G q σ)) C lc_RX6_52 (ctX1_middle N σ  r5 h4 _) hP hD hS (va_recv C.2.2.2.2.2.1 hP (ci := 1) (q0 := 1) rfl rfl) hl.1 rfl rfl (by decide) (by decide) (Nat.le_of_ble_eq_true rfl) dX6_oscillator_20) (fun H locs hP hD hS => ?_)
    obtain ⟨r7, h6, h⟩ := bd1_some h
    refine goI C hD hS (runV (As := [.int a1, .int r5]) (rest := []) (w := (xW G q σ)) C lc_RX6_56 (ctX1_oscillatorFor N σ a1 r5 r7 h6 _) hP hD hS (va_recv C.2.2.2.2.2.1 hP (ci := 1) (q0 := 1) rfl rfl) hl.1 rfl rfl (by decide) (by decide) (Nat.le_of_ble_eq_true rfl) dX6_oscillator_23) (fun H locs hP hD hS => ?_)
    refine lv_goto (tgt := 31) hx hb dX6_oscillator_26 (by decide) ?_
    obtain rfl := so1 h
    exact retI C hP hD hS dX6_oscillator_31

def fX6_spurs (N : Nat) (σ : St) (a1 : Int32) : Option (Int32 × St) :=
  bd1 (fX1_hasStation N σ a1) (fun r2 => (if r2 = 0 then some ((-1), σ) else bd2 (fX1_spursOf N σ a1) (fun r6 σ5 => some (r6, σ5))))
set_option maxHeartbeats 4000000 in
set_option maxRecDepth 100000 in
theorem ctX6_spurs {G : GP} {l : Launch} {q : Nat → Nat} (N : Nat) (σ σ' : St) (a1 : Int32) (r : Int32) (h : fX6_spurs N σ a1 = some (r, σ')) : CI G l yX6_spurs cX6_spurs 2 (some .int) 5 [.ref (q 0), .int a1] (xW G q σ) (xW G q (σ')) r := by
  refine enterI (own := RX6) (by decide) rfl (Nat.le_of_ble_eq_true rfl) ?_
  intro p e s m args below meth c A C hP hD hS ls hl
  obtain ⟨hx, hb, hml, hown, hts, hK, hZ, hA, hlk, hr⟩ := id C
  have hl : lv_has ls 2 [(0, .ref (q 0)), (1, .int a1)] := hl
  rw [fX6_spurs.eq_1] at h
  refine lv_aload_n hx hb dX6_spurs_0 rfl (lv_at hl 0 rfl) ?_
  refine gf_RX6_12 C hP dX6_spurs_1 ?_
  refine lv_iload_n hx hb dX6_spurs_4 rfl (lv_at hl 1 rfl) ?_
  obtain ⟨r2, h1, h⟩ := bd1_some h
  refine goI C hD hS (runV (As := [.int a1]) (rest := []) (w := (xW G q σ)) C lc_RX6_48 (ctX1_hasStation N σ a1 r2 h1 _) hP hD hS (va_recv C.2.2.2.2.2.1 hP (ci := 1) (q0 := 1) rfl rfl) hl.1 rfl rfl (by decide) (by decide) (Nat.le_of_ble_eq_true rfl) dX6_spurs_5) (fun H locs hP hD hS => ?_)
  refine lv_if_eq (tgt := 22) hx hb dX6_spurs_8 (by decide) (fun c3 => ?_) (fun c3 => ?_)
  · replace h := ifp c3 h
    refine lv_iconst (v := (-1)) hx hb dX6_spurs_22 (by decide) ?_
    obtain ⟨rfl, rfl⟩ := so2 h
    exact retI C hP hD hS dX6_spurs_23
  · replace h := ifn c3 h
    refine lv_aload_n hx hb dX6_spurs_11 rfl (lv_at hl 0 rfl) ?_
    refine gf_RX6_12 C hP dX6_spurs_12 ?_
    refine lv_iload_n hx hb dX6_spurs_15 rfl (lv_at hl 1 rfl) ?_
    obtain ⟨r6, σ5, h4, h⟩ := bd2_some h
    refine goI C hD hS (runV (As := [.int a1]) (rest := []) (w := (xW G q σ)) C lc_RX6_60 (ctX1_spursOf N σ σ5 a1 r6 h4 _) hP hD hS (va_recv C.2.2.2.2.2.1 hP (ci := 1) (q0 := 1) rfl rfl) hl.1 rfl rfl (by decide) (by decide) (Nat.le_of_ble_eq_true rfl) dX6_spurs_16) (fun H locs hP hD hS => ?_)
    refine lv_goto (tgt := 23) hx hb dX6_spurs_19 (by decide) ?_
    obtain ⟨rfl, rfl⟩ := so2 h
    exact retI C hP hD hS dX6_spurs_23

def fX6_spur (N : Nat) (σ : St) (a1 : Int32) (a2 : Int32) (a3 : Int32) : Option (Int32 × St) :=
  bd1 (fX1_hasStation N σ a1) (fun r2 => (if r2 = 0 then some ((-1), σ) else bd2 (fX1_ofSpur N σ a1 a2 a3) (fun r6 σ5 => some (r6, σ5))))
set_option maxHeartbeats 4000000 in
set_option maxRecDepth 100000 in
theorem ctX6_spur {G : GP} {l : Launch} {q : Nat → Nat} (N : Nat) (σ σ' : St) (a1 : Int32) (a2 : Int32) (a3 : Int32) (r : Int32) (h : fX6_spur N σ a1 a2 a3 = some (r, σ')) : CI G l yX6_spur cX6_spur 4 (some .int) 5 [.ref (q 0), .int a1, .int a2, .int a3] (xW G q σ) (xW G q (σ')) r := by
  refine enterI (own := RX6) (by decide) rfl (Nat.le_of_ble_eq_true rfl) ?_
  intro p e s m args below meth c A C hP hD hS ls hl
  obtain ⟨hx, hb, hml, hown, hts, hK, hZ, hA, hlk, hr⟩ := id C
  have hl : lv_has ls 4 [(0, .ref (q 0)), (1, .int a1), (2, .int a2), (3, .int a3)] := hl
  rw [fX6_spur.eq_1] at h
  refine lv_aload_n hx hb dX6_spur_0 rfl (lv_at hl 0 rfl) ?_
  refine gf_RX6_12 C hP dX6_spur_1 ?_
  refine lv_iload_n hx hb dX6_spur_4 rfl (lv_at hl 1 rfl) ?_
  obtain ⟨r2, h1, h⟩ := bd1_some h
  refine goI C hD hS (runV (As := [.int a1]) (rest := []) (w := (xW G q σ)) C lc_RX6_48 (ctX1_hasStation N σ a1 r2 h1 _) hP hD hS (va_recv C.2.2.2.2.2.1 hP (ci := 1) (q0 := 1) rfl rfl) hl.1 rfl rfl (by decide) (by decide) (Nat.le_of_ble_eq_true rfl) dX6_spur_5) (fun H locs hP hD hS => ?_)
  refine lv_if_eq (tgt := 24) hx hb dX6_spur_8 (by decide) (fun c3 => ?_) (fun c3 => ?_)
  · replace h := ifp c3 h
    refine lv_iconst (v := (-1)) hx hb dX6_spur_24 (by decide) ?_
    obtain ⟨rfl, rfl⟩ := so2 h
    exact retI C hP hD hS dX6_spur_25
  · replace h := ifn c3 h
    refine lv_aload_n hx hb dX6_spur_11 rfl (lv_at hl 0 rfl) ?_
    refine gf_RX6_12 C hP dX6_spur_12 ?_
    refine lv_iload_n hx hb dX6_spur_15 rfl (lv_at hl 1 rfl) ?_
    refine lv_iload_n hx hb dX6_spur_16 rfl (lv_at hl 2 rfl) ?_
    refine lv_iload_n hx hb dX6_spur_17 rfl (lv_at hl 3 rfl) ?_
    obtain ⟨r6, σ5, h4, h⟩ := bd2_some h
    refine goI C hD hS (runV (As := [.int a1, .int a2, .int a3]) (rest := []) (w := (xW G q σ)) C lc_RX6_64 (ctX1_ofSpur N σ σ5 a1 a2 a3 r6 h4 _) hP hD hS (va_recv C.2.2.2.2.2.1 hP (ci := 1) (q0 := 1) rfl rfl) hl.1 rfl rfl (by decide) (by decide) (Nat.le_of_ble_eq_true rfl) dX6_spur_18) (fun H locs hP hD hS => ?_)
    refine lv_goto (tgt := 25) hx hb dX6_spur_21 (by decide) ?_
    obtain ⟨rfl, rfl⟩ := so2 h
    exact retI C hP hD hS dX6_spur_25

def fX6_image (N : Nat) (σ : St) (a1 : Int32) (a2 : Int32) : Option Int32 :=
  bd1 (fX1_hasStation N σ a1) (fun r2 => (if r2 = 0 then some (-1) else bd1 (fX1_hasStation N σ a2) (fun r5 => (if r5 = 0 then some (-1) else bd1 (fX1_isImage N σ a1 a2) (fun r8 => (if r8 = 0 then some 0 else some 1))))))
set_option maxHeartbeats 4000000 in
set_option maxRecDepth 100000 in
theorem ctX6_image {G : GP} {l : Launch} {q : Nat → Nat} (N : Nat) (σ : St) (a1 : Int32) (a2 : Int32) (r : Int32) (h : fX6_image N σ a1 a2 = some r) : CI G l yX6_image cX6_image 3 (some .int) 3 [.ref (q 0), .int a1, .int a2] (xW G q σ) (xW G q σ) r := by
  refine enterI (own := RX6) (by decide) rfl (Nat.le_of_ble_eq_true rfl) ?_
  intro p e s m args below meth c A C hP hD hS ls hl
  obtain ⟨hx, hb, hml, hown, hts, hK, hZ, hA, hlk, hr⟩ := id C
  have hl : lv_has ls 3 [(0, .ref (q 0)), (1, .int a1), (2, .int a2)] := hl
  rw [fX6_image.eq_1] at h
  refine lv_aload_n hx hb dX6_image_0 rfl (lv_at hl 0 rfl) ?_
  refine gf_RX6_12 C hP dX6_image_1 ?_
  refine lv_iload_n hx hb dX6_image_4 rfl (lv_at hl 1 rfl) ?_
  obtain ⟨r2, h1, h⟩ := bd1_some h
  refine goI C hD hS (runV (As := [.int a1]) (rest := []) (w := (xW G q σ)) C lc_RX6_48 (ctX1_hasStation N σ a1 r2 h1 _) hP hD hS (va_recv C.2.2.2.2.2.1 hP (ci := 1) (q0 := 1) rfl rfl) hl.1 rfl rfl (by decide) (by decide) (Nat.le_of_ble_eq_true rfl) dX6_image_5) (fun H locs hP hD hS => ?_)
  refine lv_if_eq (tgt := 22) hx hb dX6_image_8 (by decide) (fun c3 => ?_) (fun c3 => ?_)
  · replace h := ifp c3 h
    refine lv_iconst (v := (-1)) hx hb dX6_image_22 (by decide) ?_
    obtain rfl := so1 h
    exact retI C hP hD hS dX6_image_23
  · replace h := ifn c3 h
    refine lv_aload_n hx hb dX6_image_11 rfl (lv_at hl 0 rfl) ?_
    refine gf_RX6_12 C hP dX6_image_12 ?_
    refine lv_iload_n hx hb dX6_image_15 rfl (lv_at hl 2 rfl) ?_
    obtain ⟨r5, h4, h⟩ := bd1_some h
    refine goI C hD hS (runV (As := [.int a2]) (rest := []) (w := (xW G q σ)) C lc_RX6_48 (ctX1_hasStation N σ a2 r5 h4 _) hP hD hS (va_recv C.2.2.2.2.2.1 hP (ci := 1) (q0 := 1) rfl rfl) hl.1 rfl rfl (by decide) (by decide) (Nat.le_of_ble_eq_true rfl) dX6_image_16) (fun H locs hP hD hS => ?_)
    refine lv_if_ne (tgt := 24) hx hb dX6_image_19 (by decide) (fun c6 => ?_) (fun c6 => ?_)
    · replace h := ifn c6 h
      refine lv_aload_n hx hb dX6_image_24 rfl (lv_at hl 0 rfl) ?_
      refine gf_RX6_12 C hP dX6_image_25 ?_
      refine lv_iload_n hx hb dX6_image_28 rfl (lv_at hl 1 rfl) ?_
      refine lv_iload_n hx hb dX6_image_29 rfl (lv_at hl 2 rfl) ?_
      obtain ⟨r8, h7, h⟩ := bd1_some h
      refine goI C hD hS (runV (As := [.int a1, .int a2]) (rest := []) (w := (xW G q σ)) C lc_RX6_68 (ctX1_isImage N σ a1 a2 r8 h7 _) hP hD hS (va_recv C.2.2.2.2.2.1 hP (ci := 1) (q0 := 1) rfl rfl) hl.1 rfl rfl (by decide) (by decide) (Nat.le_of_ble_eq_true rfl) dX6_image_30) (fun H locs hP hD hS => ?_)
      refine lv_if_eq (tgt := 40) hx hb dX6_image_33 (by decide) (fun c9 => ?_) (fun c9 => ?_)
      · replace h := ifp c9 h
        refine lv_iconst (v := 0) hx hb dX6_image_40 (by decide) ?_
        obtain rfl := so1 h
        exact retI C hP hD hS dX6_image_41
      · replace h := ifn c9 h
        refine lv_iconst (v := 1) hx hb dX6_image_36 (by decide) ?_
        refine lv_goto (tgt := 41) hx hb dX6_image_37 (by decide) ?_
        obtain rfl := so1 h
        exact retI C hP hD hS dX6_image_41
    · replace h := ifp c6 h
      refine lv_iconst (v := (-1)) hx hb dX6_image_22 (by decide) ?_
      obtain rfl := so1 h
      exact retI C hP hD hS dX6_image_23

def fX6_worst (N : Nat) (σ : St) (a1 : Int32) : Option (Int32 × St) :=
  bd1 (fX1_hasStation N σ a1) (fun r2 => (if r2 = 0 then some ((-1), σ) else bd2 (fX1_worstOf N σ a1) (fun r6 σ5 => some (r6, σ5))))
set_option maxHeartbeats 4000000 in
set_option maxRecDepth 100000 in
theorem ctX6_worst {G : GP} {l : Launch} {q : Nat → Nat} (N : Nat) (σ σ' : St) (a1 : Int32) (r : Int32) (h : fX6_worst N σ a1 = some (r, σ')) : CI G l yX6_worst cX6_worst 2 (some .int) 5 [.ref (q 0), .int a1] (xW G q σ) (xW G q (σ')) r := by
  refine enterI (own := RX6) (by decide) rfl (Nat.le_of_ble_eq_true rfl) ?_
  intro p e s m args below meth c A C hP hD hS ls hl
  obtain ⟨hx, hb, hml, hown, hts, hK, hZ, hA, hlk, hr⟩ := id C
  have hl : lv_has ls 2 [(0, .ref (q 0)), (1, .int a1)] := hl
  rw [fX6_worst.eq_1] at h
  refine lv_aload_n hx hb dX6_worst_0 rfl (lv_at hl 0 rfl) ?_
  refine gf_RX6_12 C hP dX6_worst_1 ?_
  refine lv_iload_n hx hb dX6_worst_4 rfl (lv_at hl 1 rfl) ?_
  obtain ⟨r2, h1, h⟩ := bd1_some h
  refine goI C hD hS (runV (As := [.int a1]) (rest := []) (w := (xW G q σ)) C lc_RX6_48 (ctX1_hasStation N σ a1 r2 h1 _) hP hD hS (va_recv C.2.2.2.2.2.1 hP (ci := 1) (q0 := 1) rfl rfl) hl.1 rfl rfl (by decide) (by decide) (Nat.le_of_ble_eq_true rfl) dX6_worst_5) (fun H locs hP hD hS => ?_)
  refine lv_if_eq (tgt := 22) hx hb dX6_worst_8 (by decide) (fun c3 => ?_) (fun c3 => ?_)
  · replace h := ifp c3 h
    refine lv_iconst (v := (-1)) hx hb dX6_worst_22 (by decide) ?_
    obtain ⟨rfl, rfl⟩ := so2 h
    exact retI C hP hD hS dX6_worst_23
  · replace h := ifn c3 h
    refine lv_aload_n hx hb dX6_worst_11 rfl (lv_at hl 0 rfl) ?_
    refine gf_RX6_12 C hP dX6_worst_12 ?_
    refine lv_iload_n hx hb dX6_worst_15 rfl (lv_at hl 1 rfl) ?_
    obtain ⟨r6, σ5, h4, h⟩ := bd2_some h
    refine goI C hD hS (runV (As := [.int a1]) (rest := []) (w := (xW G q σ)) C lc_RX6_72 (ctX1_worstOf N σ σ5 a1 r6 h4 _) hP hD hS (va_recv C.2.2.2.2.2.1 hP (ci := 1) (q0 := 1) rfl rfl) hl.1 rfl rfl (by decide) (by decide) (Nat.le_of_ble_eq_true rfl) dX6_worst_16) (fun H locs hP hD hS => ?_)
    refine lv_goto (tgt := 23) hx hb dX6_worst_19 (by decide) ?_
    obtain ⟨rfl, rfl⟩ := so2 h
    exact retI C hP hD hS dX6_worst_23

def fX6_birdies (N : Nat) (σ : St) : Option Int32 :=
  bd1 (fX1_middle N σ ) (fun r2 => bd1 (fX1_birdiesFor N σ r2) (fun r4 => some r4))
set_option maxHeartbeats 4000000 in
set_option maxRecDepth 100000 in
theorem ctX6_birdies {G : GP} {l : Launch} {q : Nat → Nat} (N : Nat) (σ : St) (r : Int32) (h : fX6_birdies N σ = some r) : CI G l yX6_birdies cX6_birdies 1 (some .int) 2 [.ref (q 0)] (xW G q σ) (xW G q σ) r := by
  refine enterI (own := RX6) (by decide) rfl (Nat.le_of_ble_eq_true rfl) ?_
  intro p e s m args below meth c A C hP hD hS ls hl
  obtain ⟨hx, hb, hml, hown, hts, hK, hZ, hA, hlk, hr⟩ := id C
  have hl : lv_has ls 1 [(0, .ref (q 0))] := hl
  rw [fX6_birdies.eq_1] at h
  refine lv_aload_n hx hb dX6_birdies_0 rfl (lv_at hl 0 rfl) ?_
  refine gf_RX6_12 C hP dX6_birdies_1 ?_
  refine lv_aload_n hx hb dX6_birdies_4 rfl (lv_at hl 0 rfl) ?_
  refine gf_RX6_12 C hP dX6_birdies_5 ?_
  obtain ⟨r2, h1, h⟩ := bd1_some h
  refine goI C hD hS (runV (As := []) (rest := [.ref (q 1)]) (w := (xW G q σ)) C lc_RX6_52 (ctX1_middle N σ  r2 h1 _) hP hD hS (va_recv C.2.2.2.2.2.1 hP (ci := 1) (q0 := 1) rfl rfl) hl.1 rfl rfl (by decide) (by decide) (Nat.le_of_ble_eq_true rfl) dX6_birdies_8) (fun H locs hP hD hS => ?_)
  obtain ⟨r4, h3, h⟩ := bd1_some h
  refine goI C hD hS (runV (As := [.int r2]) (rest := []) (w := (xW G q σ)) C lc_RX6_75 (ctX1_birdiesFor N σ r2 r4 h3 _) hP hD hS (va_recv C.2.2.2.2.2.1 hP (ci := 1) (q0 := 1) rfl rfl) hl.1 rfl rfl (by decide) (by decide) (Nat.le_of_ble_eq_true rfl) dX6_birdies_11) (fun H locs hP hD hS => ?_)
  obtain rfl := so1 h
  exact retI C hP hD hS dX6_birdies_14

def fX6_load (N : Nat) (σ : St) (a1 : Int32) : Option (Int32 × St) :=
  bd1 (fX6_within N a1 20 900) (fun r2 => (if r2 = 0 then some ((-1), σ) else bd2 (fX1_loadFor N σ a1) (fun r6 σ5 => some (r6, σ5))))
set_option maxHeartbeats 4000000 in
set_option maxRecDepth 100000 in
theorem ctX6_load {G : GP} {l : Launch} {q : Nat → Nat} (N : Nat) (σ σ' : St) (a1 : Int32) (r : Int32) (h : fX6_load N σ a1 = some (r, σ')) : CI G l yX6_load cX6_load 2 (some .int) 5 [.ref (q 0), .int a1] (xW G q σ) (xW G q (σ')) r := by
  refine enterI (own := RX6) (by decide) rfl (Nat.le_of_ble_eq_true rfl) ?_
  intro p e s m args below meth c A C hP hD hS ls hl
  obtain ⟨hx, hb, hml, hown, hts, hK, hZ, hA, hlk, hr⟩ := id C
  have hl : lv_has ls 2 [(0, .ref (q 0)), (1, .int a1)] := hl
  rw [fX6_load.eq_1] at h
  refine lv_iload_n hx hb dX6_load_0 rfl (lv_at hl 1 rfl) ?_
  refine lv_bipush (v := 20) hx hb dX6_load_1 (by decide) ?_
  refine lv_sipush (v := 900) hx hb dX6_load_3 (by decide) ?_
  obtain ⟨r2, h1, h⟩ := bd1_some h
  refine goI C hD hS (runS (As := [.int a1, .int 20, .int 900]) (rest := []) (w := (xW G q σ)) C lc_RX6_78 (ctX6_within (w := (xW G q σ)) N a1 20 900 r2 h1 _) hP hD hS hl.1 rfl rfl (by decide) (by decide) (Nat.le_of_ble_eq_true rfl) dX6_load_6) (fun H locs hP hD hS => ?_)
  refine lv_if_eq (tgt := 23) hx hb dX6_load_9 (by decide) (fun c3 => ?_) (fun c3 => ?_)
  · replace h := ifp c3 h
    refine lv_iconst (v := (-1)) hx hb dX6_load_23 (by decide) ?_
    obtain ⟨rfl, rfl⟩ := so2 h
    exact retI C hP hD hS dX6_load_24
  · replace h := ifn c3 h
    refine lv_aload_n hx hb dX6_load_12 rfl (lv_at hl 0 rfl) ?_
    refine gf_RX6_12 C hP dX6_load_13 ?_
    refine lv_iload_n hx hb dX6_load_16 rfl (lv_at hl 1 rfl) ?_
    obtain ⟨r6, σ5, h4, h⟩ := bd2_some h
    refine goI C hD hS (runV (As := [.int a1]) (rest := []) (w := (xW G q σ)) C lc_RX6_82 (ctX1_loadFor N σ σ5 a1 r6 h4 _) hP hD hS (va_recv C.2.2.2.2.2.1 hP (ci := 1) (q0 := 1) rfl rfl) hl.1 rfl rfl (by decide) (by decide) (Nat.le_of_ble_eq_true rfl) dX6_load_17) (fun H locs hP hD hS => ?_)
    refine lv_goto (tgt := 24) hx hb dX6_load_20 (by decide) ?_
    obtain ⟨rfl, rfl⟩ := so2 h
    exact retI C hP hD hS dX6_load_24

def fX6_best (N : Nat) (σ : St) (a1 : Int32) (a2 : Int32) (a3 : Int32) : Option (Int32 × St) :=
  bd2 (fX1_bestMiddle N σ a1 a2 a3) (fun r3 σ2 => some (r3, σ2))
set_option maxHeartbeats 4000000 in
set_option maxRecDepth 100000 in
theorem ctX6_best {G : GP} {l : Launch} {q : Nat → Nat} (N : Nat) (σ σ' : St) (a1 : Int32) (a2 : Int32) (a3 : Int32) (r : Int32) (h : fX6_best N σ a1 a2 a3 = some (r, σ')) : CI G l yX6_best cX6_best 4 (some .int) 6 [.ref (q 0), .int a1, .int a2, .int a3] (xW G q σ) (xW G q (σ')) r := by
  refine enterI (own := RX6) (by decide) rfl (Nat.le_of_ble_eq_true rfl) ?_
  intro p e s m args below meth c A C hP hD hS ls hl
  obtain ⟨hx, hb, hml, hown, hts, hK, hZ, hA, hlk, hr⟩ := id C
  have hl : lv_has ls 4 [(0, .ref (q 0)), (1, .int a1), (2, .int a2), (3, .int a3)] := hl
  rw [fX6_best.eq_1] at h
  refine lv_aload_n hx hb dX6_best_0 rfl (lv_at hl 0 rfl) ?_
  refine gf_RX6_12 C hP dX6_best_1 ?_
  refine lv_iload_n hx hb dX6_best_4 rfl (lv_at hl 1 rfl) ?_
  refine lv_iload_n hx hb dX6_best_5 rfl (lv_at hl 2 rfl) ?_
  refine lv_iload_n hx hb dX6_best_6 rfl (lv_at hl 3 rfl) ?_
  obtain ⟨r3, σ2, h1, h⟩ := bd2_some h
  refine goI C hD hS (runV (As := [.int a1, .int a2, .int a3]) (rest := []) (w := (xW G q σ)) C lc_RX6_85 (ctX1_bestMiddle N σ σ2 a1 a2 a3 r3 h1 _) hP hD hS (va_recv C.2.2.2.2.2.1 hP (ci := 1) (q0 := 1) rfl rfl) hl.1 rfl rfl (by decide) (by decide) (Nat.le_of_ble_eq_true rfl) dX6_best_7) (fun H locs hP hD hS => ?_)
  obtain ⟨rfl, rfl⟩ := so2 h
  exact retI C hP hD hS dX6_best_10

def fX6_gang (N : Nat) (σ : St) (a1 : Int32) (a2 : Int32) : Option (Int32 × St) :=
  bd2 (fX5_changeGang N σ a1 a2) (fun r3 σ2 => some (r3, σ2))
set_option maxHeartbeats 4000000 in
set_option maxRecDepth 100000 in
theorem ctX6_gang {G : GP} {l : Launch} {q : Nat → Nat} (N : Nat) (σ σ' : St) (a1 : Int32) (a2 : Int32) (r : Int32) (h : fX6_gang N σ a1 a2 = some (r, σ')) : CI G l yX6_gang cX6_gang 3 (some .int) 2 [.ref (q 0), .int a1, .int a2] (xW G q σ) (xW G q (σ')) r := by
  refine enterI (own := RX6) (by decide) rfl (Nat.le_of_ble_eq_true rfl) ?_
  intro p e s m args below meth c A C hP hD hS ls hl
  obtain ⟨hx, hb, hml, hown, hts, hK, hZ, hA, hlk, hr⟩ := id C
  have hl : lv_has ls 3 [(0, .ref (q 0)), (1, .int a1), (2, .int a2)] := hl
  rw [fX6_gang.eq_1] at h
  refine lv_aload_n hx hb dX6_gang_0 rfl (lv_at hl 0 rfl) ?_
  refine gf_RX6_21 C hP dX6_gang_1 ?_
  refine lv_iload_n hx hb dX6_gang_4 rfl (lv_at hl 1 rfl) ?_
  refine lv_iload_n hx hb dX6_gang_5 rfl (lv_at hl 2 rfl) ?_
  obtain ⟨r3, σ2, h1, h⟩ := bd2_some h
  refine goI C hD hS (runV (As := [.int a1, .int a2]) (rest := []) (w := (xW G q σ)) C lc_RX6_88 (ctX5_changeGang N σ σ2 a1 a2 r3 h1 _) hP hD hS (va_recv C.2.2.2.2.2.1 hP (ci := 5) (q0 := 3) rfl rfl) hl.1 rfl rfl (by decide) (by decide) (Nat.le_of_ble_eq_true rfl) dX6_gang_6) (fun H locs hP hD hS => ?_)
  obtain ⟨rfl, rfl⟩ := so2 h
  exact retI C hP hD hS dX6_gang_9

def fX6_part (N : Nat) (σ : St) (a1 : Int32) (a2 : Int32) : Option (Int32 × St) :=
  bd2 (fX5_changePart N σ a1 a2) (fun r3 σ2 => some (r3, σ2))
set_option maxHeartbeats 4000000 in
set_option maxRecDepth 100000 in
theorem ctX6_part {G : GP} {l : Launch} {q : Nat → Nat} (N : Nat) (σ σ' : St) (a1 : Int32) (a2 : Int32) (r : Int32) (h : fX6_part N σ a1 a2 = some (r, σ')) : CI G l yX6_part cX6_part 3 (some .int) 2 [.ref (q 0), .int a1, .int a2] (xW G q σ) (xW G q (σ')) r := by
  refine enterI (own := RX6) (by decide) rfl (Nat.le_of_ble_eq_true rfl) ?_
  intro p e s m args below meth c A C hP hD hS ls hl
  obtain ⟨hx, hb, hml, hown, hts, hK, hZ, hA, hlk, hr⟩ := id C
  have hl : lv_has ls 3 [(0, .ref (q 0)), (1, .int a1), (2, .int a2)] := hl
  rw [fX6_part.eq_1] at h
  refine lv_aload_n hx hb dX6_part_0 rfl (lv_at hl 0 rfl) ?_
  refine gf_RX6_21 C hP dX6_part_1 ?_
  refine lv_iload_n hx hb dX6_part_4 rfl (lv_at hl 1 rfl) ?_
  refine lv_iload_n hx hb dX6_part_5 rfl (lv_at hl 2 rfl) ?_
  obtain ⟨r3, σ2, h1, h⟩ := bd2_some h
  refine goI C hD hS (runV (As := [.int a1, .int a2]) (rest := []) (w := (xW G q σ)) C lc_RX6_91 (ctX5_changePart N σ σ2 a1 a2 r3 h1 _) hP hD hS (va_recv C.2.2.2.2.2.1 hP (ci := 5) (q0 := 3) rfl rfl) hl.1 rfl rfl (by decide) (by decide) (Nat.le_of_ble_eq_true rfl) dX6_part_6) (fun H locs hP hD hS => ?_)
  obtain ⟨rfl, rfl⟩ := so2 h
  exact retI C hP hD hS dX6_part_9

def fX6_tuned (N : Nat) (σ : St) (a1 : Int32) (a2 : Int32) : Option Int32 :=
  bd1 (fX6_isPlace N a1) (fun r2 => (if r2 = 0 then some (-1) else bd1 (fX5_tunedAt N σ a1 a2) (fun r5 => some r5)))
set_option maxHeartbeats 4000000 in
set_option maxRecDepth 100000 in
theorem ctX6_tuned {G : GP} {l : Launch} {q : Nat → Nat} (N : Nat) (σ : St) (a1 : Int32) (a2 : Int32) (r : Int32) (h : fX6_tuned N σ a1 a2 = some r) : CI G l yX6_tuned cX6_tuned 3 (some .int) 3 [.ref (q 0), .int a1, .int a2] (xW G q σ) (xW G q σ) r := by
  refine enterI (own := RX6) (by decide) rfl (Nat.le_of_ble_eq_true rfl) ?_
  intro p e s m args below meth c A C hP hD hS ls hl
  obtain ⟨hx, hb, hml, hown, hts, hK, hZ, hA, hlk, hr⟩ := id C
  have hl : lv_has ls 3 [(0, .ref (q 0)), (1, .int a1), (2, .int a2)] := hl
  rw [fX6_tuned.eq_1] at h
  refine lv_iload_n hx hb dX6_tuned_0 rfl (lv_at hl 1 rfl) ?_
  obtain ⟨r2, h1, h⟩ := bd1_some h
  refine goI C hD hS (runS (As := [.int a1]) (rest := []) (w := (xW G q σ)) C lc_RX6_94 (ctX6_isPlace (w := (xW G q σ)) N a1 r2 h1 _) hP hD hS hl.1 rfl rfl (by decide) (by decide) (Nat.le_of_ble_eq_true rfl) dX6_tuned_1) (fun H locs hP hD hS => ?_)
  refine lv_if_eq (tgt := 19) hx hb dX6_tuned_4 (by decide) (fun c3 => ?_) (fun c3 => ?_)
  · replace h := ifp c3 h
    refine lv_iconst (v := (-1)) hx hb dX6_tuned_19 (by decide) ?_
    obtain rfl := so1 h
    exact retI C hP hD hS dX6_tuned_20
  · replace h := ifn c3 h
    refine lv_aload_n hx hb dX6_tuned_7 rfl (lv_at hl 0 rfl) ?_
    refine gf_RX6_21 C hP dX6_tuned_8 ?_
    refine lv_iload_n hx hb dX6_tuned_11 rfl (lv_at hl 1 rfl) ?_
    refine lv_iload_n hx hb dX6_tuned_12 rfl (lv_at hl 2 rfl) ?_
    obtain ⟨r5, h4, h⟩ := bd1_some h
    refine goI C hD hS (runV (As := [.int a1, .int a2]) (rest := []) (w := (xW G q σ)) C lc_RX6_97 (ctX5_tunedAt N σ a1 a2 r5 h4 _) hP hD hS (va_recv C.2.2.2.2.2.1 hP (ci := 5) (q0 := 3) rfl rfl) hl.1 rfl rfl (by decide) (by decide) (Nat.le_of_ble_eq_true rfl) dX6_tuned_13) (fun H locs hP hD hS => ?_)
    refine lv_goto (tgt := 20) hx hb dX6_tuned_16 (by decide) ?_
    obtain rfl := so1 h
    exact retI C hP hD hS dX6_tuned_20

def fX6_error (N : Nat) (σ : St) (a1 : Int32) : Option (Int32 × St) :=
  bd1 (fX6_isPlace N a1) (fun r2 => (if r2 = 0 then some ((-2000000000), σ) else bd1 (fX5_ownParts N σ) (fun σ5 => bd1 (fX5_errorAt N none σ5 a1) (fun r7 => some (r7, σ5)))))
set_option maxHeartbeats 4000000 in
set_option maxRecDepth 100000 in
theorem ctX6_error {G : GP} {l : Launch} {q : Nat → Nat} (N : Nat) (σ σ' : St) (a1 : Int32) (r : Int32) (h : fX6_error N σ a1 = some (r, σ')) : CI G l yX6_error cX6_error 2 (some .int) 2 [.ref (q 0), .int a1] (xW G q σ) (xW G q (σ')) r := by
  refine enterI (own := RX6) (by decide) rfl (Nat.le_of_ble_eq_true rfl) ?_
  intro p e s m args below meth c A C hP hD hS ls hl
  obtain ⟨hx, hb, hml, hown, hts, hK, hZ, hA, hlk, hr⟩ := id C
  have hl : lv_has ls 2 [(0, .ref (q 0)), (1, .int a1)] := hl
  rw [fX6_error.eq_1] at h
  refine lv_iload_n hx hb dX6_error_0 rfl (lv_at hl 1 rfl) ?_
  obtain ⟨r2, h1, h⟩ := bd1_some h
  refine goI C hD hS (runS (As := [.int a1]) (rest := []) (w := (xW G q σ)) C lc_RX6_94 (ctX6_isPlace (w := (xW G q σ)) N a1 r2 h1 _) hP hD hS hl.1 rfl rfl (by decide) (by decide) (Nat.le_of_ble_eq_true rfl) dX6_error_1) (fun H locs hP hD hS => ?_)
  refine lv_if_eq (tgt := 25) hx hb dX6_error_4 (by decide) (fun c3 => ?_) (fun c3 => ?_)
  · replace h := ifp c3 h
    refine lv_ldc hx hb hown (hts _ (List.mem_cons_of_mem _ kc_RX6_59)) dX6_error_25 ?_
    obtain ⟨rfl, rfl⟩ := so2 h
    exact retI C hP hD hS dX6_error_27
  · replace h := ifn c3 h
    refine lv_aload_n hx hb dX6_error_7 rfl (lv_at hl 0 rfl) ?_
    refine gf_RX6_21 C hP dX6_error_8 ?_
    refine lv_aload_n hx hb dX6_error_11 rfl (lv_at hl 0 rfl) ?_
    refine gf_RX6_21 C hP dX6_error_12 ?_
    obtain ⟨σ5, h4, h⟩ := bd1_some h
    refine goQ C hD hS (runV (As := []) (rest := [.ref (q 3)]) (w := (xW G q σ)) C lc_RX6_100 (ctX5_ownParts N σ σ5 h4 _) hP hD hS (va_recv C.2.2.2.2.2.1 hP (ci := 5) (q0 := 3) rfl rfl) hl.1 rfl rfl (by decide) (by decide) (Nat.le_of_ble_eq_true rfl) dX6_error_15) (fun H locs hP hD hS => ?_)
    refine lv_cvv (y := .ref (q (gAd none))) rfl ?_
    refine lv_iload_n hx hb dX6_error_18 rfl (lv_at hl 1 rfl) ?_
    obtain ⟨r7, h6, h⟩ := bd1_some h
    refine goI C hD hS (runV (As := [.ref (q (gAd none)), .int a1]) (rest := []) (w := (xW G q σ5)) C lc_RX6_104 (ctX5_errorAt N none σ5 a1 r7 h6 _) hP hD hS (va_recv C.2.2.2.2.2.1 hP (ci := 5) (q0 := 3) rfl rfl) hl.1 rfl rfl (by decide) (by decide) (Nat.le_of_ble_eq_true rfl) dX6_error_19) (fun H locs hP hD hS => ?_)
    refine lv_goto (tgt := 27) hx hb dX6_error_22 (by decide) ?_
    obtain ⟨rfl, rfl⟩ := so2 h
    exact retI C hP hD hS dX6_error_27

def fX6_point (N : Nat) (σ : St) (a1 : Int32) (a2 : Int32) : Option (Int32 × St) :=
  bd2 (fX5_changePoint N σ a1 a2) (fun r3 σ2 => some (r3, σ2))
set_option maxHeartbeats 4000000 in
set_option maxRecDepth 100000 in
theorem ctX6_point {G : GP} {l : Launch} {q : Nat → Nat} (N : Nat) (σ σ' : St) (a1 : Int32) (a2 : Int32) (r : Int32) (h : fX6_point N σ a1 a2 = some (r, σ')) : CI G l yX6_point cX6_point 3 (some .int) 3 [.ref (q 0), .int a1, .int a2] (xW G q σ) (xW G q (σ')) r := by
  refine enterI (own := RX6) (by decide) rfl (Nat.le_of_ble_eq_true rfl) ?_
  intro p e s m args below meth c A C hP hD hS ls hl
  obtain ⟨hx, hb, hml, hown, hts, hK, hZ, hA, hlk, hr⟩ := id C
  have hl : lv_has ls 3 [(0, .ref (q 0)), (1, .int a1), (2, .int a2)] := hl
  rw [fX6_point.eq_1] at h
  refine lv_aload_n hx hb dX6_point_0 rfl (lv_at hl 0 rfl) ?_
  refine gf_RX6_21 C hP dX6_point_1 ?_
  refine lv_iload_n hx hb dX6_point_4 rfl (lv_at hl 1 rfl) ?_
  refine lv_iload_n hx hb dX6_point_5 rfl (lv_at hl 2 rfl) ?_
  obtain ⟨r3, σ2, h1, h⟩ := bd2_some h
  refine goI C hD hS (runV (As := [.int a1, .int a2]) (rest := []) (w := (xW G q σ)) C lc_RX6_108 (ctX5_changePoint N σ σ2 a1 a2 r3 h1 _) hP hD hS (va_recv C.2.2.2.2.2.1 hP (ci := 5) (q0 := 3) rfl rfl) hl.1 rfl rfl (by decide) (by decide) (Nat.le_of_ble_eq_true rfl) dX6_point_6) (fun H locs hP hD hS => ?_)
  obtain ⟨rfl, rfl⟩ := so2 h
  exact retI C hP hD hS dX6_point_9

def fX6_off (N : Nat) (σ : St) : Option (Int32 × St) :=
  bd1 (fX5_ownParts N σ) (fun σ2 => bd1 (fX1_middle N σ2 ) (fun r4 => bd1 (fX5_errorWith N none σ2 r4) (fun r6 => some (r6, σ2))))
set_option maxHeartbeats 4000000 in
set_option maxRecDepth 100000 in
theorem ctX6_off {G : GP} {l : Launch} {q : Nat → Nat} (N : Nat) (σ σ' : St) (r : Int32) (h : fX6_off N σ = some (r, σ')) : CI G l yX6_off cX6_off 1 (some .int) 3 [.ref (q 0)] (xW G q σ) (xW G q (σ')) r := by
  refine enterI (own := RX6) (by decide) rfl (Nat.le_of_ble_eq_true rfl) ?_
  intro p e s m args below meth c A C hP hD hS ls hl
  obtain ⟨hx, hb, hml, hown, hts, hK, hZ, hA, hlk, hr⟩ := id C
  have hl : lv_has ls 1 [(0, .ref (q 0))] := hl
  rw [fX6_off.eq_1] at h
  refine lv_aload_n hx hb dX6_off_0 rfl (lv_at hl 0 rfl) ?_
  refine gf_RX6_21 C hP dX6_off_1 ?_
  refine lv_aload_n hx hb dX6_off_4 rfl (lv_at hl 0 rfl) ?_
  refine gf_RX6_21 C hP dX6_off_5 ?_
  obtain ⟨σ2, h1, h⟩ := bd1_some h
  refine goQ C hD hS (runV (As := []) (rest := [.ref (q 3)]) (w := (xW G q σ)) C lc_RX6_100 (ctX5_ownParts N σ σ2 h1 _) hP hD hS (va_recv C.2.2.2.2.2.1 hP (ci := 5) (q0 := 3) rfl rfl) hl.1 rfl rfl (by decide) (by decide) (Nat.le_of_ble_eq_true rfl) dX6_off_8) (fun H locs hP hD hS => ?_)
  refine lv_cvv (y := .ref (q (gAd none))) rfl ?_
  refine lv_aload_n hx hb dX6_off_11 rfl (lv_at hl 0 rfl) ?_
  refine gf_RX6_12 C hP dX6_off_12 ?_
  obtain ⟨r4, h3, h⟩ := bd1_some h
  refine goI C hD hS (runV (As := []) (rest := [.ref (q (gAd none)), .ref (q 3)]) (w := (xW G q σ2)) C lc_RX6_52 (ctX1_middle N σ2  r4 h3 _) hP hD hS (va_recv C.2.2.2.2.2.1 hP (ci := 1) (q0 := 1) rfl rfl) hl.1 rfl rfl (by decide) (by decide) (Nat.le_of_ble_eq_true rfl) dX6_off_15) (fun H locs hP hD hS => ?_)
  obtain ⟨r6, h5, h⟩ := bd1_some h
  refine goI C hD hS (runV (As := [.ref (q (gAd none)), .int r4]) (rest := []) (w := (xW G q σ2)) C lc_RX6_111 (ctX5_errorWith N none σ2 r4 r6 h5 _) hP hD hS (va_recv C.2.2.2.2.2.1 hP (ci := 5) (q0 := 3) rfl rfl) hl.1 rfl rfl (by decide) (by decide) (Nat.le_of_ble_eq_true rfl) dX6_off_18) (fun H locs hP hD hS => ?_)
  obtain ⟨rfl, rfl⟩ := so2 h
  exact retI C hP hD hS dX6_off_21

def fX6_trimmed (N : Nat) (σ : St) (a1 : Int32) (a2 : Int32) : Option (Int32 × St) :=
  bd2 (fX5_bestTrim N σ a1 a2) (fun r3 σ2 => some (r3, σ2))
set_option maxHeartbeats 4000000 in
set_option maxRecDepth 100000 in
theorem ctX6_trimmed {G : GP} {l : Launch} {q : Nat → Nat} (N : Nat) (σ σ' : St) (a1 : Int32) (a2 : Int32) (r : Int32) (h : fX6_trimmed N σ a1 a2 = some (r, σ')) : CI G l yX6_trimmed cX6_trimmed 3 (some .int) 4 [.ref (q 0), .int a1, .int a2] (xW G q σ) (xW G q (σ')) r := by
  refine enterI (own := RX6) (by decide) rfl (Nat.le_of_ble_eq_true rfl) ?_
  intro p e s m args below meth c A C hP hD hS ls hl
  obtain ⟨hx, hb, hml, hown, hts, hK, hZ, hA, hlk, hr⟩ := id C
  have hl : lv_has ls 3 [(0, .ref (q 0)), (1, .int a1), (2, .int a2)] := hl
  rw [fX6_trimmed.eq_1] at h
  refine lv_aload_n hx hb dX6_trimmed_0 rfl (lv_at hl 0 rfl) ?_
  refine gf_RX6_21 C hP dX6_trimmed_1 ?_
  refine lv_iload_n hx hb dX6_trimmed_4 rfl (lv_at hl 1 rfl) ?_
  refine lv_iload_n hx hb dX6_trimmed_5 rfl (lv_at hl 2 rfl) ?_
  obtain ⟨r3, σ2, h1, h⟩ := bd2_some h
  refine goI C hD hS (runV (As := [.int a1, .int a2]) (rest := []) (w := (xW G q σ)) C lc_RX6_114 (ctX5_bestTrim N σ σ2 a1 a2 r3 h1 _) hP hD hS (va_recv C.2.2.2.2.2.1 hP (ci := 5) (q0 := 3) rfl rfl) hl.1 rfl rfl (by decide) (by decide) (Nat.le_of_ble_eq_true rfl) dX6_trimmed_6) (fun H locs hP hD hS => ?_)
  obtain ⟨rfl, rfl⟩ := so2 h
  exact retI C hP hD hS dX6_trimmed_9

def fX6_mark (N : Nat) (σ : St) (a1 : Int32) : Option Int32 :=
  bd1 (fX6_within N a1 1 99999) (fun r2 => (if r2 = 0 then some (-1) else bd1 (fX5_markOf N σ a1) (fun r5 => some r5)))
set_option maxHeartbeats 4000000 in
set_option maxRecDepth 100000 in
theorem ctX6_mark {G : GP} {l : Launch} {q : Nat → Nat} (N : Nat) (σ : St) (a1 : Int32) (r : Int32) (h : fX6_mark N σ a1 = some r) : CI G l yX6_mark cX6_mark 2 (some .int) 3 [.ref (q 0), .int a1] (xW G q σ) (xW G q σ) r := by
  refine enterI (own := RX6) (by decide) rfl (Nat.le_of_ble_eq_true rfl) ?_
  intro p e s m args below meth c A C hP hD hS ls hl
  obtain ⟨hx, hb, hml, hown, hts, hK, hZ, hA, hlk, hr⟩ := id C
  have hl : lv_has ls 2 [(0, .ref (q 0)), (1, .int a1)] := hl
  rw [fX6_mark.eq_1] at h
  refine lv_iload_n hx hb dX6_mark_0 rfl (lv_at hl 1 rfl) ?_
  refine lv_iconst (v := 1) hx hb dX6_mark_1 (by decide) ?_
  refine lv_ldc hx hb hown (hts _ (List.mem_cons_of_mem _ kc_RX6_117)) dX6_mark_2 ?_
  obtain ⟨r2, h1, h⟩ := bd1_some h
  refine goI C hD hS (runS (As := [.int a1, .int 1, .int 99999]) (rest := []) (w := (xW G q σ)) C lc_RX6_78 (ctX6_within (w := (xW G q σ)) N a1 1 99999 r2 h1 _) hP hD hS hl.1 rfl rfl (by decide) (by decide) (Nat.le_of_ble_eq_true rfl) dX6_mark_4) (fun H locs hP hD hS => ?_)
  refine lv_if_eq (tgt := 21) hx hb dX6_mark_7 (by decide) (fun c3 => ?_) (fun c3 => ?_)
  · replace h := ifp c3 h
    refine lv_iconst (v := (-1)) hx hb dX6_mark_21 (by decide) ?_
    obtain rfl := so1 h
    exact retI C hP hD hS dX6_mark_22
  · replace h := ifn c3 h
    refine lv_aload_n hx hb dX6_mark_10 rfl (lv_at hl 0 rfl) ?_
    refine gf_RX6_21 C hP dX6_mark_11 ?_
    refine lv_iload_n hx hb dX6_mark_14 rfl (lv_at hl 1 rfl) ?_
    obtain ⟨r5, h4, h⟩ := bd1_some h
    refine goI C hD hS (runV (As := [.int a1]) (rest := []) (w := (xW G q σ)) C lc_RX6_118 (ctX5_markOf N σ a1 r5 h4 _) hP hD hS (va_recv C.2.2.2.2.2.1 hP (ci := 5) (q0 := 3) rfl rfl) hl.1 rfl rfl (by decide) (by decide) (Nat.le_of_ble_eq_true rfl) dX6_mark_15) (fun H locs hP hD hS => ?_)
    refine lv_goto (tgt := 22) hx hb dX6_mark_18 (by decide) ?_
    obtain rfl := so1 h
    exact retI C hP hD hS dX6_mark_22

def fX6_offBy (N : Nat) (σ : St) (a1 : Int32) (a2 : Int32) (a3 : Int32) : Option (Int32 × St) :=
  bd2 (fX0_putOff N σ a1 a2 a3) (fun r3 σ2 => some (r3, σ2))
set_option maxHeartbeats 4000000 in
set_option maxRecDepth 100000 in
theorem ctX6_offBy {G : GP} {l : Launch} {q : Nat → Nat} (N : Nat) (σ σ' : St) (a1 : Int32) (a2 : Int32) (a3 : Int32) (r : Int32) (h : fX6_offBy N σ a1 a2 a3 = some (r, σ')) : CI G l yX6_offBy cX6_offBy 4 (some .int) 4 [.ref (q 0), .int a1, .int a2, .int a3] (xW G q σ) (xW G q (σ')) r := by
  refine enterI (own := RX6) (by decide) rfl (Nat.le_of_ble_eq_true rfl) ?_
  intro p e s m args below meth c A C hP hD hS ls hl
  obtain ⟨hx, hb, hml, hown, hts, hK, hZ, hA, hlk, hr⟩ := id C
  have hl : lv_has ls 4 [(0, .ref (q 0)), (1, .int a1), (2, .int a2), (3, .int a3)] := hl
  rw [fX6_offBy.eq_1] at h
  refine lv_aload_n hx hb dX6_offBy_0 rfl (lv_at hl 0 rfl) ?_
  refine gf_RX6_30 C hP dX6_offBy_1 ?_
  refine lv_iload_n hx hb dX6_offBy_4 rfl (lv_at hl 1 rfl) ?_
  refine lv_iload_n hx hb dX6_offBy_5 rfl (lv_at hl 2 rfl) ?_
  refine lv_iload_n hx hb dX6_offBy_6 rfl (lv_at hl 3 rfl) ?_
  obtain ⟨r3, σ2, h1, h⟩ := bd2_some h
  refine goI C hD hS (runV (As := [.int a1, .int a2, .int a3]) (rest := []) (w := (xW G q σ)) C lc_RX6_124 (ctX0_putOff N σ σ2 a1 a2 a3 r3 h1 _) hP hD hS (va_recv C.2.2.2.2.2.1 hP (ci := 0) (q0 := 4) rfl rfl) hl.1 rfl rfl (by decide) (by decide) (Nat.le_of_ble_eq_true rfl) dX6_offBy_7) (fun H locs hP hD hS => ?_)
  obtain ⟨rfl, rfl⟩ := so2 h
  exact retI C hP hD hS dX6_offBy_10

def fX6_ofSet (N : Nat) (σ : St) (a1 : Int32) (a2 : Int32) (a3 : Int32) : Option Int32 :=
  bd1 (fX0_ofPart N σ a1 a2 a3) (fun r2 => some r2)
set_option maxHeartbeats 4000000 in
set_option maxRecDepth 100000 in
theorem ctX6_ofSet {G : GP} {l : Launch} {q : Nat → Nat} (N : Nat) (σ : St) (a1 : Int32) (a2 : Int32) (a3 : Int32) (r : Int32) (h : fX6_ofSet N σ a1 a2 a3 = some r) : CI G l yX6_ofSet cX6_ofSet 4 (some .int) 3 [.ref (q 0), .int a1, .int a2, .int a3] (xW G q σ) (xW G q σ) r := by
  refine enterI (own := RX6) (by decide) rfl (Nat.le_of_ble_eq_true rfl) ?_
  intro p e s m args below meth c A C hP hD hS ls hl
  obtain ⟨hx, hb, hml, hown, hts, hK, hZ, hA, hlk, hr⟩ := id C
  have hl : lv_has ls 4 [(0, .ref (q 0)), (1, .int a1), (2, .int a2), (3, .int a3)] := hl
  rw [fX6_ofSet.eq_1] at h
  refine lv_aload_n hx hb dX6_ofSet_0 rfl (lv_at hl 0 rfl) ?_
  refine gf_RX6_30 C hP dX6_ofSet_1 ?_
  refine lv_iload_n hx hb dX6_ofSet_4 rfl (lv_at hl 1 rfl) ?_
  refine lv_iload_n hx hb dX6_ofSet_5 rfl (lv_at hl 2 rfl) ?_
  refine lv_iload_n hx hb dX6_ofSet_6 rfl (lv_at hl 3 rfl) ?_
  obtain ⟨r2, h1, h⟩ := bd1_some h
  refine goI C hD hS (runV (As := [.int a1, .int a2, .int a3]) (rest := []) (w := (xW G q σ)) C lc_RX6_127 (ctX0_ofPart N σ a1 a2 a3 r2 h1 _) hP hD hS (va_recv C.2.2.2.2.2.1 hP (ci := 0) (q0 := 4) rfl rfl) hl.1 rfl rfl (by decide) (by decide) (Nat.le_of_ble_eq_true rfl) dX6_ofSet_7) (fun H locs hP hD hS => ?_)
  obtain rfl := so1 h
  exact retI C hP hD hS dX6_ofSet_10

def fX6_errorOf (N : Nat) (σ : St) (a1 : Int32) : Option Int32 :=
  bd1 (fX0_errorOfNumber N σ a1) (fun r2 => some r2)
set_option maxHeartbeats 4000000 in
set_option maxRecDepth 100000 in
theorem ctX6_errorOf {G : GP} {l : Launch} {q : Nat → Nat} (N : Nat) (σ : St) (a1 : Int32) (r : Int32) (h : fX6_errorOf N σ a1 = some r) : CI G l yX6_errorOf cX6_errorOf 2 (some .int) 4 [.ref (q 0), .int a1] (xW G q σ) (xW G q σ) r := by
  refine enterI (own := RX6) (by decide) rfl (Nat.le_of_ble_eq_true rfl) ?_
  intro p e s m args below meth c A C hP hD hS ls hl
  obtain ⟨hx, hb, hml, hown, hts, hK, hZ, hA, hlk, hr⟩ := id C
  have hl : lv_has ls 2 [(0, .ref (q 0)), (1, .int a1)] := hl
  rw [fX6_errorOf.eq_1] at h
  refine lv_aload_n hx hb dX6_errorOf_0 rfl (lv_at hl 0 rfl) ?_
  refine gf_RX6_30 C hP dX6_errorOf_1 ?_
  refine lv_iload_n hx hb dX6_errorOf_4 rfl (lv_at hl 1 rfl) ?_
  obtain ⟨r2, h1, h⟩ := bd1_some h
  refine goI C hD hS (runV (As := [.int a1]) (rest := []) (w := (xW G q σ)) C lc_RX6_130 (ctX0_errorOfNumber N σ a1 r2 h1 _) hP hD hS (va_recv C.2.2.2.2.2.1 hP (ci := 0) (q0 := 4) rfl rfl) hl.1 rfl rfl (by decide) (by decide) (Nat.le_of_ble_eq_true rfl) dX6_errorOf_5) (fun H locs hP hD hS => ?_)
  obtain rfl := so1 h
  exact retI C hP hD hS dX6_errorOf_8

def fX6_sheet (N : Nat) (σ : St) (a1 : Int32) (a2 : Int32) : Option (Int32 × St) :=
  bd2 (fX0_addLine N σ a1 a2) (fun r3 σ2 => some (r3, σ2))
set_option maxHeartbeats 4000000 in
set_option maxRecDepth 100000 in
theorem ctX6_sheet {G : GP} {l : Launch} {q : Nat → Nat} (N : Nat) (σ σ' : St) (a1 : Int32) (a2 : Int32) (r : Int32) (h : fX6_sheet N σ a1 a2 = some (r, σ')) : CI G l yX6_sheet cX6_sheet 3 (some .int) 3 [.ref (q 0), .int a1, .int a2] (xW G q σ) (xW G q (σ')) r := by
  refine enterI (own := RX6) (by decide) rfl (Nat.le_of_ble_eq_true rfl) ?_
  intro p e s m args below meth c A C hP hD hS ls hl
  obtain ⟨hx, hb, hml, hown, hts, hK, hZ, hA, hlk, hr⟩ := id C
  have hl : lv_has ls 3 [(0, .ref (q 0)), (1, .int a1), (2, .int a2)] := hl
  rw [fX6_sheet.eq_1] at h
  refine lv_aload_n hx hb dX6_sheet_0 rfl (lv_at hl 0 rfl) ?_
  refine gf_RX6_30 C hP dX6_sheet_1 ?_
  refine lv_iload_n hx hb dX6_sheet_4 rfl (lv_at hl 1 rfl) ?_
  refine lv_iload_n hx hb dX6_sheet_5 rfl (lv_at hl 2 rfl) ?_
  obtain ⟨r3, σ2, h1, h⟩ := bd2_some h
  refine goI C hD hS (runV (As := [.int a1, .int a2]) (rest := []) (w := (xW G q σ)) C lc_RX6_133 (ctX0_addLine N σ σ2 a1 a2 r3 h1 _) hP hD hS (va_recv C.2.2.2.2.2.1 hP (ci := 0) (q0 := 4) rfl rfl) hl.1 rfl rfl (by decide) (by decide) (Nat.le_of_ble_eq_true rfl) dX6_sheet_6) (fun H locs hP hD hS => ?_)
  obtain ⟨rfl, rfl⟩ := so2 h
  exact retI C hP hD hS dX6_sheet_9

def fX6_round (N : Nat) (σ : St) (a1 : Int32) : Option (Int32 × St) :=
  bd2 (fX0_goRound N σ a1) (fun r3 σ2 => some (r3, σ2))
set_option maxHeartbeats 4000000 in
set_option maxRecDepth 100000 in
theorem ctX6_round {G : GP} {l : Launch} {q : Nat → Nat} (N : Nat) (σ σ' : St) (a1 : Int32) (r : Int32) (h : fX6_round N σ a1 = some (r, σ')) : CI G l yX6_round cX6_round 2 (some .int) 6 [.ref (q 0), .int a1] (xW G q σ) (xW G q (σ')) r := by
  refine enterI (own := RX6) (by decide) rfl (Nat.le_of_ble_eq_true rfl) ?_
  intro p e s m args below meth c A C hP hD hS ls hl
  obtain ⟨hx, hb, hml, hown, hts, hK, hZ, hA, hlk, hr⟩ := id C
  have hl : lv_has ls 2 [(0, .ref (q 0)), (1, .int a1)] := hl
  rw [fX6_round.eq_1] at h
  refine lv_aload_n hx hb dX6_round_0 rfl (lv_at hl 0 rfl) ?_
  refine gf_RX6_30 C hP dX6_round_1 ?_
  refine lv_iload_n hx hb dX6_round_4 rfl (lv_at hl 1 rfl) ?_
  obtain ⟨r3, σ2, h1, h⟩ := bd2_some h
  refine goI C hD hS (runV (As := [.int a1]) (rest := []) (w := (xW G q σ)) C lc_RX6_136 (ctX0_goRound N σ σ2 a1 r3 h1 _) hP hD hS (va_recv C.2.2.2.2.2.1 hP (ci := 0) (q0 := 4) rfl rfl) hl.1 rfl rfl (by decide) (by decide) (Nat.le_of_ble_eq_true rfl) dX6_round_5) (fun H locs hP hD hS => ?_)
  obtain ⟨rfl, rfl⟩ := so2 h
  exact retI C hP hD hS dX6_round_8

def fX6_align (N : Nat) (σ : St) (a1 : Int32) : Option (Int32 × St) :=
  bd2 (fX0_goRounds N σ a1) (fun r3 σ2 => some (r3, σ2))
set_option maxHeartbeats 4000000 in
set_option maxRecDepth 100000 in
theorem ctX6_align {G : GP} {l : Launch} {q : Nat → Nat} (N : Nat) (σ σ' : St) (a1 : Int32) (r : Int32) (h : fX6_align N σ a1 = some (r, σ')) : CI G l yX6_align cX6_align 2 (some .int) 6 [.ref (q 0), .int a1] (xW G q σ) (xW G q (σ')) r := by
  refine enterI (own := RX6) (by decide) rfl (Nat.le_of_ble_eq_true rfl) ?_
  intro p e s m args below meth c A C hP hD hS ls hl
  obtain ⟨hx, hb, hml, hown, hts, hK, hZ, hA, hlk, hr⟩ := id C
  have hl : lv_has ls 2 [(0, .ref (q 0)), (1, .int a1)] := hl
  rw [fX6_align.eq_1] at h
  refine lv_aload_n hx hb dX6_align_0 rfl (lv_at hl 0 rfl) ?_
  refine gf_RX6_30 C hP dX6_align_1 ?_
  refine lv_iload_n hx hb dX6_align_4 rfl (lv_at hl 1 rfl) ?_
  obtain ⟨r3, σ2, h1, h⟩ := bd2_some h
  refine goI C hD hS (runV (As := [.int a1]) (rest := []) (w := (xW G q σ)) C lc_RX6_139 (ctX0_goRounds N σ σ2 a1 r3 h1 _) hP hD hS (va_recv C.2.2.2.2.2.1 hP (ci := 0) (q0 := 4) rfl rfl) hl.1 rfl rfl (by decide) (by decide) (Nat.le_of_ble_eq_true rfl) dX6_align_5) (fun H locs hP hD hS => ?_)
  obtain ⟨rfl, rfl⟩ := so2 h
  exact retI C hP hD hS dX6_align_8

def fX6_fault (N : Nat) (σ : St) (a1 : Int32) : Option (Int32 × St) :=
  bd2 (fX2_addFault N σ a1) (fun r3 σ2 => some (r3, σ2))
set_option maxHeartbeats 4000000 in
set_option maxRecDepth 100000 in
theorem ctX6_fault {G : GP} {l : Launch} {q : Nat → Nat} (N : Nat) (σ σ' : St) (a1 : Int32) (r : Int32) (h : fX6_fault N σ a1 = some (r, σ')) : CI G l yX6_fault cX6_fault 2 (some .int) 2 [.ref (q 0), .int a1] (xW G q σ) (xW G q (σ')) r := by
  refine enterI (own := RX6) (by decide) rfl (Nat.le_of_ble_eq_true rfl) ?_
  intro p e s m args below meth c A C hP hD hS ls hl
  obtain ⟨hx, hb, hml, hown, hts, hK, hZ, hA, hlk, hr⟩ := id C
  have hl : lv_has ls 2 [(0, .ref (q 0)), (1, .int a1)] := hl
  rw [fX6_fault.eq_1] at h
  refine lv_aload_n hx hb dX6_fault_0 rfl (lv_at hl 0 rfl) ?_
  refine gf_RX6_37 C hP dX6_fault_1 ?_
  refine lv_iload_n hx hb dX6_fault_4 rfl (lv_at hl 1 rfl) ?_
  obtain ⟨r3, σ2, h1, h⟩ := bd2_some h
  refine goI C hD hS (runV (As := [.int a1]) (rest := []) (w := (xW G q σ)) C lc_RX6_142 (ctX2_addFault N σ σ2 a1 r3 h1 _) hP hD hS (va_recv C.2.2.2.2.2.1 hP (ci := 2) (q0 := 5) rfl rfl) hl.1 rfl rfl (by decide) (by decide) (Nat.le_of_ble_eq_true rfl) dX6_fault_5) (fun H locs hP hD hS => ?_)
  obtain ⟨rfl, rfl⟩ := so2 h
  exact retI C hP hD hS dX6_fault_8

def fX6_test (N : Nat) (σ : St) (a1 : Int32) : Option (Int32 × St) :=
  bd2 (fX2_addTest N σ a1) (fun r3 σ2 => some (r3, σ2))
set_option maxHeartbeats 4000000 in
set_option maxRecDepth 100000 in
theorem ctX6_test {G : GP} {l : Launch} {q : Nat → Nat} (N : Nat) (σ σ' : St) (a1 : Int32) (r : Int32) (h : fX6_test N σ a1 = some (r, σ')) : CI G l yX6_test cX6_test 2 (some .int) 2 [.ref (q 0), .int a1] (xW G q σ) (xW G q (σ')) r := by
  refine enterI (own := RX6) (by decide) rfl (Nat.le_of_ble_eq_true rfl) ?_
  intro p e s m args below meth c A C hP hD hS ls hl
  obtain ⟨hx, hb, hml, hown, hts, hK, hZ, hA, hlk, hr⟩ := id C
  have hl : lv_has ls 2 [(0, .ref (q 0)), (1, .int a1)] := hl
  rw [fX6_test.eq_1] at h
  refine lv_aload_n hx hb dX6_test_0 rfl (lv_at hl 0 rfl) ?_
  refine gf_RX6_37 C hP dX6_test_1 ?_
  refine lv_iload_n hx hb dX6_test_4 rfl (lv_at hl 1 rfl) ?_
  obtain ⟨r3, σ2, h1, h⟩ := bd2_some h
  refine goI C hD hS (runV (As := [.int a1]) (rest := []) (w := (xW G q σ)) C lc_RX6_145 (ctX2_addTest N σ σ2 a1 r3 h1 _) hP hD hS (va_recv C.2.2.2.2.2.1 hP (ci := 2) (q0 := 5) rfl rfl) hl.1 rfl rfl (by decide) (by decide) (Nat.le_of_ble_eq_true rfl) dX6_test_5) (fun H locs hP hD hS => ?_)
  obtain ⟨rfl, rfl⟩ := so2 h
  exact retI C hP hD hS dX6_test_8

def fX6_reading (N : Nat) (σ : St) (a1 : Int32) (a2 : Int32) (a3 : Int32) : Option (Int32 × St) :=
  bd2 (fX2_changeReading N σ a1 a2 a3) (fun r3 σ2 => some (r3, σ2))
set_option maxHeartbeats 4000000 in
set_option maxRecDepth 100000 in
theorem ctX6_reading {G : GP} {l : Launch} {q : Nat → Nat} (N : Nat) (σ σ' : St) (a1 : Int32) (a2 : Int32) (a3 : Int32) (r : Int32) (h : fX6_reading N σ a1 a2 a3 = some (r, σ')) : CI G l yX6_reading cX6_reading 4 (some .int) 3 [.ref (q 0), .int a1, .int a2, .int a3] (xW G q σ) (xW G q (σ')) r := by
  refine enterI (own := RX6) (by decide) rfl (Nat.le_of_ble_eq_true rfl) ?_
  intro p e s m args below meth c A C hP hD hS ls hl
  obtain ⟨hx, hb, hml, hown, hts, hK, hZ, hA, hlk, hr⟩ := id C
  have hl : lv_has ls 4 [(0, .ref (q 0)), (1, .int a1), (2, .int a2), (3, .int a3)] := hl
  rw [fX6_reading.eq_1] at h
  refine lv_aload_n hx hb dX6_reading_0 rfl (lv_at hl 0 rfl) ?_
  refine gf_RX6_37 C hP dX6_reading_1 ?_
  refine lv_iload_n hx hb dX6_reading_4 rfl (lv_at hl 1 rfl) ?_
  refine lv_iload_n hx hb dX6_reading_5 rfl (lv_at hl 2 rfl) ?_
  refine lv_iload_n hx hb dX6_reading_6 rfl (lv_at hl 3 rfl) ?_
  obtain ⟨r3, σ2, h1, h⟩ := bd2_some h
  refine goI C hD hS (runV (As := [.int a1, .int a2, .int a3]) (rest := []) (w := (xW G q σ)) C lc_RX6_148 (ctX2_changeReading N σ σ2 a1 a2 a3 r3 h1 _) hP hD hS (va_recv C.2.2.2.2.2.1 hP (ci := 2) (q0 := 5) rfl rfl) hl.1 rfl rfl (by decide) (by decide) (Nat.le_of_ble_eq_true rfl) dX6_reading_7) (fun H locs hP hD hS => ?_)
  obtain ⟨rfl, rfl⟩ := so2 h
  exact retI C hP hD hS dX6_reading_10

def fX6_read (N : Nat) (σ : St) (a1 : Int32) (a2 : Int32) : Option (Int32 × St) :=
  bd2 (fX2_takeReading N σ a1 a2) (fun r3 σ2 => some (r3, σ2))
set_option maxHeartbeats 4000000 in
set_option maxRecDepth 100000 in
theorem ctX6_read {G : GP} {l : Launch} {q : Nat → Nat} (N : Nat) (σ σ' : St) (a1 : Int32) (a2 : Int32) (r : Int32) (h : fX6_read N σ a1 a2 = some (r, σ')) : CI G l yX6_read cX6_read 3 (some .int) 3 [.ref (q 0), .int a1, .int a2] (xW G q σ) (xW G q (σ')) r := by
  refine enterI (own := RX6) (by decide) rfl (Nat.le_of_ble_eq_true rfl) ?_
  intro p e s m args below meth c A C hP hD hS ls hl
  obtain ⟨hx, hb, hml, hown, hts, hK, hZ, hA, hlk, hr⟩ := id C
  have hl : lv_has ls 3 [(0, .ref (q 0)), (1, .int a1), (2, .int a2)] := hl
  rw [fX6_read.eq_1] at h
  refine lv_aload_n hx hb dX6_read_0 rfl (lv_at hl 0 rfl) ?_
  refine gf_RX6_37 C hP dX6_read_1 ?_
  refine lv_iload_n hx hb dX6_read_4 rfl (lv_at hl 1 rfl) ?_
  refine lv_iload_n hx hb dX6_read_5 rfl (lv_at hl 2 rfl) ?_
  obtain ⟨r3, σ2, h1, h⟩ := bd2_some h
  refine goI C hD hS (runV (As := [.int a1, .int a2]) (rest := []) (w := (xW G q σ)) C lc_RX6_151 (ctX2_takeReading N σ σ2 a1 a2 r3 h1 _) hP hD hS (va_recv C.2.2.2.2.2.1 hP (ci := 2) (q0 := 5) rfl rfl) hl.1 rfl rfl (by decide) (by decide) (Nat.le_of_ble_eq_true rfl) dX6_read_6) (fun H locs hP hD hS => ?_)
  obtain ⟨rfl, rfl⟩ := so2 h
  exact retI C hP hD hS dX6_read_9

def fX6_again (N : Nat) (σ : St) : Option (Int32 × St) :=
  bd2 (fX2_startAgain N σ ) (fun r3 σ2 => some (r3, σ2))
set_option maxHeartbeats 4000000 in
set_option maxRecDepth 100000 in
theorem ctX6_again {G : GP} {l : Launch} {q : Nat → Nat} (N : Nat) (σ σ' : St) (r : Int32) (h : fX6_again N σ = some (r, σ')) : CI G l yX6_again cX6_again 1 (some .int) 2 [.ref (q 0)] (xW G q σ) (xW G q (σ')) r := by
  refine enterI (own := RX6) (by decide) rfl (Nat.le_of_ble_eq_true rfl) ?_
  intro p e s m args below meth c A C hP hD hS ls hl
  obtain ⟨hx, hb, hml, hown, hts, hK, hZ, hA, hlk, hr⟩ := id C
  have hl : lv_has ls 1 [(0, .ref (q 0))] := hl
  rw [fX6_again.eq_1] at h
  refine lv_aload_n hx hb dX6_again_0 rfl (lv_at hl 0 rfl) ?_
  refine gf_RX6_37 C hP dX6_again_1 ?_
  obtain ⟨r3, σ2, h1, h⟩ := bd2_some h
  refine goI C hD hS (runV (As := []) (rest := []) (w := (xW G q σ)) C lc_RX6_154 (ctX2_startAgain N σ σ2  r3 h1 _) hP hD hS (va_recv C.2.2.2.2.2.1 hP (ci := 2) (q0 := 5) rfl rfl) hl.1 rfl rfl (by decide) (by decide) (Nat.le_of_ble_eq_true rfl) dX6_again_4) (fun H locs hP hD hS => ?_)
  obtain ⟨rfl, rfl⟩ := so2 h
  exact retI C hP hD hS dX6_again_7

def fX6_left (N : Nat) (σ : St) (a1 : Int32) : Option (Int32 × St) :=
  (if a1 = 0 then bd1 (fX2_leftBits N σ ) (fun r3 => some (r3, σ)) else if a1 = 1 then bd1 (fX2_nextBest N σ ) (fun r6 => some (r6, σ)) else if a1 = 2 then bd2 (fX2_leastCost N σ 0) (fun r10 σ9 => some (r10, σ9)) else if a1 = 3 then bd2 (fX2_leastCost N σ 1) (fun r14 σ13 => some (r14, σ13)) else some ((-1), σ))
set_option maxHeartbeats 4000000 in
set_option maxRecDepth 100000 in
theorem ctX6_left {G : GP} {l : Launch} {q : Nat → Nat} (N : Nat) (σ σ' : St) (a1 : Int32) (r : Int32) (h : fX6_left N σ a1 = some (r, σ')) : CI G l yX6_left cX6_left 2 (some .int) 4 [.ref (q 0), .int a1] (xW G q σ) (xW G q (σ')) r := by
  refine enterI (own := RX6) (by decide) rfl (Nat.le_of_ble_eq_true rfl) ?_
  intro p e s m args below meth c A C hP hD hS ls hl
  obtain ⟨hx, hb, hml, hown, hts, hK, hZ, hA, hlk, hr⟩ := id C
  have hl : lv_has ls 2 [(0, .ref (q 0)), (1, .int a1)] := hl
  rw [fX6_left.eq_1] at h
  refine lv_iload_n hx hb dX6_left_0 rfl (lv_at hl 1 rfl) ?_
  by_cases c1 : a1 = 0
  · replace h := ifp c1 h
    refine lv_tableIn (off := 31) (tgt := 32) hx hb dX6_left_1 (by rw [c1]; decide) (by rw [c1]; decide) (by rw [c1]; rfl) (by decide) ?_
    refine lv_aload_n hx hb dX6_left_32 rfl (lv_at hl 0 rfl) ?_
    refine gf_RX6_37 C hP dX6_left_33 ?_
    obtain ⟨r3, h2, h⟩ := bd1_some h
    refine goI C hD hS (runV (As := []) (rest := []) (w := (xW G q σ)) C lc_RX6_157 (ctX2_leftBits N σ  r3 h2 _) hP hD hS (va_recv C.2.2.2.2.2.1 hP (ci := 2) (q0 := 5) rfl rfl) hl.1 rfl rfl (by decide) (by decide) (Nat.le_of_ble_eq_true rfl) dX6_left_36) (fun H locs hP hD hS => ?_)
    obtain ⟨rfl, rfl⟩ := so2 h
    exact retI C hP hD hS dX6_left_39
  · replace h := ifn c1 h
    by_cases c4 : a1 = 1
    · replace h := ifp c4 h
      refine lv_tableIn (off := 39) (tgt := 40) hx hb dX6_left_1 (by rw [c4]; decide) (by rw [c4]; decide) (by rw [c4]; rfl) (by decide) ?_
      refine lv_aload_n hx hb dX6_left_40 rfl (lv_at hl 0 rfl) ?_
      refine gf_RX6_37 C hP dX6_left_41 ?_
      obtain ⟨r6, h5, h⟩ := bd1_some h
      refine goI C hD hS (runV (As := []) (rest := []) (w := (xW G q σ)) C lc_RX6_160 (ctX2_nextBest N σ  r6 h5 _) hP hD hS (va_recv C.2.2.2.2.2.1 hP (ci := 2) (q0 := 5) rfl rfl) hl.1 rfl rfl (by decide) (by decide) (Nat.le_of_ble_eq_true rfl) dX6_left_44) (fun H locs hP hD hS => ?_)
      obtain ⟨rfl, rfl⟩ := so2 h
      exact retI C hP hD hS dX6_left_47
    · replace h := ifn c4 h
      by_cases c7 : a1 = 2
      · replace h := ifp c7 h
        refine lv_tableIn (off := 47) (tgt := 48) hx hb dX6_left_1 (by rw [c7]; decide) (by rw [c7]; decide) (by rw [c7]; rfl) (by decide) ?_
        refine lv_aload_n hx hb dX6_left_48 rfl (lv_at hl 0 rfl) ?_
        refine gf_RX6_37 C hP dX6_left_49 ?_
        refine lv_iconst (v := 0) hx hb dX6_left_52 (by decide) ?_
        obtain ⟨r10, σ9, h8, h⟩ := bd2_some h
        refine goI C hD hS (runV (As := [.int 0]) (rest := []) (w := (xW G q σ)) C lc_RX6_163 (ctX2_leastCost N σ σ9 0 r10 h8 _) hP hD hS (va_recv C.2.2.2.2.2.1 hP (ci := 2) (q0 := 5) rfl rfl) hl.1 rfl rfl (by decide) (by decide) (Nat.le_of_ble_eq_true rfl) dX6_left_53) (fun H locs hP hD hS => ?_)
        obtain ⟨rfl, rfl⟩ := so2 h
        exact retI C hP hD hS dX6_left_56
      · replace h := ifn c7 h
        by_cases c11 : a1 = 3
        · replace h := ifp c11 h
          refine lv_tableIn (off := 56) (tgt := 57) hx hb dX6_left_1 (by rw [c11]; decide) (by rw [c11]; decide) (by rw [c11]; rfl) (by decide) ?_
          refine lv_aload_n hx hb dX6_left_57 rfl (lv_at hl 0 rfl) ?_
          refine gf_RX6_37 C hP dX6_left_58 ?_
          refine lv_iconst (v := 1) hx hb dX6_left_61 (by decide) ?_
          obtain ⟨r14, σ13, h12, h⟩ := bd2_some h
          refine goI C hD hS (runV (As := [.int 1]) (rest := []) (w := (xW G q σ)) C lc_RX6_163 (ctX2_leastCost N σ σ13 1 r14 h12 _) hP hD hS (va_recv C.2.2.2.2.2.1 hP (ci := 2) (q0 := 5) rfl rfl) hl.1 rfl rfl (by decide) (by decide) (Nat.le_of_ble_eq_true rfl) dX6_left_62) (fun H locs hP hD hS => ?_)
          obtain ⟨rfl, rfl⟩ := so2 h
          exact retI C hP hD hS dX6_left_65
        · replace h := ifn c11 h
          refine lv_tableOut (tgt := 66) hx hb dX6_left_1 (sw_out 3 (by decide) (fun k hk => by rcases (show k = 0 ∨ k = 1 ∨ k = 2 ∨ k = 3 by omega) with rfl | rfl | rfl | rfl <;> assumption)) (by decide) ?_
          refine lv_iconst (v := (-1)) hx hb dX6_left_66 (by decide) ?_
          obtain ⟨rfl, rfl⟩ := so2 h
          exact retI C hP hD hS dX6_left_67

def fX6_count (N : Nat) (σ : St) (a1 : Int32) : Option (Int32 × St) :=
  (if a1 = 0 then bd1 (fX1_stations N σ ) (fun r3 => some (r3, σ)) else if a1 = 1 then bd2 (fX1_spursOfAll N σ ) (fun r7 σ6 => some (r7, σ6)) else if a1 = 2 then bd1 (fX5_points N σ ) (fun r10 => some (r10, σ)) else if a1 = 3 then bd1 (fX0_sets N σ ) (fun r13 => some (r13, σ)) else if a1 = 4 then bd1 (fX0_lines N σ ) (fun r16 => some (r16, σ)) else if a1 = 5 then bd1 (fX2_faults N σ ) (fun r19 => some (r19, σ)) else if a1 = 6 then bd1 (fX2_tests N σ ) (fun r22 => some (r22, σ)) else some ((-1), σ))
set_option maxHeartbeats 4000000 in
set_option maxRecDepth 100000 in
theorem ctX6_count {G : GP} {l : Launch} {q : Nat → Nat} (N : Nat) (σ σ' : St) (a1 : Int32) (r : Int32) (h : fX6_count N σ a1 = some (r, σ')) : CI G l yX6_count cX6_count 2 (some .int) 6 [.ref (q 0), .int a1] (xW G q σ) (xW G q (σ')) r := by
  refine enterI (own := RX6) (by decide) rfl (Nat.le_of_ble_eq_true rfl) ?_
  intro p e s m args below meth c A C hP hD hS ls hl
  obtain ⟨hx, hb, hml, hown, hts, hK, hZ, hA, hlk, hr⟩ := id C
  have hl : lv_has ls 2 [(0, .ref (q 0)), (1, .int a1)] := hl
  rw [fX6_count.eq_1] at h
  refine lv_iload_n hx hb dX6_count_0 rfl (lv_at hl 1 rfl) ?_
  by_cases c1 : a1 = 0
  · replace h := ifp c1 h
    refine lv_tableIn (off := 43) (tgt := 44) hx hb dX6_count_1 (by rw [c1]; decide) (by rw [c1]; decide) (by rw [c1]; rfl) (by decide) ?_
    refine lv_aload_n hx hb dX6_count_44 rfl (lv_at hl 0 rfl) ?_
    refine gf_RX6_12 C hP dX6_count_45 ?_
    obtain ⟨r3, h2, h⟩ := bd1_some h
    refine goI C hD hS (runV (As := []) (rest := []) (w := (xW G q σ)) C lc_RX6_167 (ctX1_stations N σ  r3 h2 _) hP hD hS (va_recv C.2.2.2.2.2.1 hP (ci := 1) (q0 := 1) rfl rfl) hl.1 rfl rfl (by decide) (by decide) (Nat.le_of_ble_eq_true rfl) dX6_count_48) (fun H locs hP hD hS => ?_)
    obtain ⟨rfl, rfl⟩ := so2 h
    exact retI C hP hD hS dX6_count_51
  · replace h := ifn c1 h
    by_cases c4 : a1 = 1
    · replace h := ifp c4 h
      refine lv_tableIn (off := 51) (tgt := 52) hx hb dX6_count_1 (by rw [c4]; decide) (by rw [c4]; decide) (by rw [c4]; rfl) (by decide) ?_
      refine lv_aload_n hx hb dX6_count_52 rfl (lv_at hl 0 rfl) ?_
      refine gf_RX6_12 C hP dX6_count_53 ?_
      obtain ⟨r7, σ6, h5, h⟩ := bd2_some h
      refine goI C hD hS (runV (As := []) (rest := []) (w := (xW G q σ)) C lc_RX6_170 (ctX1_spursOfAll N σ σ6  r7 h5 _) hP hD hS (va_recv C.2.2.2.2.2.1 hP (ci := 1) (q0 := 1) rfl rfl) hl.1 rfl rfl (by decide) (by decide) (Nat.le_of_ble_eq_true rfl) dX6_count_56) (fun H locs hP hD hS => ?_)
      obtain ⟨rfl, rfl⟩ := so2 h
      exact retI C hP hD hS dX6_count_59
    · replace h := ifn c4 h
      by_cases c8 : a1 = 2
      · replace h := ifp c8 h
        refine lv_tableIn (off := 59) (tgt := 60) hx hb dX6_count_1 (by rw [c8]; decide) (by rw [c8]; decide) (by rw [c8]; rfl) (by decide) ?_
        refine lv_aload_n hx hb dX6_count_60 rfl (lv_at hl 0 rfl) ?_
        refine gf_RX6_21 C hP dX6_count_61 ?_
        obtain ⟨r10, h9, h⟩ := bd1_some h
        refine goI C hD hS (runV (As := []) (rest := []) (w := (xW G q σ)) C lc_RX6_173 (ctX5_points N σ  r10 h9 _) hP hD hS (va_recv C.2.2.2.2.2.1 hP (ci := 5) (q0 := 3) rfl rfl) hl.1 rfl rfl (by decide) (by decide) (Nat.le_of_ble_eq_true rfl) dX6_count_64) (fun H locs hP hD hS => ?_)
        obtain ⟨rfl, rfl⟩ := so2 h
        exact retI C hP hD hS dX6_count_67
      · replace h := ifn c8 h
        by_cases c11 : a1 = 3
        · replace h := ifp c11 h
          refine lv_tableIn (off := 67) (tgt := 68) hx hb dX6_count_1 (by rw [c11]; decide) (by rw [c11]; decide) (by rw [c11]; rfl) (by decide) ?_
          refine lv_aload_n hx hb dX6_count_68 rfl (lv_at hl 0 rfl) ?_
          refine gf_RX6_30 C hP dX6_count_69 ?_
          obtain ⟨r13, h12, h⟩ := bd1_some h
          refine goI C hD hS (runV (As := []) (rest := []) (w := (xW G q σ)) C lc_RX6_176 (ctX0_sets N σ  r13 h12 _) hP hD hS (va_recv C.2.2.2.2.2.1 hP (ci := 0) (q0 := 4) rfl rfl) hl.1 rfl rfl (by decide) (by decide) (Nat.le_of_ble_eq_true rfl) dX6_count_72) (fun H locs hP hD hS => ?_)
          obtain ⟨rfl, rfl⟩ := so2 h
          exact retI C hP hD hS dX6_count_75
        · replace h := ifn c11 h
          by_cases c14 : a1 = 4
          · replace h := ifp c14 h
            refine lv_tableIn (off := 75) (tgt := 76) hx hb dX6_count_1 (by rw [c14]; decide) (by rw [c14]; decide) (by rw [c14]; rfl) (by decide) ?_
            refine lv_aload_n hx hb dX6_count_76 rfl (lv_at hl 0 rfl) ?_
            refine gf_RX6_30 C hP dX6_count_77 ?_
            obtain ⟨r16, h15, h⟩ := bd1_some h
            refine goI C hD hS (runV (As := []) (rest := []) (w := (xW G q σ)) C lc_RX6_179 (ctX0_lines N σ  r16 h15 _) hP hD hS (va_recv C.2.2.2.2.2.1 hP (ci := 0) (q0 := 4) rfl rfl) hl.1 rfl rfl (by decide) (by decide) (Nat.le_of_ble_eq_true rfl) dX6_count_80) (fun H locs hP hD hS => ?_)
            obtain ⟨rfl, rfl⟩ := so2 h
            exact retI C hP hD hS dX6_count_83
          · replace h := ifn c14 h
            by_cases c17 : a1 = 5
            · replace h := ifp c17 h
              refine lv_tableIn (off := 83) (tgt := 84) hx hb dX6_count_1 (by rw [c17]; decide) (by rw [c17]; decide) (by rw [c17]; rfl) (by decide) ?_
              refine lv_aload_n hx hb dX6_count_84 rfl (lv_at hl 0 rfl) ?_
              refine gf_RX6_37 C hP dX6_count_85 ?_
              obtain ⟨r19, h18, h⟩ := bd1_some h
              refine goI C hD hS (runV (As := []) (rest := []) (w := (xW G q σ)) C lc_RX6_182 (ctX2_faults N σ  r19 h18 _) hP hD hS (va_recv C.2.2.2.2.2.1 hP (ci := 2) (q0 := 5) rfl rfl) hl.1 rfl rfl (by decide) (by decide) (Nat.le_of_ble_eq_true rfl) dX6_count_88) (fun H locs hP hD hS => ?_)
              obtain ⟨rfl, rfl⟩ := so2 h
              exact retI C hP hD hS dX6_count_91
            · replace h := ifn c17 h
              by_cases c20 : a1 = 6
              · replace h := ifp c20 h
                refine lv_tableIn (off := 91) (tgt := 92) hx hb dX6_count_1 (by rw [c20]; decide) (by rw [c20]; decide) (by rw [c20]; rfl) (by decide) ?_
                refine lv_aload_n hx hb dX6_count_92 rfl (lv_at hl 0 rfl) ?_
                refine gf_RX6_37 C hP dX6_count_93 ?_
                obtain ⟨r22, h21, h⟩ := bd1_some h
                refine goI C hD hS (runV (As := []) (rest := []) (w := (xW G q σ)) C lc_RX6_185 (ctX2_tests N σ  r22 h21 _) hP hD hS (va_recv C.2.2.2.2.2.1 hP (ci := 2) (q0 := 5) rfl rfl) hl.1 rfl rfl (by decide) (by decide) (Nat.le_of_ble_eq_true rfl) dX6_count_96) (fun H locs hP hD hS => ?_)
                obtain ⟨rfl, rfl⟩ := so2 h
                exact retI C hP hD hS dX6_count_99
              · replace h := ifn c20 h
                refine lv_tableOut (tgt := 100) hx hb dX6_count_1 (sw_out 6 (by decide) (fun k hk => by rcases (show k = 0 ∨ k = 1 ∨ k = 2 ∨ k = 3 ∨ k = 4 ∨ k = 5 ∨ k = 6 by omega) with rfl | rfl | rfl | rfl | rfl | rfl | rfl <;> assumption)) (by decide) ?_
                refine lv_iconst (v := (-1)) hx hb dX6_count_100 (by decide) ?_
                obtain ⟨rfl, rfl⟩ := so2 h
                exact retI C hP hD hS dX6_count_101

end
