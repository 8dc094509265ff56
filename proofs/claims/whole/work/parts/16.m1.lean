section
variable {G : GP} {p : Program} {l : Launch} {e : Env} {s : State} {m : MethodId} {args : Array Value} {below : List Frame} {meth : Method} {c : Code} {Q : State → Prop} {A : Nat → Prop}
def fM_within (N : Nat) (a1 : Int32) (a2 : Int32) (a3 : Int32) : Option Int32 :=
  (if a1 < a2 then some 0 else (if a3 < a1 then some 0 else some 1))
set_option maxHeartbeats 4000000 in
set_option maxRecDepth 100000 in
theorem ctM_within {G : GP} {l : Launch} {w : va_W} (N : Nat) (a1 : Int32) (a2 : Int32) (a3 : Int32) (r : Int32) (h : fM_within N a1 a2 a3 = some r) : CI G l yX7_within cX7_within 3 (some .boolean) 0 [.int a1, .int a2, .int a3] w w r := by
  refine enterI (own := RX7) (by decide) rfl (Nat.le_of_ble_eq_true rfl) ?_
  intro p e s m args below meth c A C hP hD hS ls hl
  obtain ⟨hx, hb, hml, hown, hts, hK, hZ, hA, hlk, hr⟩ := id C
  have hl : lv_has ls 3 [(0, .int a1), (1, .int a2), (2, .int a3)] := hl
  rw [fM_within.eq_1] at h
  refine lv_iload_n hx hb dX7_within_0 rfl (lv_at hl 0 rfl) ?_
  refine lv_iload_n hx hb dX7_within_1 rfl (lv_at hl 1 rfl) ?_
  refine lv_icmp_lt (tgt := 14) hx hb dX7_within_2 (by decide) (fun c1 => ?_) (fun c1 => ?_)
  · replace h := ifp c1 h
    refine lv_iconst (v := 0) hx hb dX7_within_14 (by decide) ?_
    obtain rfl := so1 h
    exact retZ C hP hD hS (by decide) dX7_within_15
  · replace h := ifn c1 h
    refine lv_iload_n hx hb dX7_within_5 rfl (lv_at hl 0 rfl) ?_
    refine lv_iload_n hx hb dX7_within_6 rfl (lv_at hl 2 rfl) ?_
    refine lv_icmp_gt (tgt := 14) hx hb dX7_within_7 (by decide) (fun c2 => ?_) (fun c2 => ?_)
    · replace h := ifp c2 h
      refine lv_iconst (v := 0) hx hb dX7_within_14 (by decide) ?_
      obtain rfl := so1 h
      exact retZ C hP hD hS (by decide) dX7_within_15
    · replace h := ifn c2 h
      refine lv_iconst (v := 1) hx hb dX7_within_10 (by decide) ?_
      refine lv_goto (tgt := 15) hx hb dX7_within_11 (by decide) ?_
      obtain rfl := so1 h
      exact retZ C hP hD hS (by decide) dX7_within_15

def fM_size (N : Nat) (a1 : Int32) : Option Int32 :=
  (if 0 ≤ a1 then some a1 else some (-a1))
set_option maxHeartbeats 4000000 in
set_option maxRecDepth 100000 in
theorem ctM_size {G : GP} {l : Launch} {w : va_W} (N : Nat) (a1 : Int32) (r : Int32) (h : fM_size N a1 = some r) : CI G l yX7_size cX7_size 1 (some .int) 0 [.int a1] w w r := by
  refine enterI (own := RX7) (by decide) rfl (Nat.le_of_ble_eq_true rfl) ?_
  intro p e s m args below meth c A C hP hD hS ls hl
  obtain ⟨hx, hb, hml, hown, hts, hK, hZ, hA, hlk, hr⟩ := id C
  have hl : lv_has ls 1 [(0, .int a1)] := hl
  rw [fM_size.eq_1] at h
  refine lv_iload_n hx hb dX7_size_0 rfl (lv_at hl 0 rfl) ?_
  refine lv_if_ge (tgt := 9) hx hb dX7_size_1 (by decide) (fun c1 => ?_) (fun c1 => ?_)
  · replace h := ifp c1 h
    refine lv_iload_n hx hb dX7_size_9 rfl (lv_at hl 0 rfl) ?_
    obtain rfl := so1 h
    exact retI C hP hD hS dX7_size_10
  · replace h := ifn c1 h
    refine lv_iload_n hx hb dX7_size_4 rfl (lv_at hl 0 rfl) ?_
    refine lv_ineg hx hb dX7_size_5 ?_
    refine lv_goto (tgt := 10) hx hb dX7_size_6 (by decide) ?_
    obtain rfl := so1 h
    exact retI C hP hD hS dX7_size_10

def fM_isStation (N : Nat) (σ : St) (a1 : Int32) : Option Int32 :=
  (if a1 < 0 then some 0 else (if (σ.1 0) ≤ a1 then some 0 else some 1))
set_option maxHeartbeats 4000000 in
set_option maxRecDepth 100000 in
theorem ctM_isStation {G : GP} {l : Launch} {q : Nat → Nat} (N : Nat) (σ : St) (a1 : Int32) (r : Int32) (h : fM_isStation N σ a1 = some r) : CI G l yX7_isStation cX7_isStation 2 (some .boolean) 0 [.ref (q 0), .int a1] (mW G q σ) (mW G q σ) r := by
  refine enterI (own := RX7) (by decide) rfl (Nat.le_of_ble_eq_true rfl) ?_
  intro p e s m args below meth c A C hP hD hS ls hl
  obtain ⟨hx, hb, hml, hown, hts, hK, hZ, hA, hlk, hr⟩ := id C
  have hl : lv_has ls 2 [(0, .ref (q 0)), (1, .int a1)] := hl
  rw [fM_isStation.eq_1] at h
  refine lv_iload_n hx hb dX7_isStation_0 rfl (lv_at hl 1 rfl) ?_
  refine lv_if_lt (tgt := 16) hx hb dX7_isStation_1 (by decide) (fun c1 => ?_) (fun c1 => ?_)
  · replace h := ifp c1 h
    refine lv_iconst (v := 0) hx hb dX7_isStation_16 (by decide) ?_
    obtain rfl := so1 h
    exact retZ C hP hD hS (by decide) dX7_isStation_17
  · replace h := ifn c1 h
    refine lv_iload_n hx hb dX7_isStation_4 rfl (lv_at hl 1 rfl) ?_
    refine lv_aload_n hx hb dX7_isStation_5 rfl (lv_at hl 0 rfl) ?_
    refine gf_RX7_72 C hP dX7_isStation_6 ?_
    refine lv_icmp_ge (tgt := 16) hx hb dX7_isStation_9 (by decide) (fun c2 => ?_) (fun c2 => ?_)
    · replace h := ifp c2 h
      refine lv_iconst (v := 0) hx hb dX7_isStation_16 (by decide) ?_
      obtain rfl := so1 h
      exact retZ C hP hD hS (by decide) dX7_isStation_17
    · replace h := ifn c2 h
      refine lv_iconst (v := 1) hx hb dX7_isStation_12 (by decide) ?_
      refine lv_goto (tgt := 17) hx hb dX7_isStation_13 (by decide) ?_
      obtain rfl := so1 h
      exact retZ C hP hD hS (by decide) dX7_isStation_17

def fM_station (N : Nat) (σ : St) (a1 : Int32) (a2 : Int32) : Option (Int32 × St) :=
  bd1 (fM_within N a1 100 3000) (fun r2 => (if r2 = 0 then some ((-1), σ) else bd1 (fM_within N a2 1 999) (fun r5 => (if r5 = 0 then some ((-1), σ) else (if (σ.1 0) = 20 then some ((-2), σ) else gi (σ.1 0) 20 (gi (σ.1 0) 20 (some ((((σ.1 0) + 1) - 1), (s1 (sA (sA σ 0 (σ.1 0).toNatClampNeg a1) 1 (σ.1 0).toNatClampNeg a2) 0 ((σ.1 0) + 1))))))))))
set_option maxHeartbeats 4000000 in
set_option maxRecDepth 100000 in
theorem ctM_station {G : GP} {l : Launch} {q : Nat → Nat} (N : Nat) (σ σ' : St) (a1 : Int32) (a2 : Int32) (r : Int32) (h : fM_station N σ a1 a2 = some (r, σ')) : CI G l yX7_station cX7_station 3 (some .int) 1 [.ref (q 0), .int a1, .int a2] (mW G q σ) (mW G q (σ')) r := by
  refine enterI (own := RX7) (by decide) rfl (Nat.le_of_ble_eq_true rfl) ?_
  intro p e s m args below meth c A C hP hD hS ls hl
  obtain ⟨hx, hb, hml, hown, hts, hK, hZ, hA, hlk, hr⟩ := id C
  have hl : lv_has ls 3 [(0, .ref (q 0)), (1, .int a1), (2, .int a2)] := hl
  rw [fM_station.eq_1] at h
  refine lv_iload_n hx hb dX7_station_0 rfl (lv_at hl 1 rfl) ?_
  refine lv_bipush (v := 100) hx hb dX7_station_1 (by decide) ?_
  refine lv_sipush (v := 3000) hx hb dX7_station_3 (by decide) ?_
  obtain ⟨r2, h1, h⟩ := bd1_some h
  refine goI C hD hS (runS (As := [.int a1, .int 100, .int 3000]) (rest := []) (w := (mW G q σ)) C lc_RX7_75 (ctM_within (w := (mW G q σ)) N a1 100 3000 r2 h1 _) hP hD hS hl.1 rfl rfl (by decide) (by decide) (Nat.le_of_ble_eq_true rfl) dX7_station_6) (fun H locs hP hD hS => ?_)
  refine lv_if_eq (tgt := 23) hx hb dX7_station_9 (by decide) (fun c3 => ?_) (fun c3 => ?_)
  · replace h := ifp c3 h
    refine lv_iconst (v := (-1)) hx hb dX7_station_23 (by decide) ?_
    obtain ⟨rfl, rfl⟩ := so2 h
    exact retI C hP hD hS dX7_station_24
  · replace h := ifn c3 h
    refine lv_iload_n hx hb dX7_station_12 rfl (lv_at hl 2 rfl) ?_
    refine lv_iconst (v := 1) hx hb dX7_station_13 (by decide) ?_
    refine lv_sipush (v := 999) hx hb dX7_station_14 (by decide) ?_
    obtain ⟨r5, h4, h⟩ := bd1_some h
    refine goI C hD hS (runS (As := [.int a2, .int 1, .int 999]) (rest := []) (w := (mW G q σ)) C lc_RX7_75 (ctM_within (w := (mW G q σ)) N a2 1 999 r5 h4 _) hP hD hS hl.1 rfl rfl (by decide) (by decide) (Nat.le_of_ble_eq_true rfl) dX7_station_17) (fun H locs hP hD hS => ?_)
    refine lv_if_ne (tgt := 25) hx hb dX7_station_20 (by decide) (fun c6 => ?_) (fun c6 => ?_)
    · replace h := ifn c6 h
      refine lv_aload_n hx hb dX7_station_25 rfl (lv_at hl 0 rfl) ?_
      refine gf_RX7_72 C hP dX7_station_26 ?_
      refine lv_bipush (v := 20) hx hb dX7_station_29 (by decide) ?_
      refine lv_icmp_ne (tgt := 37) hx hb dX7_station_31 (by decide) (fun c7 => ?_) (fun c7 => ?_)
      · replace h := ifn c7 h
        refine lv_aload_n hx hb dX7_station_37 rfl (lv_at hl 0 rfl) ?_
        refine gf_RX7_9 C hP dX7_station_38 ?_
        refine lv_aload_n hx hb dX7_station_41 rfl (lv_at hl 0 rfl) ?_
        refine gf_RX7_72 C hP dX7_station_42 ?_
        refine lv_iload_n hx hb dX7_station_45 rfl (lv_at hl 1 rfl) ?_
        obtain ⟨i8, h⟩ := gi_some h
        refine stM_0 C hP hD hS i8 dX7_station_46 (fun H locs hP hD hS => ?_)
        refine lv_aload_n hx hb dX7_station_47 rfl (lv_at hl 0 rfl) ?_
        refine gf_RX7_13 C hP dX7_station_48 ?_
        refine lv_aload_n hx hb dX7_station_51 rfl (lv_at hl 0 rfl) ?_
        refine gf_RX7_72 C hP dX7_station_52 ?_
        refine lv_cv (y := (σ.1 0)) rfl ?_
        refine lv_iload_n hx hb dX7_station_55 rfl (lv_at hl 2 rfl) ?_
        obtain ⟨i9, h⟩ := gi_some h
        refine stM_1 C hP hD hS i9 dX7_station_56 (fun H locs hP hD hS => ?_)
        refine lv_aload_n hx hb dX7_station_57 rfl (lv_at hl 0 rfl) ?_
        refine lv_dup hx hb dX7_station_58 rfl ?_
        refine gf_RX7_72 C hP dX7_station_59 ?_
        refine lv_cv (y := (σ.1 0)) rfl ?_
        refine lv_iconst (v := 1) hx hb dX7_station_62 (by decide) ?_
        refine lv_iadd hx hb dX7_station_63 ?_
        refine pf_RX7_72 C hP hD hS dX7_station_64 (fun H locs hP hD hS => ?_)
        refine lv_aload_n hx hb dX7_station_67 rfl (lv_at hl 0 rfl) ?_
        refine gf_RX7_72 C hP dX7_station_68 ?_
        refine lv_cv (y := ((σ.1 0) + 1)) rfl ?_
        refine lv_iconst (v := 1) hx hb dX7_station_71 (by decide) ?_
        refine lv_isub hx hb dX7_station_72 ?_
        obtain ⟨rfl, rfl⟩ := so2 h
        exact retI C hP hD hS dX7_station_73
      · replace h := ifp c7 h
        refine lv_bipush (v := (-2)) hx hb dX7_station_34 (by decide) ?_
        obtain ⟨rfl, rfl⟩ := so2 h
        exact retI C hP hD hS dX7_station_36
    · replace h := ifp c6 h
      refine lv_iconst (v := (-1)) hx hb dX7_station_23 (by decide) ?_
      obtain ⟨rfl, rfl⟩ := so2 h
      exact retI C hP hD hS dX7_station_24

def fM_isMiddle (N : Nat) (a1 : Int32) : Option Int32 :=
  bd1 (fM_within N a1 20 900) (fun r2 => bz r2 (some r2))
set_option maxHeartbeats 4000000 in
set_option maxRecDepth 100000 in
theorem ctM_isMiddle {G : GP} {l : Launch} {w : va_W} (N : Nat) (a1 : Int32) (r : Int32) (h : fM_isMiddle N a1 = some r) : CI G l yX7_isMiddle cX7_isMiddle 1 (some .boolean) 1 [.int a1] w w r := by
  refine enterI (own := RX7) (by decide) rfl (Nat.le_of_ble_eq_true rfl) ?_
  intro p e s m args below meth c A C hP hD hS ls hl
  obtain ⟨hx, hb, hml, hown, hts, hK, hZ, hA, hlk, hr⟩ := id C
  have hl : lv_has ls 1 [(0, .int a1)] := hl
  rw [fM_isMiddle.eq_1] at h
  refine lv_iload_n hx hb dX7_isMiddle_0 rfl (lv_at hl 0 rfl) ?_
  refine lv_bipush (v := 20) hx hb dX7_isMiddle_1 (by decide) ?_
  refine lv_sipush (v := 900) hx hb dX7_isMiddle_3 (by decide) ?_
  obtain ⟨r2, h1, h⟩ := bd1_some h
  refine goI C hD hS (runS (As := [.int a1, .int 20, .int 900]) (rest := []) (w := w) C lc_RX7_75 (ctM_within (w := w) N a1 20 900 r2 h1 _) hP hD hS hl.1 rfl rfl (by decide) (by decide) (Nat.le_of_ble_eq_true rfl) dX7_isMiddle_6) (fun H locs hP hD hS => ?_)
  obtain ⟨b3, h⟩ := bz_some h
  obtain rfl := so1 h
  exact retZ C hP hD hS b3 dX7_isMiddle_9

def fM_plan (N : Nat) (σ : St) (a1 : Int32) (a2 : Int32) : Option (Int32 × St) :=
  (if a1 = 0 then bd1 (fM_isMiddle N a2) (fun r93 => (if r93 = 0 then some ((-1), σ) else (if a1 = 0 then (if a1 = 0 then some ((σ.1 1), (s1 σ 1 a2)) else (if a1 = 1 then some ((σ.1 1), (s1 σ 2 a2)) else (if a1 = 2 then some ((σ.1 1), (s1 σ 3 a2)) else some ((σ.1 1), (s1 σ 4 a2))))) else (if a1 = 1 then (if a1 = 0 then some ((σ.1 2), (s1 σ 1 a2)) else (if a1 = 1 then some ((σ.1 2), (s1 σ 2 a2)) else (if a1 = 2 then some ((σ.1 2), (s1 σ 3 a2)) else some ((σ.1 2), (s1 σ 4 a2))))) else (if a1 = 2 then (if a1 = 0 then some ((σ.1 3), (s1 σ 1 a2)) else (if a1 = 1 then some ((σ.1 3), (s1 σ 2 a2)) else (if a1 = 2 then some ((σ.1 3), (s1 σ 3 a2)) else some ((σ.1 3), (s1 σ 4 a2))))) else (if a1 = 0 then some ((σ.1 4), (s1 σ 1 a2)) else (if a1 = 1 then some ((σ.1 4), (s1 σ 2 a2)) else (if a1 = 2 then some ((σ.1 4), (s1 σ 3 a2)) else some ((σ.1 4), (s1 σ 4 a2)))))))))) else (if a1 = 1 then bd1 (fM_within N a2 0 1) (fun r75 => (if r75 = 0 then some ((-1), σ) else (if a1 = 0 then (if a1 = 0 then some ((σ.1 1), (s1 σ 1 a2)) else (if a1 = 1 then some ((σ.1 1), (s1 σ 2 a2)) else (if a1 = 2 then some ((σ.1 1), (s1 σ 3 a2)) else some ((σ.1 1), (s1 σ 4 a2))))) else (if a1 = 1 then (if a1 = 0 then some ((σ.1 2), (s1 σ 1 a2)) else (if a1 = 1 then some ((σ.1 2), (s1 σ 2 a2)) else (if a1 = 2 then some ((σ.1 2), (s1 σ 3 a2)) else some ((σ.1 2), (s1 σ 4 a2))))) else (if a1 = 2 then (if a1 = 0 then some ((σ.1 3), (s1 σ 1 a2)) else (if a1 = 1 then some ((σ.1 3), (s1 σ 2 a2)) else (if a1 = 2 then some ((σ.1 3), (s1 σ 3 a2)) else some ((σ.1 3), (s1 σ 4 a2))))) else (if a1 = 0 then some ((σ.1 4), (s1 σ 1 a2)) else (if a1 = 1 then some ((σ.1 4), (s1 σ 2 a2)) else (if a1 = 2 then some ((σ.1 4), (s1 σ 3 a2)) else some ((σ.1 4), (s1 σ 4 a2)))))))))) else (if a1 = 2 then bd1 (fM_within N a2 1 5) (fun r57 => (if r57 = 0 then some ((-1), σ) else (if a1 = 0 then (if a1 = 0 then some ((σ.1 1), (s1 σ 1 a2)) else (if a1 = 1 then some ((σ.1 1), (s1 σ 2 a2)) else (if a1 = 2 then some ((σ.1 1), (s1 σ 3 a2)) else some ((σ.1 1), (s1 σ 4 a2))))) else (if a1 = 1 then (if a1 = 0 then some ((σ.1 2), (s1 σ 1 a2)) else (if a1 = 1 then some ((σ.1 2), (s1 σ 2 a2)) else (if a1 = 2 then some ((σ.1 2), (s1 σ 3 a2)) else some ((σ.1 2), (s1 σ 4 a2))))) else (if a1 = 2 then (if a1 = 0 then some ((σ.1 3), (s1 σ 1 a2)) else (if a1 = 1 then some ((σ.1 3), (s1 σ 2 a2)) else (if a1 = 2 then some ((σ.1 3), (s1 σ 3 a2)) else some ((σ.1 3), (s1 σ 4 a2))))) else (if a1 = 0 then some ((σ.1 4), (s1 σ 1 a2)) else (if a1 = 1 then some ((σ.1 4), (s1 σ 2 a2)) else (if a1 = 2 then some ((σ.1 4), (s1 σ 3 a2)) else some ((σ.1 4), (s1 σ 4 a2)))))))))) else (if a1 = 3 then bd1 (fM_within N a2 0 50) (fun r22 => (if r22 = 0 then (if (0 : Int32) = 0 then some ((-1), σ) else (if a1 = 0 then (if a1 = 0 then some ((σ.1 1), (s1 σ 1 a2)) else (if a1 = 1 then some ((σ.1 1), (s1 σ 2 a2)) else (if a1 = 2 then some ((σ.1 1), (s1 σ 3 a2)) else some ((σ.1 1), (s1 σ 4 a2))))) else (if a1 = 1 then (if a1 = 0 then some ((σ.1 2), (s1 σ 1 a2)) else (if a1 = 1 then some ((σ.1 2), (s1 σ 2 a2)) else (if a1 = 2 then some ((σ.1 2), (s1 σ 3 a2)) else some ((σ.1 2), (s1 σ 4 a2))))) else (if a1 = 2 then (if a1 = 0 then some ((σ.1 3), (s1 σ 1 a2)) else (if a1 = 1 then some ((σ.1 3), (s1 σ 2 a2)) else (if a1 = 2 then some ((σ.1 3), (s1 σ 3 a2)) else some ((σ.1 3), (s1 σ 4 a2))))) else (if a1 = 0 then some ((σ.1 4), (s1 σ 1 a2)) else (if a1 = 1 then some ((σ.1 4), (s1 σ 2 a2)) else (if a1 = 2 then some ((σ.1 4), (s1 σ 3 a2)) else some ((σ.1 4), (s1 σ 4 a2))))))))) else (if (1 : Int32) = 0 then some ((-1), σ) else (if a1 = 0 then (if a1 = 0 then some ((σ.1 1), (s1 σ 1 a2)) else (if a1 = 1 then some ((σ.1 1), (s1 σ 2 a2)) else (if a1 = 2 then some ((σ.1 1), (s1 σ 3 a2)) else some ((σ.1 1), (s1 σ 4 a2))))) else (if a1 = 1 then (if a1 = 0 then some ((σ.1 2), (s1 σ 1 a2)) else (if a1 = 1 then some ((σ.1 2), (s1 σ 2 a2)) else (if a1 = 2 then some ((σ.1 2), (s1 σ 3 a2)) else some ((σ.1 2), (s1 σ 4 a2))))) else (if a1 = 2 then (if a1 = 0 then some ((σ.1 3), (s1 σ 1 a2)) else (if a1 = 1 then some ((σ.1 3), (s1 σ 2 a2)) else (if a1 = 2 then some ((σ.1 3), (s1 σ 3 a2)) else some ((σ.1 3), (s1 σ 4 a2))))) else (if a1 = 0 then some ((σ.1 4), (s1 σ 1 a2)) else (if a1 = 1 then some ((σ.1 4), (s1 σ 2 a2)) else (if a1 = 2 then some ((σ.1 4), (s1 σ 3 a2)) else some ((σ.1 4), (s1 σ 4 a2))))))))))) else (if (0 : Int32) = 0 then some ((-1), σ) else (if a1 = 0 then (if a1 = 0 then some ((σ.1 1), (s1 σ 1 a2)) else (if a1 = 1 then some ((σ.1 1), (s1 σ 2 a2)) else (if a1 = 2 then some ((σ.1 1), (s1 σ 3 a2)) else some ((σ.1 1), (s1 σ 4 a2))))) else (if a1 = 1 then (if a1 = 0 then some ((σ.1 2), (s1 σ 1 a2)) else (if a1 = 1 then some ((σ.1 2), (s1 σ 2 a2)) else (if a1 = 2 then some ((σ.1 2), (s1 σ 3 a2)) else some ((σ.1 2), (s1 σ 4 a2))))) else (if a1 = 2 then (if a1 = 0 then some ((σ.1 3), (s1 σ 1 a2)) else (if a1 = 1 then some ((σ.1 3), (s1 σ 2 a2)) else (if a1 = 2 then some ((σ.1 3), (s1 σ 3 a2)) else some ((σ.1 3), (s1 σ 4 a2))))) else (if a1 = 0 then some ((σ.1 4), (s1 σ 1 a2)) else (if a1 = 1 then some ((σ.1 4), (s1 σ 2 a2)) else (if a1 = 2 then some ((σ.1 4), (s1 σ 3 a2)) else some ((σ.1 4), (s1 σ 4 a2)))))))))))))
set_option maxHeartbeats 4000000 in
set_option maxRecDepth 100000 in
theorem ctM_plan {G : GP} {l : Launch} {q : Nat → Nat} (N : Nat) (σ σ' : St) (a1 : Int32) (a2 : Int32) (r : Int32) (h : fM_plan N σ a1 a2 = some (r, σ')) : CI G l yX7_plan cX7_plan 5 (some .int) 2 [.ref (q 0), .int a1, .int a2] (mW G q σ) (mW G q (σ')) r := by
  refine enterI (own := RX7) (by decide) rfl (Nat.le_of_ble_eq_true rfl) ?_
  intro p e s m args below meth c A C hP hD hS ls hl
  obtain ⟨hx, hb, hml, hown, hts, hK, hZ, hA, hlk, hr⟩ := id C
  have hl : lv_has ls 5 [(0, .ref (q 0)), (1, .int a1), (2, .int a2)] := hl
  rw [fM_plan.eq_1] at h
  refine lv_iload_n hx hb dX7_plan_0 rfl (lv_at hl 1 rfl) ?_
  refine lv_if_ne (tgt := 11) hx hb dX7_plan_1 (by decide) (fun c1 => ?_) (fun c1 => ?_)
  · replace h := ifn c1 h
    refine lv_iload_n hx hb dX7_plan_11 rfl (lv_at hl 1 rfl) ?_
    refine lv_iconst (v := 1) hx hb dX7_plan_12 (by decide) ?_
    refine lv_icmp_ne (tgt := 25) hx hb dX7_plan_13 (by decide) (fun c2 => ?_) (fun c2 => ?_)
    · replace h := ifn c2 h
      refine lv_iload_n hx hb dX7_plan_25 rfl (lv_at hl 1 rfl) ?_
      refine lv_iconst (v := 2) hx hb dX7_plan_26 (by decide) ?_
      refine lv_icmp_ne (tgt := 39) hx hb dX7_plan_27 (by decide) (fun c3 => ?_) (fun c3 => ?_)
      · replace h := ifn c3 h
        refine lv_iload_n hx hb dX7_plan_39 rfl (lv_at hl 1 rfl) ?_
        refine lv_iconst (v := 3) hx hb dX7_plan_40 (by decide) ?_
        refine lv_icmp_ne (tgt := 58) hx hb dX7_plan_41 (by decide) (fun c4 => ?_) (fun c4 => ?_)
        · replace h := ifn c4 h
          refine lv_iconst (v := 0) hx hb dX7_plan_58 (by decide) ?_
          refine lv_istore_n (lv' := [(3, .int 0), (0, .ref (q 0)), (1, .int a1), (2, .int a2)]) hx hb dX7_plan_59 rfl hl (by decide) rfl (fun ls hl => ?_)
          refine lv_iload_n hx hb dX7_plan_60 rfl (lv_at hl 0 rfl) ?_
          refine lv_if_ne (tgt := 66) hx hb dX7_plan_61 (by decide) (fun c5 => ?_) (fun c5 => ?_)
          · replace h := ifn c5 h
            refine lv_iload_n hx hb dX7_plan_66 rfl (lv_at hl 2 rfl) ?_
            refine lv_if_ne (tgt := 77) hx hb dX7_plan_67 (by decide) (fun c6 => ?_) (fun c6 => ?_)
            · replace h := ifn c6 h
              refine lv_iload_n hx hb dX7_plan_77 rfl (lv_at hl 2 rfl) ?_
              refine lv_iconst (v := 1) hx hb dX7_plan_78 (by decide) ?_
              refine lv_icmp_ne (tgt := 89) hx hb dX7_plan_79 (by decide) (fun c7 => ?_) (fun c7 => ?_)
              · replace h := ifn c7 h
                refine lv_iload_n hx hb dX7_plan_89 rfl (lv_at hl 2 rfl) ?_
                refine lv_iconst (v := 2) hx hb dX7_plan_90 (by decide) ?_
                refine lv_icmp_ne (tgt := 101) hx hb dX7_plan_91 (by decide) (fun c8 => ?_) (fun c8 => ?_)
                · replace h := ifn c8 h
                  refine lv_aload_n hx hb dX7_plan_101 rfl (lv_at hl 1 rfl) ?_
                  refine gf_RX7_26 C hP dX7_plan_102 ?_
                  refine lv_istore (lv' := [(4, .int (σ.1 4)), (3, .int 0), (0, .ref (q 0)), (1, .int a1), (2, .int a2)]) hx hb dX7_plan_105 hl (by decide) rfl (fun ls hl => ?_)
                  refine lv_iload_n hx hb dX7_plan_107 rfl (lv_at hl 3 rfl) ?_
                  refine lv_if_ne (tgt := 119) hx hb dX7_plan_108 (by decide) (fun c9 => ?_) (fun c9 => ?_)
                  · replace h := ifn c9 h
                    refine lv_iload_n hx hb dX7_plan_119 rfl (lv_at hl 3 rfl) ?_
                    refine lv_iconst (v := 1) hx hb dX7_plan_120 (by decide) ?_
                    refine lv_icmp_ne (tgt := 132) hx hb dX7_plan_121 (by decide) (fun c10 => ?_) (fun c10 => ?_)
                    · replace h := ifn c10 h
                      refine lv_iload_n hx hb dX7_plan_132 rfl (lv_at hl 3 rfl) ?_
                      refine lv_iconst (v := 2) hx hb dX7_plan_133 (by decide) ?_
                      refine lv_icmp_ne (tgt := 145) hx hb dX7_plan_134 (by decide) (fun c11 => ?_) (fun c11 => ?_)
                      · replace h := ifn c11 h
                        refine lv_aload_n hx hb dX7_plan_145 rfl (lv_at hl 2 rfl) ?_
                        refine lv_iload_n hx hb dX7_plan_146 rfl (lv_at hl 4 rfl) ?_
                        refine pf_RX7_26 C hP hD hS dX7_plan_147 (fun H locs hP hD hS => ?_)
                        refine lv_iload hx hb dX7_plan_150 (lv_at hl 0 rfl) ?_
                        obtain ⟨rfl, rfl⟩ := so2 h
                        exact retI C hP hD hS dX7_plan_152
                      · replace h := ifp c11 h
                        refine lv_aload_n hx hb dX7_plan_137 rfl (lv_at hl 2 rfl) ?_
                        refine lv_iload_n hx hb dX7_plan_138 rfl (lv_at hl 4 rfl) ?_
                        refine pf_RX7_23 C hP hD hS dX7_plan_139 (fun H locs hP hD hS => ?_)
                        refine lv_goto (tgt := 150) hx hb dX7_plan_142 (by decide) ?_
                        refine lv_iload hx hb dX7_plan_150 (lv_at hl 0 rfl) ?_
                        obtain ⟨rfl, rfl⟩ := so2 h
                        exact retI C hP hD hS dX7_plan_152
                    · replace h := ifp c10 h
                      refine lv_aload_n hx hb dX7_plan_124 rfl (lv_at hl 2 rfl) ?_
                      refine lv_iload_n hx hb dX7_plan_125 rfl (lv_at hl 4 rfl) ?_
                      refine pf_RX7_20 C hP hD hS dX7_plan_126 (fun H locs hP hD hS => ?_)
                      refine lv_goto (tgt := 150) hx hb dX7_plan_129 (by decide) ?_
                      refine lv_iload hx hb dX7_plan_150 (lv_at hl 0 rfl) ?_
                      obtain ⟨rfl, rfl⟩ := so2 h
                      exact retI C hP hD hS dX7_plan_152
                  · replace h := ifp c9 h
                    refine lv_aload_n hx hb dX7_plan_111 rfl (lv_at hl 2 rfl) ?_
                    refine lv_iload_n hx hb dX7_plan_112 rfl (lv_at hl 4 rfl) ?_
                    refine pf_RX7_16 C hP hD hS dX7_plan_113 (fun H locs hP hD hS => ?_)
                    refine lv_goto (tgt := 150) hx hb dX7_plan_116 (by decide) ?_
                    refine lv_iload hx hb dX7_plan_150 (lv_at hl 0 rfl) ?_
                    obtain ⟨rfl, rfl⟩ := so2 h
                    exact retI C hP hD hS dX7_plan_152
                · replace h := ifp c8 h
                  refine lv_aload_n hx hb dX7_plan_94 rfl (lv_at hl 1 rfl) ?_
                  refine gf_RX7_23 C hP dX7_plan_95 ?_
                  refine lv_goto (tgt := 105) hx hb dX7_plan_98 (by decide) ?_
                  refine lv_istore (lv' := [(4, .int (σ.1 3)), (3, .int 0), (0, .ref (q 0)), (1, .int a1), (2, .int a2)]) hx hb dX7_plan_105 hl (by decide) rfl (fun ls hl => ?_)
                  refine lv_iload_n hx hb dX7_plan_107 rfl (lv_at hl 3 rfl) ?_
                  refine lv_if_ne (tgt := 119) hx hb dX7_plan_108 (by decide) (fun c12 => ?_) (fun c12 => ?_)
                  · replace h := ifn c12 h
                    refine lv_iload_n hx hb dX7_plan_119 rfl (lv_at hl 3 rfl) ?_
                    refine lv_iconst (v := 1) hx hb dX7_plan_120 (by decide) ?_
                    refine lv_icmp_ne (tgt := 132) hx hb dX7_plan_121 (by decide) (fun c13 => ?_) (fun c13 => ?_)
                    · replace h := ifn c13 h
                      refine lv_iload_n hx hb dX7_plan_132 rfl (lv_at hl 3 rfl) ?_
                      refine lv_iconst (v := 2) hx hb dX7_plan_133 (by decide) ?_
                      refine lv_icmp_ne (tgt := 145) hx hb dX7_plan_134 (by decide) (fun c14 => ?_) (fun c14 => ?_)
                      · replace h := ifn c14 h
                        refine lv_aload_n hx hb dX7_plan_145 rfl (lv_at hl 2 rfl) ?_
                        refine lv_iload_n hx hb dX7_plan_146 rfl (lv_at hl 4 rfl) ?_
                        refine pf_RX7_26 C hP hD hS dX7_plan_147 (fun H locs hP hD hS => ?_)
                        refine lv_iload hx hb dX7_plan_150 (lv_at hl 0 rfl) ?_
                        obtain ⟨rfl, rfl⟩ := so2 h
                        exact retI C hP hD hS dX7_plan_152
                      · replace h := ifp c14 h
                        refine lv_aload_n hx hb dX7_plan_137 rfl (lv_at hl 2 rfl) ?_
                        refine lv_iload_n hx hb dX7_plan_138 rfl (lv_at hl 4 rfl) ?_
                        refine pf_RX7_23 C hP hD hS dX7_plan_139 (fun H locs hP hD hS => ?_)
                        refine lv_goto (tgt := 150) hx hb dX7_plan_142 (by decide) ?_
                        refine lv_iload hx hb dX7_plan_150 (lv_at hl 0 rfl) ?_
                        obtain ⟨rfl, rfl⟩ := so2 h
                        exact retI C hP hD hS dX7_plan_152
                    · replace h := ifp c13 h
                      refine lv_aload_n hx hb dX7_plan_124 rfl (lv_at hl 2 rfl) ?_
                      refine lv_iload_n hx hb dX7_plan_125 rfl (lv_at hl 4 rfl) ?_
                      refine pf_RX7_20 C hP hD hS dX7_plan_126 (fun H locs hP hD hS => ?_)
                      refine lv_goto (tgt := 150) hx hb dX7_plan_129 (by decide) ?_
                      refine lv_iload hx hb dX7_plan_150 (lv_at hl 0 rfl) ?_
                      obtain ⟨rfl, rfl⟩ := so2 h
                      exact retI C hP hD hS dX7_plan_152
                  · replace h := ifp c12 h
                    refine lv_aload_n hx hb dX7_plan_111 rfl (lv_at hl 2 rfl) ?_
                    refine lv_iload_n hx hb dX7_plan_112 rfl (lv_at hl 4 rfl) ?_
                    refine pf_RX7_16 C hP hD hS dX7_plan_113 (fun H locs hP hD hS => ?_)
                    refine lv_goto (tgt := 150) hx hb dX7_plan_116 (by decide) ?_
                    refine lv_iload hx hb dX7_plan_150 (lv_at hl 0 rfl) ?_
                    obtain ⟨rfl, rfl⟩ := so2 h
                    exact retI C hP hD hS dX7_plan_152
              · replace h := ifp c7 h
                refine lv_aload_n hx hb dX7_plan_82 rfl (lv_at hl 1 rfl) ?_
                refine gf_RX7_20 C hP dX7_plan_83 ?_
                refine lv_goto (tgt := 105) hx hb dX7_plan_86 (by decide) ?_
                refine lv_istore (lv' := [(4, .int (σ.1 2)), (3, .int 0), (0, .ref (q 0)), (1, .int a1), (2, .int a2)]) hx hb dX7_plan_105 hl (by decide) rfl (fun ls hl => ?_)
                refine lv_iload_n hx hb dX7_plan_107 rfl (lv_at hl 3 rfl) ?_
                refine lv_if_ne (tgt := 119) hx hb dX7_plan_108 (by decide) (fun c15 => ?_) (fun c15 => ?_)
                · replace h := ifn c15 h
                  refine lv_iload_n hx hb dX7_plan_119 rfl (lv_at hl 3 rfl) ?_
                  refine lv_iconst (v := 1) hx hb dX7_plan_120 (by decide) ?_
                  refine lv_icmp_ne (tgt := 132) hx hb dX7_plan_121 (by decide) (fun c16 => ?_) (fun c16 => ?_)
                  · replace h := ifn c16 h
                    refine lv_iload_n hx hb dX7_plan_132 rfl (lv_at hl 3 rfl) ?_
                    refine lv_iconst (v := 2) hx hb dX7_plan_133 (by decide) ?_
                    refine lv_icmp_ne (tgt := 145) hx hb dX7_plan_134 (by decide) (fun c17 => ?_) (fun c17 => ?_)
                    · replace h := ifn c17 h
                      refine lv_aload_n hx hb dX7_plan_145 rfl (lv_at hl 2 rfl) ?_
                      refine lv_iload_n hx hb dX7_plan_146 rfl (lv_at hl 4 rfl) ?_
                      refine pf_RX7_26 C hP hD hS dX7_plan_147 (fun H locs hP hD hS => ?_)
                      refine lv_iload hx hb dX7_plan_150 (lv_at hl 0 rfl) ?_
                      obtain ⟨rfl, rfl⟩ := so2 h
                      exact retI C hP hD hS dX7_plan_152
                    · replace h := ifp c17 h
                      refine lv_aload_n hx hb dX7_plan_137 rfl (lv_at hl 2 rfl) ?_
                      refine lv_iload_n hx hb dX7_plan_138 rfl (lv_at hl 4 rfl) ?_
                      refine pf_RX7_23 C hP hD hS dX7_plan_139 (fun H locs hP hD hS => ?_)
                      refine lv_goto (tgt := 150) hx hb dX7_plan_142 (by decide) ?_
                      refine lv_iload hx hb dX7_plan_150 (lv_at hl 0 rfl) ?_
                      obtain ⟨rfl, rfl⟩ := so2 h
                      exact retI C hP hD hS dX7_plan_152
                  · replace h := ifp c16 h
                    refine lv_aload_n hx hb dX7_plan_124 rfl (lv_at hl 2 rfl) ?_
                    refine lv_iload_n hx hb dX7_plan_125 rfl (lv_at hl 4 rfl) ?_
                    refine pf_RX7_20 C hP hD hS dX7_plan_126 (fun H locs hP hD hS => ?_)
                    refine lv_goto (tgt := 150) hx hb dX7_plan_129 (by decide) ?_
                    refine lv_iload hx hb dX7_plan_150 (lv_at hl 0 rfl) ?_
                    obtain ⟨rfl, rfl⟩ := so2 h
                    exact retI C hP hD hS dX7_plan_152
                · replace h := ifp c15 h
                  refine lv_aload_n hx hb dX7_plan_111 rfl (lv_at hl 2 rfl) ?_
                  refine lv_iload_n hx hb dX7_plan_112 rfl (lv_at hl 4 rfl) ?_
                  refine pf_RX7_16 C hP hD hS dX7_plan_113 (fun H locs hP hD hS => ?_)
                  refine lv_goto (tgt := 150) hx hb dX7_plan_116 (by decide) ?_
                  refine lv_iload hx hb dX7_plan_150 (lv_at hl 0 rfl) ?_
                  obtain ⟨rfl, rfl⟩ := so2 h
                  exact retI C hP hD hS dX7_plan_152
            · replace h := ifp c6 h
              refine lv_aload_n hx hb dX7_plan_70 rfl (lv_at hl 1 rfl) ?_
              refine gf_RX7_16 C hP dX7_plan_71 ?_
              refine lv_goto (tgt := 105) hx hb dX7_plan_74 (by decide) ?_
              refine lv_istore (lv' := [(4, .int (σ.1 1)), (3, .int 0), (0, .ref (q 0)), (1, .int a1), (2, .int a2)]) hx hb dX7_plan_105 hl (by decide) rfl (fun ls hl => ?_)
              refine lv_iload_n hx hb dX7_plan_107 rfl (lv_at hl 3 rfl) ?_
              refine lv_if_ne (tgt := 119) hx hb dX7_plan_108 (by decide) (fun c18 => ?_) (fun c18 => ?_)
              · replace h := ifn c18 h
                refine lv_iload_n hx hb dX7_plan_119 rfl (lv_at hl 3 rfl) ?_
                refine lv_iconst (v := 1) hx hb dX7_plan_120 (by decide) ?_
                refine lv_icmp_ne (tgt := 132) hx hb dX7_plan_121 (by decide) (fun c19 => ?_) (fun c19 => ?_)
                · replace h := ifn c19 h
                  refine lv_iload_n hx hb dX7_plan_132 rfl (lv_at hl 3 rfl) ?_
                  refine lv_iconst (v := 2) hx hb dX7_plan_133 (by decide) ?_
                  refine lv_icmp_ne (tgt := 145) hx hb dX7_plan_134 (by decide) (fun c20 => ?_) (fun c20 => ?_)
                  · replace h := ifn c20 h
                    refine lv_aload_n hx hb dX7_plan_145 rfl (lv_at hl 2 rfl) ?_
                    refine lv_iload_n hx hb dX7_plan_146 rfl (lv_at hl 4 rfl) ?_
                    refine pf_RX7_26 C hP hD hS dX7_plan_147 (fun H locs hP hD hS => ?_)
                    refine lv_iload hx hb dX7_plan_150 (lv_at hl 0 rfl) ?_
                    obtain ⟨rfl, rfl⟩ := so2 h
                    exact retI C hP hD hS dX7_plan_152
                  · replace h := ifp c20 h
                    refine lv_aload_n hx hb dX7_plan_137 rfl (lv_at hl 2 rfl) ?_
                    refine lv_iload_n hx hb dX7_plan_138 rfl (lv_at hl 4 rfl) ?_
                    refine pf_RX7_23 C hP hD hS dX7_plan_139 (fun H locs hP hD hS => ?_)
                    refine lv_goto (tgt := 150) hx hb dX7_plan_142 (by decide) ?_
                    refine lv_iload hx hb dX7_plan_150 (lv_at hl 0 rfl) ?_
                    obtain ⟨rfl, rfl⟩ := so2 h
                    exact retI C hP hD hS dX7_plan_152
                · replace h := ifp c19 h
                  refine lv_aload_n hx hb dX7_plan_124 rfl (lv_at hl 2 rfl) ?_
                  refine lv_iload_n hx hb dX7_plan_125 rfl (lv_at hl 4 rfl) ?_
                  refine pf_RX7_20 C hP hD hS dX7_plan_126 (fun H locs hP hD hS => ?_)
                  refine lv_goto (tgt := 150) hx hb dX7_plan_129 (by decide) ?_
                  refine lv_iload hx hb dX7_plan_150 (lv_at hl 0 rfl) ?_
                  obtain ⟨rfl, rfl⟩ := so2 h
                  exact retI C hP hD hS dX7_plan_152
              · replace h := ifp c18 h
                refine lv_aload_n hx hb dX7_plan_111 rfl (lv_at hl 2 rfl) ?_
                refine lv_iload_n hx hb dX7_plan_112 rfl (lv_at hl 4 rfl) ?_
                refine pf_RX7_16 C hP hD hS dX7_plan_113 (fun H locs hP hD hS => ?_)
                refine lv_goto (tgt := 150) hx hb dX7_plan_116 (by decide) ?_
                refine lv_iload hx hb dX7_plan_150 (lv_at hl 0 rfl) ?_
                obtain ⟨rfl, rfl⟩ := so2 h
                exact retI C hP hD hS dX7_plan_152
          · replace h := ifp c5 h
            refine lv_iconst (v := (-1)) hx hb dX7_plan_64 (by decide) ?_
            obtain ⟨rfl, rfl⟩ := so2 h
            exact retI C hP hD hS dX7_plan_65
        · replace h := ifp c4 h
          refine lv_iload_n hx hb dX7_plan_44 rfl (lv_at hl 2 rfl) ?_
          refine lv_iconst (v := 0) hx hb dX7_plan_45 (by decide) ?_
          refine lv_bipush (v := 50) hx hb dX7_plan_46 (by decide) ?_
          obtain ⟨r22, h21, h⟩ := bd1_some h
          refine goI C hD hS (runS (As := [.int a2, .int 0, .int 50]) (rest := []) (w := (mW G q σ)) C lc_RX7_75 (ctM_within (w := (mW G q σ)) N a2 0 50 r22 h21 _) hP hD hS hl.1 rfl rfl (by decide) (by decide) (Nat.le_of_ble_eq_true rfl) dX7_plan_48) (fun H locs hP hD hS => ?_)
          refine lv_if_eq (tgt := 58) hx hb dX7_plan_51 (by decide) (fun c23 => ?_) (fun c23 => ?_)
          · replace h := ifp c23 h
            refine lv_iconst (v := 0) hx hb dX7_plan_58 (by decide) ?_
            refine lv_istore_n (lv' := [(3, .int 0), (0, .ref (q 0)), (1, .int a1), (2, .int a2)]) hx hb dX7_plan_59 rfl hl (by decide) rfl (fun ls hl => ?_)
            refine lv_iload_n hx hb dX7_plan_60 rfl (lv_at hl 0 rfl) ?_
            refine lv_if_ne (tgt := 66) hx hb dX7_plan_61 (by decide) (fun c24 => ?_) (fun c24 => ?_)
            · replace h := ifn c24 h
              refine lv_iload_n hx hb dX7_plan_66 rfl (lv_at hl 2 rfl) ?_
              refine lv_if_ne (tgt := 77) hx hb dX7_plan_67 (by decide) (fun c25 => ?_) (fun c25 => ?_)
              · replace h := ifn c25 h
                refine lv_iload_n hx hb dX7_plan_77 rfl (lv_at hl 2 rfl) ?_
                refine lv_iconst (v := 1) hx hb dX7_plan_78 (by decide) ?_
                refine lv_icmp_ne (tgt := 89) hx hb dX7_plan_79 (by decide) (fun c26 => ?_) (fun c26 => ?_)
                · replace h := ifn c26 h
                  refine lv_iload_n hx hb dX7_plan_89 rfl (lv_at hl 2 rfl) ?_
                  refine lv_iconst (v := 2) hx hb dX7_plan_90 (by decide) ?_
                  refine lv_icmp_ne (tgt := 101) hx hb dX7_plan_91 (by decide) (fun c27 => ?_) (fun c27 => ?_)
                  · replace h := ifn c27 h
                    refine lv_aload_n hx hb dX7_plan_101 rfl (lv_at hl 1 rfl) ?_
                    refine gf_RX7_26 C hP dX7_plan_102 ?_
                    refine lv_istore (lv' := [(4, .int (σ.1 4)), (3, .int 0), (0, .ref (q 0)), (1, .int a1), (2, .int a2)]) hx hb dX7_plan_105 hl (by decide) rfl (fun ls hl => ?_)
                    refine lv_iload_n hx hb dX7_plan_107 rfl (lv_at hl 3 rfl) ?_
                    refine lv_if_ne (tgt := 119) hx hb dX7_plan_108 (by decide) (fun c28 => ?_) (fun c28 => ?_)
                    · replace h := ifn c28 h
                      refine lv_iload_n hx hb dX7_plan_119 rfl (lv_at hl 3 rfl) ?_
                      refine lv_iconst (v := 1) hx hb dX7_plan_120 (by decide) ?_
                      refine lv_icmp_ne (tgt := 132) hx hb dX7_plan_121 (by decide) (fun c29 => ?_) (fun c29 => ?_)
                      · replace h := ifn c29 h
                        refine lv_iload_n hx hb dX7_plan_132 rfl (lv_at hl 3 rfl) ?_
                        refine lv_iconst (v := 2) hx hb dX7_plan_133 (by decide) ?_
                        refine lv_icmp_ne (tgt := 145) hx hb dX7_plan_134 (by decide) (fun c30 => ?_) (fun c30 => ?_)
                        · replace h := ifn c30 h
                          refine lv_aload_n hx hb dX7_plan_145 rfl (lv_at hl 2 rfl) ?_
                          refine lv_iload_n hx hb dX7_plan_146 rfl (lv_at hl 4 rfl) ?_
                          refine pf_RX7_26 C hP hD hS dX7_plan_147 (fun H locs hP hD hS => ?_)
                          refine lv_iload hx hb dX7_plan_150 (lv_at hl 0 rfl) ?_
                          obtain ⟨rfl, rfl⟩ := so2 h
                          exact retI C hP hD hS dX7_plan_152
                        · replace h := ifp c30 h
                          refine lv_aload_n hx hb dX7_plan_137 rfl (lv_at hl 2 rfl) ?_
                          refine lv_iload_n hx hb dX7_plan_138 rfl (lv_at hl 4 rfl) ?_
                          refine pf_RX7_23 C hP hD hS dX7_plan_139 (fun H locs hP hD hS => ?_)
                          refine lv_goto (tgt := 150) hx hb dX7_plan_142 (by decide) ?_
                          refine lv_iload hx hb dX7_plan_150 (lv_at hl 0 rfl) ?_
                          obtain ⟨rfl, rfl⟩ := so2 h
                          exact retI C hP hD hS dX7_plan_152
                      · replace h := ifp c29 h
                        refine lv_aload_n hx hb dX7_plan_124 rfl (lv_at hl 2 rfl) ?_
                        refine lv_iload_n hx hb dX7_plan_125 rfl (lv_at hl 4 rfl) ?_
                        refine pf_RX7_20 C hP hD hS dX7_plan_126 (fun H locs hP hD hS => ?_)
                        refine lv_goto (tgt := 150) hx hb dX7_plan_129 (by decide) ?_
                        refine lv_iload hx hb dX7_plan_150 (lv_at hl 0 rfl) ?_
                        obtain ⟨rfl, rfl⟩ := so2 h
                        exact retI C hP hD hS dX7_plan_152
                    · replace h := ifp c28 h
                      refine lv_aload_n hx hb dX7_plan_111 rfl (lv_at hl 2 rfl) ?_
                      refine lv_iload_n hx hb dX7_plan_112 rfl (lv_at hl 4 rfl) ?_
                      refine pf_RX7_16 C hP hD hS dX7_plan_113 (fun H locs hP hD hS => ?_)
                      refine lv_goto (tgt := 150) hx hb dX7_plan_116 (by decide) ?_
                      refine lv_iload hx hb dX7_plan_150 (lv_at hl 0 rfl) ?_
                      obtain ⟨rfl, rfl⟩ := so2 h
                      exact retI C hP hD hS dX7_plan_152
                  · replace h := ifp c27 h
                    refine lv_aload_n hx hb dX7_plan_94 rfl (lv_at hl 1 rfl) ?_
                    refine gf_RX7_23 C hP dX7_plan_95 ?_
                    refine lv_goto (tgt := 105) hx hb dX7_plan_98 (by decide) ?_
                    refine lv_istore (lv' := [(4, .int (σ.1 3)), (3, .int 0), (0, .ref (q 0)), (1, .int a1), (2, .int a2)]) hx hb dX7_plan_105 hl (by decide) rfl (fun ls hl => ?_)
                    refine lv_iload_n hx hb dX7_plan_107 rfl (lv_at hl 3 rfl) ?_
                    refine lv_if_ne (tgt := 119) hx hb dX7_plan_108 (by decide) (fun c31 => ?_) (fun c31 => ?_)
                    · replace h := ifn c31 h
                      refine lv_iload_n hx hb dX7_plan_119 rfl (lv_at hl 3 rfl) ?_
                      refine lv_iconst (v := 1) hx hb dX7_plan_120 (by decide) ?_
                      refine lv_icmp_ne (tgt := 132) hx hb dX7_plan_121 (by decide) (fun c32 => ?_) (fun c32 => ?_)
                      · replace h := ifn c32 h
                        refine lv_iload_n hx hb dX7_plan_132 rfl (lv_at hl 3 rfl) ?_
                        refine lv_iconst (v := 2) hx hb dX7_plan_133 (by decide) ?_
                        refine lv_icmp_ne (tgt := 145) hx hb dX7_plan_134 (by decide) (fun c33 => ?_) (fun c33 => ?_)
                        · replace h := ifn c33 h
                          refine lv_aload_n hx hb dX7_plan_145 rfl (lv_at hl 2 rfl) ?_
                          refine lv_iload_n hx hb dX7_plan_146 rfl (lv_at hl 4 rfl) ?_
                          refine pf_RX7_26 C hP hD hS dX7_plan_147 (fun H locs hP hD hS => ?_)
                          refine lv_iload hx hb dX7_plan_150 (lv_at hl 0 rfl) ?_
                          obtain ⟨rfl, rfl⟩ := so2 h
                          exact retI C hP hD hS dX7_plan_152
                        · replace h := ifp c33 h
                          refine lv_aload_n hx hb dX7_plan_137 rfl (lv_at hl 2 rfl) ?_
                          refine lv_iload_n hx hb dX7_plan_138 rfl (lv_at hl 4 rfl) ?_
                          refine pf_RX7_23 C hP hD hS dX7_plan_139 (fun H locs hP hD hS => ?_)
                          refine lv_goto (tgt := 150) hx hb dX7_plan_142 (by decide) ?_
                          refine lv_iload hx hb dX7_plan_150 (lv_at hl 0 rfl) ?_
                          obtain ⟨rfl, rfl⟩ := so2 h
                          exact retI C hP hD hS dX7_plan_152
                      · replace h := ifp c32 h
                        refine lv_aload_n hx hb dX7_plan_124 rfl (lv_at hl 2 rfl) ?_
                        refine lv_iload_n hx hb dX7_plan_125 rfl (lv_at hl 4 rfl) ?_
                        refine pf_RX7_20 C hP hD hS dX7_plan_126 (fun H locs hP hD hS => ?_)
                        refine lv_goto (tgt := 150) hx hb dX7_plan_129 (by decide) ?_
                        refine lv_iload hx hb dX7_plan_150 (lv_at hl 0 rfl) ?_
                        obtain ⟨rfl, rfl⟩ := so2 h
                        exact retI C hP hD hS dX7_plan_152
                    · replace h := ifp c31 h
                      refine lv_aload_n hx hb dX7_plan_111 rfl (lv_at hl 2 rfl) ?_
                      refine lv_iload_n hx hb dX7_plan_112 rfl (lv_at hl 4 rfl) ?_
                      refine pf_RX7_16 C hP hD hS dX7_plan_113 (fun H locs hP hD hS => ?_)
                      refine lv_goto (tgt := 150) hx hb dX7_plan_116 (by decide) ?_
                      refine lv_iload hx hb dX7_plan_150 (lv_at hl 0 rfl) ?_
                      obtain ⟨rfl, rfl⟩ := so2 h
                      exact retI C hP hD hS dX7_plan_152
                · replace h := ifp c26 h
                  refine lv_aload_n hx hb dX7_plan_82 rfl (lv_at hl 1 rfl) ?_
                  refine gf_RX7_20 C hP dX7_plan_83 ?_
                  refine lv_goto (tgt := 105) hx hb dX7_plan_86 (by decide) ?_
                  refine lv_istore (lv' := [(4, .int (σ.1 2)), (3, .int 0), (0, .ref (q 0)), (1, .int a1), (2, .int a2)]) hx hb dX7_plan_105 hl (by decide) rfl (fun ls hl => ?_)
                  refine lv_iload_n hx hb dX7_plan_107 rfl (lv_at hl 3 rfl) ?_
                  refine lv_if_ne (tgt := 119) hx hb dX7_plan_108 (by decide) (fun c34 => ?_) (fun c34 => ?_)
                  · replace h := ifn c34 h
                    refine lv_iload_n hx hb dX7_plan_119 rfl (lv_at hl 3 rfl) ?_
                    refine lv_iconst (v := 1) hx hb dX7_plan_120 (by decide) ?_
                    refine lv_icmp_ne (tgt := 132) hx hb dX7_plan_121 (by decide) (fun c35 => ?_) (fun c35 => ?_)
                    · replace h := ifn c35 h
                      refine lv_iload_n hx hb dX7_plan_132 rfl (lv_at hl 3 rfl) ?_
                      refine lv_iconst (v := 2) hx hb dX7_plan_133 (by decide) ?_
                      refine lv_icmp_ne (tgt := 145) hx hb dX7_plan_134 (by decide) (fun c36 => ?_) (fun c36 => ?_)
                      · replace h := ifn c36 h
                        refine lv_aload_n hx hb dX7_plan_145 rfl (lv_at hl 2 rfl) ?_
                        refine lv_iload_n hx hb dX7_plan_146 rfl (lv_at hl 4 rfl) ?_
                        refine pf_RX7_26 C hP hD hS dX7_plan_147 (fun H locs hP hD hS => ?_)
                        refine lv_iload hx hb dX7_plan_150 (lv_at hl 0 rfl) ?_
                        obtain ⟨rfl, rfl⟩ := so2 h
                        exact retI C hP hD hS dX7_plan_152
                      · replace h := ifp c36 h
                        refine lv_aload_n hx hb dX7_plan_137 rfl (lv_at hl 2 rfl) ?_
                        refine lv_iload_n hx hb dX7_plan_138 rfl (lv_at hl 4 rfl) ?_
                        refine pf_RX7_23 C hP hD hS dX7_plan_139 (fun H locs hP hD hS => ?_)
                        refine lv_goto (tgt := 150) hx hb dX7_plan_142 (by decide) ?_
                        refine lv_iload hx hb dX7_plan_150 (lv_at hl 0 rfl) ?_
                        obtain ⟨rfl, rfl⟩ := so2 h
                        exact retI C hP hD hS dX7_plan_152
                    · replace h := ifp c35 h
                      refine lv_aload_n hx hb dX7_plan_124 rfl (lv_at hl 2 rfl) ?_
                      refine lv_iload_n hx hb dX7_plan_125 rfl (lv_at hl 4 rfl) ?_
                      refine pf_RX7_20 C hP hD hS dX7_plan_126 (fun H locs hP hD hS => ?_)
                      refine lv_goto (tgt := 150) hx hb dX7_plan_129 (by decide) ?_
                      refine lv_iload hx hb dX7_plan_150 (lv_at hl 0 rfl) ?_
                      obtain ⟨rfl, rfl⟩ := so2 h
                      exact retI C hP hD hS dX7_plan_152
                  · replace h := ifp c34 h
                    refine lv_aload_n hx hb dX7_plan_111 rfl (lv_at hl 2 rfl) ?_
                    refine lv_iload_n hx hb dX7_plan_112 rfl (lv_at hl 4 rfl) ?_
                    refine pf_RX7_16 C hP hD hS dX7_plan_113 (fun H locs hP hD hS => ?_)
                    refine lv_goto (tgt := 150) hx hb dX7_plan_116 (by decide) ?_
                    refine lv_iload hx hb dX7_plan_150 (lv_at hl 0 rfl) ?_
                    obtain ⟨rfl, rfl⟩ := so2 h
                    exact retI C hP hD hS dX7_plan_152
              · replace h := ifp c25 h
                refine lv_aload_n hx hb dX7_plan_70 rfl (lv_at hl 1 rfl) ?_
                refine gf_RX7_16 C hP dX7_plan_71 ?_
                refine lv_goto (tgt := 105) hx hb dX7_plan_74 (by decide) ?_
                refine lv_istore (lv' := [(4, .int (σ.1 1)), (3, .int 0), (0, .ref (q 0)), (1, .int a1), (2, .int a2)]) hx hb dX7_plan_105 hl (by decide) rfl (fun ls hl => ?_)
                refine lv_iload_n hx hb dX7_plan_107 rfl (lv_at hl 3 rfl) ?_
                refine lv_if_ne (tgt := 119) hx hb dX7_plan_108 (by decide) (fun c37 => ?_) (fun c37 => ?_)
                · replace h := ifn c37 h
                  refine lv_iload_n hx hb dX7_plan_119 rfl (lv_at hl 3 rfl) ?_
                  refine lv_iconst (v := 1) hx hb dX7_plan_120 (by decide) ?_
                  refine lv_icmp_ne (tgt := 132) hx hb dX7_plan_121 (by decide) (fun c38 => ?_) (fun c38 => ?_)
                  · replace h := ifn c38 h
                    refine lv_iload_n hx hb dX7_plan_132 rfl (lv_at hl 3 rfl) ?_
                    refine lv_iconst (v := 2) hx hb dX7_plan_133 (by decide) ?_
                    refine lv_icmp_ne (tgt := 145) hx hb dX7_plan_134 (by decide) (fun c39 => ?_) (fun c39 => ?_)
                    · replace h := ifn c39 h
                      refine lv_aload_n hx hb dX7_plan_145 rfl (lv_at hl 2 rfl) ?_
                      refine lv_iload_n hx hb dX7_plan_146 rfl (lv_at hl 4 rfl) ?_
                      refine pf_RX7_26 C hP hD hS dX7_plan_147 (fun H locs hP hD hS => ?_)
                      refine lv_iload hx hb dX7_plan_150 (lv_at hl 0 rfl) ?_
                      obtain ⟨rfl, rfl⟩ := so2 h
                      exact retI C hP hD hS dX7_plan_152
                    · replace h := ifp c39 h
                      refine lv_aload_n hx hb dX7_plan_137 rfl (lv_at hl 2 rfl) ?_
                      refine lv_iload_n hx hb dX7_plan_138 rfl (lv_at hl 4 rfl) ?_
                      refine pf_RX7_23 C hP hD hS dX7_plan_139 (fun H locs hP hD hS => ?_)
                      refine lv_goto (tgt := 150) hx hb dX7_plan_142 (by decide) ?_
                      refine lv_iload hx hb dX7_plan_150 (lv_at hl 0 rfl) ?_
                      obtain ⟨rfl, rfl⟩ := so2 h
                      exact retI C hP hD hS dX7_plan_152
                  · replace h := ifp c38 h
                    refine lv_aload_n hx hb dX7_plan_124 rfl (lv_at hl 2 rfl) ?_
                    refine lv_iload_n hx hb dX7_plan_125 rfl (lv_at hl 4 rfl) ?_
                    refine pf_RX7_20 C hP hD hS dX7_plan_126 (fun H locs hP hD hS => ?_)
                    refine lv_goto (tgt := 150) hx hb dX7_plan_129 (by decide) ?_
                    refine lv_iload hx hb dX7_plan_150 (lv_at hl 0 rfl) ?_
                    obtain ⟨rfl, rfl⟩ := so2 h
                    exact retI C hP hD hS dX7_plan_152
                · replace h := ifp c37 h
                  refine lv_aload_n hx hb dX7_plan_111 rfl (lv_at hl 2 rfl) ?_
                  refine lv_iload_n hx hb dX7_plan_112 rfl (lv_at hl 4 rfl) ?_
                  refine pf_RX7_16 C hP hD hS dX7_plan_113 (fun H locs hP hD hS => ?_)
                  refine lv_goto (tgt := 150) hx hb dX7_plan_116 (by decide) ?_
                  refine lv_iload hx hb dX7_plan_150 (lv_at hl 0 rfl) ?_
                  obtain ⟨rfl, rfl⟩ := so2 h
                  exact retI C hP hD hS dX7_plan_152
            · replace h := ifp c24 h
              refine lv_iconst (v := (-1)) hx hb dX7_plan_64 (by decide) ?_
              obtain ⟨rfl, rfl⟩ := so2 h
              exact retI C hP hD hS dX7_plan_65
          · replace h := ifn c23 h
            refine lv_iconst (v := 1) hx hb dX7_plan_54 (by decide) ?_
            refine lv_goto (tgt := 59) hx hb dX7_plan_55 (by decide) ?_
            refine lv_istore_n (lv' := [(3, .int 1), (0, .ref (q 0)), (1, .int a1), (2, .int a2)]) hx hb dX7_plan_59 rfl hl (by decide) rfl (fun ls hl => ?_)
            refine lv_iload_n hx hb dX7_plan_60 rfl (lv_at hl 0 rfl) ?_
            refine lv_if_ne (tgt := 66) hx hb dX7_plan_61 (by decide) (fun c40 => ?_) (fun c40 => ?_)
            · replace h := ifn c40 h
              refine lv_iload_n hx hb dX7_plan_66 rfl (lv_at hl 2 rfl) ?_
              refine lv_if_ne (tgt := 77) hx hb dX7_plan_67 (by decide) (fun c41 => ?_) (fun c41 => ?_)
              · replace h := ifn c41 h
                refine lv_iload_n hx hb dX7_plan_77 rfl (lv_at hl 2 rfl) ?_
                refine lv_iconst (v := 1) hx hb dX7_plan_78 (by decide) ?_
                refine lv_icmp_ne (tgt := 89) hx hb dX7_plan_79 (by decide) (fun c42 => ?_) (fun c42 => ?_)
                · replace h := ifn c42 h
                  refine lv_iload_n hx hb dX7_plan_89 rfl (lv_at hl 2 rfl) ?_
                  refine lv_iconst (v := 2) hx hb dX7_plan_90 (by decide) ?_
                  refine lv_icmp_ne (tgt := 101) hx hb dX7_plan_91 (by decide) (fun c43 => ?_) (fun c43 => ?_)
                  · replace h := ifn c43 h
                    refine lv_aload_n hx hb dX7_plan_101 rfl (lv_at hl 1 rfl) ?_
                    refine gf_RX7_26 C hP dX7_plan_102 ?_
                    refine lv_istore (lv' := [(4, .int (σ.1 4)), (3, .int 1), (0, .ref (q 0)), (1, .int a1), (2, .int a2)]) hx hb dX7_plan_105 hl (by decide) rfl (fun ls hl => ?_)
                    refine lv_iload_n hx hb dX7_plan_107 rfl (lv_at hl 3 rfl) ?_
                    refine lv_if_ne (tgt := 119) hx hb dX7_plan_108 (by decide) (fun c44 => ?_) (fun c44 => ?_)
                    · replace h := ifn c44 h
                      refine lv_iload_n hx hb dX7_plan_119 rfl (lv_at hl 3 rfl) ?_
                      refine lv_iconst (v := 1) hx hb dX7_plan_120 (by decide) ?_
                      refine lv_icmp_ne (tgt := 132) hx hb dX7_plan_121 (by decide) (fun c45 => ?_) (fun c45 => ?_)
                      · replace h := ifn c45 h
                        refine lv_iload_n hx hb dX7_plan_132 rfl (lv_at hl 3 rfl) ?_
                        refine lv_iconst (v := 2) hx hb dX7_plan_133 (by decide) ?_
                        refine lv_icmp_ne (tgt := 145) hx hb dX7_plan_134 (by decide) (fun c46 => ?_) (fun c46 => ?_)
                        · replace h := ifn c46 h
                          refine lv_aload_n hx hb dX7_plan_145 rfl (lv_at hl 2 rfl) ?_
                          refine lv_iload_n hx hb dX7_plan_146 rfl (lv_at hl 4 rfl) ?_
                          refine pf_RX7_26 C hP hD hS dX7_plan_147 (fun H locs hP hD hS => ?_)
                          refine lv_iload hx hb dX7_plan_150 (lv_at hl 0 rfl) ?_
                          obtain ⟨rfl, rfl⟩ := so2 h
                          exact retI C hP hD hS dX7_plan_152
                        · replace h := ifp c46 h
                          refine lv_aload_n hx hb dX7_plan_137 rfl (lv_at hl 2 rfl) ?_
                          refine lv_iload_n hx hb dX7_plan_138 rfl (lv_at hl 4 rfl) ?_
                          refine pf_RX7_23 C hP hD hS dX7_plan_139 (fun H locs hP hD hS => ?_)
                          refine lv_goto (tgt := 150) hx hb dX7_plan_142 (by decide) ?_
                          refine lv_iload hx hb dX7_plan_150 (lv_at hl 0 rfl) ?_
                          obtain ⟨rfl, rfl⟩ := so2 h
                          exact retI C hP hD hS dX7_plan_152
                      · replace h := ifp c45 h
                        refine lv_aload_n hx hb dX7_plan_124 rfl (lv_at hl 2 rfl) ?_
                        refine lv_iload_n hx hb dX7_plan_125 rfl (lv_at hl 4 rfl) ?_
                        refine pf_RX7_20 C hP hD hS dX7_plan_126 (fun H locs hP hD hS => ?_)
                        refine lv_goto (tgt := 150) hx hb dX7_plan_129 (by decide) ?_
                        refine lv_iload hx hb dX7_plan_150 (lv_at hl 0 rfl) ?_
                        obtain ⟨rfl, rfl⟩ := so2 h
                        exact retI C hP hD hS dX7_plan_152
                    · replace h := ifp c44 h
                      refine lv_aload_n hx hb dX7_plan_111 rfl (lv_at hl 2 rfl) ?_
                      refine lv_iload_n hx hb dX7_plan_112 rfl (lv_at hl 4 rfl) ?_
                      refine pf_RX7_16 C hP hD hS dX7_plan_113 (fun H locs hP hD hS => ?_)
                      refine lv_goto (tgt := 150) hx hb dX7_plan_116 (by decide) ?_
                      refine lv_iload hx hb dX7_plan_150 (lv_at hl 0 rfl) ?_
                      obtain ⟨rfl, rfl⟩ := so2 h
                      exact retI C hP hD hS dX7_plan_152
                  · replace h := ifp c43 h
                    refine lv_aload_n hx hb dX7_plan_94 rfl (lv_at hl 1 rfl) ?_
                    refine gf_RX7_23 C hP dX7_plan_95 ?_
                    refine lv_goto (tgt := 105) hx hb dX7_plan_98 (by decide) ?_
                    refine lv_istore (lv' := [(4, .int (σ.1 3)), (3, .int 1), (0, .ref (q 0)), (1, .int a1), (2, .int a2)]) hx hb dX7_plan_105 hl (by decide) rfl (fun ls hl => ?_)
                    refine lv_iload_n hx hb dX7_plan_107 rfl (lv_at hl 3 rfl) ?_
                    refine lv_if_ne (tgt := 119) hx hb dX7_plan_108 (by decide) (fun c47 => ?_) (fun c47 => ?_)
                    · replace h := ifn c47 h
                      refine lv_iload_n hx hb dX7_plan_119 rfl (lv_at hl 3 rfl) ?_
                      refine lv_iconst (v := 1) hx hb dX7_plan_120 (by decide) ?_
                      refine lv_icmp_ne (tgt := 132) hx hb dX7_plan_121 (by decide) (fun c48 => ?_) (fun c48 => ?_)
                      · replace h := ifn c48 h
                        refine lv_iload_n hx hb dX7_plan_132 rfl (lv_at hl 3 rfl) ?_
                        refine lv_iconst (v := 2) hx hb dX7_plan_133 (by decide) ?_
                        refine lv_icmp_ne (tgt := 145) hx hb dX7_plan_134 (by decide) (fun c49 => ?_) (fun c49 => ?_)
                        · replace h := ifn c49 h
                          refine lv_aload_n hx hb dX7_plan_145 rfl (lv_at hl 2 rfl) ?_
                          refine lv_iload_n hx hb dX7_plan_146 rfl (lv_at hl 4 rfl) ?_
                          refine pf_RX7_26 C hP hD hS dX7_plan_147 (fun H locs hP hD hS => ?_)
                          refine lv_iload hx hb dX7_plan_150 (lv_at hl 0 rfl) ?_
                          obtain ⟨rfl, rfl⟩ := so2 h
                          exact retI C hP hD hS dX7_plan_152
                        · replace h := ifp c49 h
                          refine lv_aload_n hx hb dX7_plan_137 rfl (lv_at hl 2 rfl) ?_
                          refine lv_iload_n hx hb dX7_plan_138 rfl (lv_at hl 4 rfl) ?_
                          refine pf_RX7_23 C hP hD hS dX7_plan_139 (fun H locs hP hD hS => ?_)
                          refine lv_goto (tgt := 150) hx hb dX7_plan_142 (by decide) ?_
                          refine lv_iload hx hb dX7_plan_150 (lv_at hl 0 rfl) ?_
                          obtain ⟨rfl, rfl⟩ := so2 h
                          exact retI C hP hD hS dX7_plan_152
                      · replace h := ifp c48 h
                        refine lv_aload_n hx hb dX7_plan_124 rfl (lv_at hl 2 rfl) ?_
                        refine lv_iload_n hx hb dX7_plan_125 rfl (lv_at hl 4 rfl) ?_
                        refine pf_RX7_20 C hP hD hS dX7_plan_126 (fun H locs hP hD hS => ?_)
                        refine lv_goto (tgt := 150) hx hb dX7_plan_129 (by decide) ?_
                        refine lv_iload hx hb dX7_plan_150 (lv_at hl 0 rfl) ?_
                        obtain ⟨rfl, rfl⟩ := so2 h
                        exact retI C hP hD hS dX7_plan_152
                    · replace h := ifp c47 h
                      refine lv_aload_n hx hb dX7_plan_111 rfl (lv_at hl 2 rfl) ?_
                      refine lv_iload_n hx hb dX7_plan_112 rfl (lv_at hl 4 rfl) ?_
                      refine pf_RX7_16 C hP hD hS dX7_plan_113 (fun H locs hP hD hS => ?_)
                      refine lv_goto (tgt := 150) hx hb dX7_plan_116 (by decide) ?_
                      refine lv_iload hx hb dX7_plan_150 (lv_at hl 0 rfl) ?_
                      obtain ⟨rfl, rfl⟩ := so2 h
                      exact retI C hP hD hS dX7_plan_152
                · replace h := ifp c42 h
                  refine lv_aload_n hx hb dX7_plan_82 rfl (lv_at hl 1 rfl) ?_
                  refine gf_RX7_20 C hP dX7_plan_83 ?_
                  refine lv_goto (tgt := 105) hx hb dX7_plan_86 (by decide) ?_
                  refine lv_istore (lv' := [(4, .int (σ.1 2)), (3, .int 1), (0, .ref (q 0)), (1, .int a1), (2, .int a2)]) hx hb dX7_plan_105 hl (by decide) rfl (fun ls hl => ?_)
                  refine lv_iload_n hx hb dX7_plan_107 rfl (lv_at hl 3 rfl) ?_
                  refine lv_if_ne (tgt := 119) hx hb dX7_plan_108 (by decide) (fun c50 => ?_) (fun c50 => ?_)
                  · replace h := ifn c50 h
                    refine lv_iload_n hx hb dX7_plan_119 rfl (lv_at hl 3 rfl) ?_
                    refine lv_iconst (v := 1) hx hb dX7_plan_120 (by decide) ?_
                    refine lv_icmp_ne (tgt := 132) hx hb dX7_plan_121 (by decide) (fun c51 => ?_) (fun c51 => ?_)
                    · replace h := ifn c51 h
                      refine lv_iload_n hx hb dX7_plan_132 rfl (lv_at hl 3 rfl) ?_
                      refine lv_iconst (v := 2) hx hb dX7_plan_133 (by decide) ?_
                      refine lv_icmp_ne (tgt := 145) hx hb dX7_plan_134 (by decide) (fun c52 => ?_) (fun c52 => ?_)
                      · replace h := ifn c52 h
                        refine lv_aload_n hx hb dX7_plan_145 rfl (lv_at hl 2 rfl) ?_
                        refine lv_iload_n hx hb dX7_plan_146 rfl (lv_at hl 4 rfl) ?_
                        refine pf_RX7_26 C hP hD hS dX7_plan_147 (fun H locs hP hD hS => ?_)
                        refine lv_iload hx hb dX7_plan_150 (lv_at hl 0 rfl) ?_
                        obtain ⟨rfl, rfl⟩ := so2 h
                        exact retI C hP hD hS dX7_plan_152
                      · replace h := ifp c52 h
                        refine lv_aload_n hx hb dX7_plan_137 rfl (lv_at hl 2 rfl) ?_
                        refine lv_iload_n hx hb dX7_plan_138 rfl (lv_at hl 4 rfl) ?_
                        refine pf_RX7_23 C hP hD hS dX7_plan_139 (fun H locs hP hD hS => ?_)
                        refine lv_goto (tgt := 150) hx hb dX7_plan_142 (by decide) ?_
                        refine lv_iload hx hb dX7_plan_150 (lv_at hl 0 rfl) ?_
                        obtain ⟨rfl, rfl⟩ := so2 h
                        exact retI C hP hD hS dX7_plan_152
                    · replace h := ifp c51 h
                      refine lv_aload_n hx hb dX7_plan_124 rfl (lv_at hl 2 rfl) ?_
                      refine lv_iload_n hx hb dX7_plan_125 rfl (lv_at hl 4 rfl) ?_
                      refine pf_RX7_20 C hP hD hS dX7_plan_126 (fun H locs hP hD hS => ?_)
                      refine lv_goto (tgt := 150) hx hb dX7_plan_129 (by decide) ?_
                      refine lv_iload hx hb dX7_plan_150 (lv_at hl 0 rfl) ?_
                      obtain ⟨rfl, rfl⟩ := so2 h
                      exact retI C hP hD hS dX7_plan_152
                  · replace h := ifp c50 h
                    refine lv_aload_n hx hb dX7_plan_111 rfl (lv_at hl 2 rfl) ?_
                    refine lv_iload_n hx hb dX7_plan_112 rfl (lv_at hl 4 rfl) ?_
                    refine pf_RX7_16 C hP hD hS dX7_plan_113 (fun H locs hP hD hS => ?_)
                    refine lv_goto (tgt := 150) hx hb dX7_plan_116 (by decide) ?_
                    refine lv_iload hx hb dX7_plan_150 (lv_at hl 0 rfl) ?_
                    obtain ⟨rfl, rfl⟩ := so2 h
                    exact retI C hP hD hS dX7_plan_152
              · replace h := ifp c41 h
                refine lv_aload_n hx hb dX7_plan_70 rfl (lv_at hl 1 rfl) ?_
                refine gf_RX7_16 C hP dX7_plan_71 ?_
                refine lv_goto (tgt := 105) hx hb dX7_plan_74 (by decide) ?_
                refine lv_istore (lv' := [(4, .int (σ.1 1)), (3, .int 1), (0, .ref (q 0)), (1, .int a1), (2, .int a2)]) hx hb dX7_plan_105 hl (by decide) rfl (fun ls hl => ?_)
                refine lv_iload_n hx hb dX7_plan_107 rfl (lv_at hl 3 rfl) ?_
                refine lv_if_ne (tgt := 119) hx hb dX7_plan_108 (by decide) (fun c53 => ?_) (fun c53 => ?_)
                · replace h := ifn c53 h
                  refine lv_iload_n hx hb dX7_plan_119 rfl (lv_at hl 3 rfl) ?_
                  refine lv_iconst (v := 1) hx hb dX7_plan_120 (by decide) ?_
                  refine lv_icmp_ne (tgt := 132) hx hb dX7_plan_121 (by decide) (fun c54 => ?_) (fun c54 => ?_)
                  · replace h := ifn c54 h
                    refine lv_iload_n hx hb dX7_plan_132 rfl (lv_at hl 3 rfl) ?_
                    refine lv_iconst (v := 2) hx hb dX7_plan_133 (by decide) ?_
                    refine lv_icmp_ne (tgt := 145) hx hb dX7_plan_134 (by decide) (fun c55 => ?_) (fun c55 => ?_)
                    · replace h := ifn c55 h
                      refine lv_aload_n hx hb dX7_plan_145 rfl (lv_at hl 2 rfl) ?_
                      refine lv_iload_n hx hb dX7_plan_146 rfl (lv_at hl 4 rfl) ?_
                      refine pf_RX7_26 C hP hD hS dX7_plan_147 (fun H locs hP hD hS => ?_)
                      refine lv_iload hx hb dX7_plan_150 (lv_at hl 0 rfl) ?_
                      obtain ⟨rfl, rfl⟩ := so2 h
                      exact retI C hP hD hS dX7_plan_152
                    · replace h := ifp c55 h
                      refine lv_aload_n hx hb dX7_plan_137 rfl (lv_at hl 2 rfl) ?_
                      refine lv_iload_n hx hb dX7_plan_138 rfl (lv_at hl 4 rfl) ?_
                      refine pf_RX7_23 C hP hD hS dX7_plan_139 (fun H locs hP hD hS => ?_)
                      refine lv_goto (tgt := 150) hx hb dX7_plan_142 (by decide) ?_
                      refine lv_iload hx hb dX7_plan_150 (lv_at hl 0 rfl) ?_
                      obtain ⟨rfl, rfl⟩ := so2 h
                      exact retI C hP hD hS dX7_plan_152
                  · replace h := ifp c54 h
                    refine lv_aload_n hx hb dX7_plan_124 rfl (lv_at hl 2 rfl) ?_
                    refine lv_iload_n hx hb dX7_plan_125 rfl (lv_at hl 4 rfl) ?_
                    refine pf_RX7_20 C hP hD hS dX7_plan_126 (fun H locs hP hD hS => ?_)
                    refine lv_goto (tgt := 150) hx hb dX7_plan_129 (by decide) ?_
                    refine lv_iload hx hb dX7_plan_150 (lv_at hl 0 rfl) ?_
                    obtain ⟨rfl, rfl⟩ := so2 h
                    exact retI C hP hD hS dX7_plan_152
                · replace h := ifp c53 h
                  refine lv_aload_n hx hb dX7_plan_111 rfl (lv_at hl 2 rfl) ?_
                  refine lv_iload_n hx hb dX7_plan_112 rfl (lv_at hl 4 rfl) ?_
                  refine pf_RX7_16 C hP hD hS dX7_plan_113 (fun H locs hP hD hS => ?_)
                  refine lv_goto (tgt := 150) hx hb dX7_plan_116 (by decide) ?_
                  refine lv_iload hx hb dX7_plan_150 (lv_at hl 0 rfl) ?_
                  obtain ⟨rfl, rfl⟩ := so2 h
                  exact retI C hP hD hS dX7_plan_152
            · replace h := ifp c40 h
              refine lv_iconst (v := (-1)) hx hb dX7_plan_64 (by decide) ?_
              obtain ⟨rfl, rfl⟩ := so2 h
              exact retI C hP hD hS dX7_plan_65
      · replace h := ifp c3 h
        refine lv_iload_n hx hb dX7_plan_30 rfl (lv_at hl 2 rfl) ?_
        refine lv_iconst (v := 1) hx hb dX7_plan_31 (by decide) ?_
        refine lv_iconst (v := 5) hx hb dX7_plan_32 (by decide) ?_
        obtain ⟨r57, h56, h⟩ := bd1_some h
        refine goI C hD hS (runS (As := [.int a2, .int 1, .int 5]) (rest := []) (w := (mW G q σ)) C lc_RX7_75 (ctM_within (w := (mW G q σ)) N a2 1 5 r57 h56 _) hP hD hS hl.1 rfl rfl (by decide) (by decide) (Nat.le_of_ble_eq_true rfl) dX7_plan_33) (fun H locs hP hD hS => ?_)
        refine lv_goto (tgt := 59) hx hb dX7_plan_36 (by decide) ?_
        refine lv_istore_n (lv' := [(3, .int r57), (0, .ref (q 0)), (1, .int a1), (2, .int a2)]) hx hb dX7_plan_59 rfl hl (by decide) rfl (fun ls hl => ?_)
        refine lv_iload_n hx hb dX7_plan_60 rfl (lv_at hl 0 rfl) ?_
        refine lv_if_ne (tgt := 66) hx hb dX7_plan_61 (by decide) (fun c58 => ?_) (fun c58 => ?_)
        · replace h := ifn c58 h
          refine lv_iload_n hx hb dX7_plan_66 rfl (lv_at hl 2 rfl) ?_
          refine lv_if_ne (tgt := 77) hx hb dX7_plan_67 (by decide) (fun c59 => ?_) (fun c59 => ?_)
          · replace h := ifn c59 h
            refine lv_iload_n hx hb dX7_plan_77 rfl (lv_at hl 2 rfl) ?_
            refine lv_iconst (v := 1) hx hb dX7_plan_78 (by decide) ?_
            refine lv_icmp_ne (tgt := 89) hx hb dX7_plan_79 (by decide) (fun c60 => ?_) (fun c60 => ?_)
            · replace h := ifn c60 h
              refine lv_iload_n hx hb dX7_plan_89 rfl (lv_at hl 2 rfl) ?_
              refine lv_iconst (v := 2) hx hb dX7_plan_90 (by decide) ?_
              refine lv_icmp_ne (tgt := 101) hx hb dX7_plan_91 (by decide) (fun c61 => ?_) (fun c61 => ?_)
              · replace h := ifn c61 h
                refine lv_aload_n hx hb dX7_plan_101 rfl (lv_at hl 1 rfl) ?_
                refine gf_RX7_26 C hP dX7_plan_102 ?_
                refine lv_istore (lv' := [(4, .int (σ.1 4)), (3, .int r57), (0, .ref (q 0)), (1, .int a1), (2, .int a2)]) hx hb dX7_plan_105 hl (by decide) rfl (fun ls hl => ?_)
                refine lv_iload_n hx hb dX7_plan_107 rfl (lv_at hl 3 rfl) ?_
                refine lv_if_ne (tgt := 119) hx hb dX7_plan_108 (by decide) (fun c62 => ?_) (fun c62 => ?_)
                · replace h := ifn c62 h
                  refine lv_iload_n hx hb dX7_plan_119 rfl (lv_at hl 3 rfl) ?_
                  refine lv_iconst (v := 1) hx hb dX7_plan_120 (by decide) ?_
                  refine lv_icmp_ne (tgt := 132) hx hb dX7_plan_121 (by decide) (fun c63 => ?_) (fun c63 => ?_)
                  · replace h := ifn c63 h
                    refine lv_iload_n hx hb dX7_plan_132 rfl (lv_at hl 3 rfl) ?_
                    refine lv_iconst (v := 2) hx hb dX7_plan_133 (by decide) ?_
                    refine lv_icmp_ne (tgt := 145) hx hb dX7_plan_134 (by decide) (fun c64 => ?_) (fun c64 => ?_)
                    · replace h := ifn c64 h
                      refine lv_aload_n hx hb dX7_plan_145 rfl (lv_at hl 2 rfl) ?_
                      refine lv_iload_n hx hb dX7_plan_146 rfl (lv_at hl 4 rfl) ?_
                      refine pf_RX7_26 C hP hD hS dX7_plan_147 (fun H locs hP hD hS => ?_)
                      refine lv_iload hx hb dX7_plan_150 (lv_at hl 0 rfl) ?_
                      obtain ⟨rfl, rfl⟩ := so2 h
                      exact retI C hP hD hS dX7_plan_152
                    · replace h := ifp c64 h
                      refine lv_aload_n hx hb dX7_plan_137 rfl (lv_at hl 2 rfl) ?_
                      refine lv_iload_n hx hb dX7_plan_138 rfl (lv_at hl 4 rfl) ?_
                      refine pf_RX7_23 C hP hD hS dX7_plan_139 (fun H locs hP hD hS => ?_)
                      refine lv_goto (tgt := 150) hx hb dX7_plan_142 (by decide) ?_
                      refine lv_iload hx hb dX7_plan_150 (lv_at hl 0 rfl) ?_
                      obtain ⟨rfl, rfl⟩ := so2 h
                      exact retI C hP hD hS dX7_plan_152
                  · replace h := ifp c63 h
                    refine lv_aload_n hx hb dX7_plan_124 rfl (lv_at hl 2 rfl) ?_
                    refine lv_iload_n hx hb dX7_plan_125 rfl (lv_at hl 4 rfl) ?_
                    refine pf_RX7_20 C hP hD hS dX7_plan_126 (fun H locs hP hD hS => ?_)
                    refine lv_goto (tgt := 150) hx hb dX7_plan_129 (by decide) ?_
                    refine lv_iload hx hb dX7_plan_150 (lv_at hl 0 rfl) ?_
                    obtain ⟨rfl, rfl⟩ := so2 h
                    exact retI C hP hD hS dX7_plan_152
                · replace h := ifp c62 h
                  refine lv_aload_n hx hb dX7_plan_111 rfl (lv_at hl 2 rfl) ?_
                  refine lv_iload_n hx hb dX7_plan_112 rfl (lv_at hl 4 rfl) ?_
                  refine pf_RX7_16 C hP hD hS dX7_plan_113 (fun H locs hP hD hS => ?_)
                  refine lv_goto (tgt := 150) hx hb dX7_plan_116 (by decide) ?_
                  refine lv_iload hx hb dX7_plan_150 (lv_at hl 0 rfl) ?_
                  obtain ⟨rfl, rfl⟩ := so2 h
                  exact retI C hP hD hS dX7_plan_152
              · replace h := ifp c61 h
                refine lv_aload_n hx hb dX7_plan_94 rfl (lv_at hl 1 rfl) ?_
                refine gf_RX7_23 C hP dX7_plan_95 ?_
                refine lv_goto (tgt := 105) hx hb dX7_plan_98 (by decide) ?_
                refine lv_istore (lv' := [(4, .int (σ.1 3)), (3, .int r57), (0, .ref (q 0)), (1, .int a1), (2, .int a2)]) hx hb dX7_plan_105 hl (by decide) rfl (fun ls hl => ?_)
                refine lv_iload_n hx hb dX7_plan_107 rfl (lv_at hl 3 rfl) ?_
                refine lv_if_ne (tgt := 119) hx hb dX7_plan_108 (by decide) (fun c65 => ?_) (fun c65 => ?_)
                · replace h := ifn c65 h
                  refine lv_iload_n hx hb dX7_plan_119 rfl (lv_at hl 3 rfl) ?_
                  refine lv_iconst (v := 1) hx hb dX7_plan_120 (by decide) ?_
                  refine lv_icmp_ne (tgt := 132) hx hb dX7_plan_121 (by decide) (fun c66 => ?_) (fun c66 => ?_)
                  · replace h := ifn c66 h
                    refine lv_iload_n hx hb dX7_plan_132 rfl (lv_at hl 3 rfl) ?_
                    refine lv_iconst (v := 2) hx hb dX7_plan_133 (by decide) ?_
                    refine lv_icmp_ne (tgt := 145) hx hb dX7_plan_134 (by decide) (fun c67 => ?_) (fun c67 => ?_)
                    · replace h := ifn c67 h
                      refine lv_aload_n hx hb dX7_plan_145 rfl (lv_at hl 2 rfl) ?_
                      refine lv_iload_n hx hb dX7_plan_146 rfl (lv_at hl 4 rfl) ?_
                      refine pf_RX7_26 C hP hD hS dX7_plan_147 (fun H locs hP hD hS => ?_)
                      refine lv_iload hx hb dX7_plan_150 (lv_at hl 0 rfl) ?_
                      obtain ⟨rfl, rfl⟩ := so2 h
                      exact retI C hP hD hS dX7_plan_152
                    · replace h := ifp c67 h
                      refine lv_aload_n hx hb dX7_plan_137 rfl (lv_at hl 2 rfl) ?_
                      refine lv_iload_n hx hb dX7_plan_138 rfl (lv_at hl 4 rfl) ?_
                      refine pf_RX7_23 C hP hD hS dX7_plan_139 (fun H locs hP hD hS => ?_)
                      refine lv_goto (tgt := 150) hx hb dX7_plan_142 (by decide) ?_
                      refine lv_iload hx hb dX7_plan_150 (lv_at hl 0 rfl) ?_
                      obtain ⟨rfl, rfl⟩ := so2 h
                      exact retI C hP hD hS dX7_plan_152
                  · replace h := ifp c66 h
                    refine lv_aload_n hx hb dX7_plan_124 rfl (lv_at hl 2 rfl) ?_
                    refine lv_iload_n hx hb dX7_plan_125 rfl (lv_at hl 4 rfl) ?_
                    refine pf_RX7_20 C hP hD hS dX7_plan_126 (fun H locs hP hD hS => ?_)
                    refine lv_goto (tgt := 150) hx hb dX7_plan_129 (by decide) ?_
                    refine lv_iload hx hb dX7_plan_150 (lv_at hl 0 rfl) ?_
                    obtain ⟨rfl, rfl⟩ := so2 h
                    exact retI C hP hD hS dX7_plan_152
                · replace h := ifp c65 h
                  refine lv_aload_n hx hb dX7_plan_111 rfl (lv_at hl 2 rfl) ?_
                  refine lv_iload_n hx hb dX7_plan_112 rfl (lv_at hl 4 rfl) ?_
                  refine pf_RX7_16 C hP hD hS dX7_plan_113 (fun H locs hP hD hS => ?_)
                  refine lv_goto (tgt := 150) hx hb dX7_plan_116 (by decide) ?_
                  refine lv_iload hx hb dX7_plan_150 (lv_at hl 0 rfl) ?_
                  obtain ⟨rfl, rfl⟩ := so2 h
                  exact retI C hP hD hS dX7_plan_152
            · replace h := ifp c60 h
              refine lv_aload_n hx hb dX7_plan_82 rfl (lv_at hl 1 rfl) ?_
              refine gf_RX7_20 C hP dX7_plan_83 ?_
              refine lv_goto (tgt := 105) hx hb dX7_plan_86 (by decide) ?_
              refine lv_istore (lv' := [(4, .int (σ.1 2)), (3, .int r57), (0, .ref (q 0)), (1, .int a1), (2, .int a2)]) hx hb dX7_plan_105 hl (by decide) rfl (fun ls hl => ?_)
              refine lv_iload_n hx hb dX7_plan_107 rfl (lv_at hl 3 rfl) ?_
              refine lv_if_ne (tgt := 119) hx hb dX7_plan_108 (by decide) (fun c68 => ?_) (fun c68 => ?_)
              · replace h := ifn c68 h
                refine lv_iload_n hx hb dX7_plan_119 rfl (lv_at hl 3 rfl) ?_
                refine lv_iconst (v := 1) hx hb dX7_plan_120 (by decide) ?_
                refine lv_icmp_ne (tgt := 132) hx hb dX7_plan_121 (by decide) (fun c69 => ?_) (fun c69 => ?_)
                · replace h := ifn c69 h
                  refine lv_iload_n hx hb dX7_plan_132 rfl (lv_at hl 3 rfl) ?_
                  refine lv_iconst (v := 2) hx hb dX7_plan_133 (by decide) ?_
                  refine lv_icmp_ne (tgt := 145) hx hb dX7_plan_134 (by decide) (fun c70 => ?_) (fun c70 => ?_)
                  · replace h := ifn c70 h
                    refine lv_aload_n hx hb dX7_plan_145 rfl (lv_at hl 2 rfl) ?_
                    refine lv_iload_n hx hb dX7_plan_146 rfl (lv_at hl 4 rfl) ?_
                    refine pf_RX7_26 C hP hD hS dX7_plan_147 (fun H locs hP hD hS => ?_)
                    refine lv_iload hx hb dX7_plan_150 (lv_at hl 0 rfl) ?_
                    obtain ⟨rfl, rfl⟩ := so2 h
                    exact retI C hP hD hS dX7_plan_152
                  · replace h := ifp c70 h
                    refine lv_aload_n hx hb dX7_plan_137 rfl (lv_at hl 2 rfl) ?_
                    refine lv_iload_n hx hb dX7_plan_138 rfl (lv_at hl 4 rfl) ?_
                    refine pf_RX7_23 C hP hD hS dX7_plan_139 (fun H locs hP hD hS => ?_)
                    refine lv_goto (tgt := 150) hx hb dX7_plan_142 (by decide) ?_
                    refine lv_iload hx hb dX7_plan_150 (lv_at hl 0 rfl) ?_
                    obtain ⟨rfl, rfl⟩ := so2 h
                    exact retI C hP hD hS dX7_plan_152
                · replace h := ifp c69 h
                  refine lv_aload_n hx hb dX7_plan_124 rfl (lv_at hl 2 rfl) ?_
                  refine lv_iload_n hx hb dX7_plan_125 rfl (lv_at hl 4 rfl) ?_
                  refine pf_RX7_20 C hP hD hS dX7_plan_126 (fun H locs hP hD hS => ?_)
                  refine lv_goto (tgt := 150) hx hb dX7_plan_129 (by decide) ?_
                  refine lv_iload hx hb dX7_plan_150 (lv_at hl 0 rfl) ?_
                  obtain ⟨rfl, rfl⟩ := so2 h
                  exact retI C hP hD hS dX7_plan_152
              · replace h := ifp c68 h
                refine lv_aload_n hx hb dX7_plan_111 rfl (lv_at hl 2 rfl) ?_
                refine lv_iload_n hx hb dX7_plan_112 rfl (lv_at hl 4 rfl) ?_
                refine pf_RX7_16 C hP hD hS dX7_plan_113 (fun H locs hP hD hS => ?_)
                refine lv_goto (tgt := 150) hx hb dX7_plan_116 (by decide) ?_
                refine lv_iload hx hb dX7_plan_150 (lv_at hl 0 rfl) ?_
                obtain ⟨rfl, rfl⟩ := so2 h
                exact retI C hP hD hS dX7_plan_152
          · replace h := ifp c59 h
            refine lv_aload_n hx hb dX7_plan_70 rfl (lv_at hl 1 rfl) ?_
            refine gf_RX7_16 C hP dX7_plan_71 ?_
            refine lv_goto (tgt := 105) hx hb dX7_plan_74 (by decide) ?_
            refine lv_istore (lv' := [(4, .int (σ.1 1)), (3, .int r57), (0, .ref (q 0)), (1, .int a1), (2, .int a2)]) hx hb dX7_plan_105 hl (by decide) rfl (fun ls hl => ?_)
            refine lv_iload_n hx hb dX7_plan_107 rfl (lv_at hl 3 rfl) ?_
            refine lv_if_ne (tgt := 119) hx hb dX7_plan_108 (by decide) (fun c71 => ?_) (fun c71 => ?_)
            · replace h := ifn c71 h
              refine lv_iload_n hx hb dX7_plan_119 rfl (lv_at hl 3 rfl) ?_
              refine lv_iconst (v := 1) hx hb dX7_plan_120 (by decide) ?_
              refine lv_icmp_ne (tgt := 132) hx hb dX7_plan_121 (by decide) (fun c72 => ?_) (fun c72 => ?_)
              · replace h := ifn c72 h
                refine lv_iload_n hx hb dX7_plan_132 rfl (lv_at hl 3 rfl) ?_
                refine lv_iconst (v := 2) hx hb dX7_plan_133 (by decide) ?_
                refine lv_icmp_ne (tgt := 145) hx hb dX7_plan_134 (by decide) (fun c73 => ?_) (fun c73 => ?_)
                · replace h := ifn c73 h
                  refine lv_aload_n hx hb dX7_plan_145 rfl (lv_at hl 2 rfl) ?_
                  refine lv_iload_n hx hb dX7_plan_146 rfl (lv_at hl 4 rfl) ?_
                  refine pf_RX7_26 C hP hD hS dX7_plan_147 (fun H locs hP hD hS => ?_)
                  refine lv_iload hx hb dX7_plan_150 (lv_at hl 0 rfl) ?_
                  obtain ⟨rfl, rfl⟩ := so2 h
                  exact retI C hP hD hS dX7_plan_152
                · replace h := ifp c73 h
                  refine lv_aload_n hx hb dX7_plan_137 rfl (lv_at hl 2 rfl) ?_
                  refine lv_iload_n hx hb dX7_plan_138 rfl (lv_at hl 4 rfl) ?_
                  refine pf_RX7_23 C hP hD hS dX7_plan_139 (fun H locs hP hD hS => ?_)
                  refine lv_goto (tgt := 150) hx hb dX7_plan_142 (by decide) ?_
                  refine lv_iload hx hb dX7_plan_150 (lv_at hl 0 rfl) ?_
                  obtain ⟨rfl, rfl⟩ := so2 h
                  exact retI C hP hD hS dX7_plan_152
              · replace h := ifp c72 h
                refine lv_aload_n hx hb dX7_plan_124 rfl (lv_at hl 2 rfl) ?_
                refine lv_iload_n hx hb dX7_plan_125 rfl (lv_at hl 4 rfl) ?_
                refine pf_RX7_20 C hP hD hS dX7_plan_126 (fun H locs hP hD hS => ?_)
                refine lv_goto (tgt := 150) hx hb dX7_plan_129 (by decide) ?_
                refine lv_iload hx hb dX7_plan_150 (lv_at hl 0 rfl) ?_
                obtain ⟨rfl, rfl⟩ := so2 h
                exact retI C hP hD hS dX7_plan_152
            · replace h := ifp c71 h
              refine lv_aload_n hx hb dX7_plan_111 rfl (lv_at hl 2 rfl) ?_
              refine lv_iload_n hx hb dX7_plan_112 rfl (lv_at hl 4 rfl) ?_
              refine pf_RX7_16 C hP hD hS dX7_plan_113 (fun H locs hP hD hS => ?_)
              refine lv_goto (tgt := 150) hx hb dX7_plan_116 (by decide) ?_
              refine lv_iload hx hb dX7_plan_150 (lv_at hl 0 rfl) ?_
              obtain ⟨rfl, rfl⟩ := so2 h
              exact retI C hP hD hS dX7_plan_152
        · replace h := ifp c58 h
          refine lv_iconst (v := (-1)) hx hb dX7_plan_64 (by decide) ?_
          obtain ⟨rfl, rfl⟩ := so2 h
          exact retI C hP hD hS dX7_plan_65
    · replace h := ifp c2 h
      refine lv_iload_n hx hb dX7_plan_16 rfl (lv_at hl 2 rfl) ?_
      refine lv_iconst (v := 0) hx hb dX7_plan_17 (by decide) ?_
      refine lv_iconst (v := 1) hx hb dX7_plan_18 (by decide) ?_
      obtain ⟨r75, h74, h⟩ := bd1_some h
      refine goI C hD hS (runS (As := [.int a2, .int 0, .int 1]) (rest := []) (w := (mW G q σ)) C lc_RX7_75 (ctM_within (w := (mW G q σ)) N a2 0 1 r75 h74 _) hP hD hS hl.1 rfl rfl (by decide) (by decide) (Nat.le_of_ble_eq_true rfl) dX7_plan_19) (fun H locs hP hD hS => ?_)
      refine lv_goto (tgt := 59) hx hb dX7_plan_22 (by decide) ?_
      refine lv_istore_n (lv' := [(3, .int r75), (0, .ref (q 0)), (1, .int a1), (2, .int a2)]) hx hb dX7_plan_59 rfl hl (by decide) rfl (fun ls hl => ?_)
      refine lv_iload_n hx hb dX7_plan_60 rfl (lv_at hl 0 rfl) ?_
      refine lv_if_ne (tgt := 66) hx hb dX7_plan_61 (by decide) (fun c76 => ?_) (fun c76 => ?_)
      · replace h := ifn c76 h
        refine lv_iload_n hx hb dX7_plan_66 rfl (lv_at hl 2 rfl) ?_
        refine lv_if_ne (tgt := 77) hx hb dX7_plan_67 (by decide) (fun c77 => ?_) (fun c77 => ?_)
        · replace h := ifn c77 h
          refine lv_iload_n hx hb dX7_plan_77 rfl (lv_at hl 2 rfl) ?_
          refine lv_iconst (v := 1) hx hb dX7_plan_78 (by decide) ?_
          refine lv_icmp_ne (tgt := 89) hx hb dX7_plan_79 (by decide) (fun c78 => ?_) (fun c78 => ?_)
          · replace h := ifn c78 h
            refine lv_iload_n hx hb dX7_plan_89 rfl (lv_at hl 2 rfl) ?_
            refine lv_iconst (v := 2) hx hb dX7_plan_90 (by decide) ?_
            refine lv_icmp_ne (tgt := 101) hx hb dX7_plan_91 (by decide) (fun c79 => ?_) (fun c79 => ?_)
            · replace h := ifn c79 h
              refine lv_aload_n hx hb dX7_plan_101 rfl (lv_at hl 1 rfl) ?_
              refine gf_RX7_26 C hP dX7_plan_102 ?_
              refine lv_istore (lv' := [(4, .int (σ.1 4)), (3, .int r75), (0, .ref (q 0)), (1, .int a1), (2, .int a2)]) hx hb dX7_plan_105 hl (by decide) rfl (fun ls hl => ?_)
              refine lv_iload_n hx hb dX7_plan_107 rfl (lv_at hl 3 rfl) ?_
              refine lv_if_ne (tgt := 119) hx hb dX7_plan_108 (by decide) (fun c80 => ?_) (fun c80 => ?_)
              · replace h := ifn c80 h
                refine lv_iload_n hx hb dX7_plan_119 rfl (lv_at hl 3 rfl) ?_
                refine lv_iconst (v := 1) hx hb dX7_plan_120 (by decide) ?_
                refine lv_icmp_ne (tgt := 132) hx hb dX7_plan_121 (by decide) (fun c81 => ?_) (fun c81 => ?_)
                · replace h := ifn c81 h
                  refine lv_iload_n hx hb dX7_plan_132 rfl (lv_at hl 3 rfl) ?_
                  refine lv_iconst (v := 2) hx hb dX7_plan_133 (by decide) ?_
                  refine lv_icmp_ne (tgt := 145) hx hb dX7_plan_134 (by decide) (fun c82 => ?_) (fun c82 => ?_)
                  · replace h := ifn c82 h
                    refine lv_aload_n hx hb dX7_plan_145 rfl (lv_at hl 2 rfl) ?_
                    refine lv_iload_n hx hb dX7_plan_146 rfl (lv_at hl 4 rfl) ?_
                    refine pf_RX7_26 C hP hD hS dX7_plan_147 (fun H locs hP hD hS => ?_)
                    refine lv_iload hx hb dX7_plan_150 (lv_at hl 0 rfl) ?_
                    obtain ⟨rfl, rfl⟩ := so2 h
                    exact retI C hP hD hS dX7_plan_152
                  · replace h := ifp c82 h
                    refine lv_aload_n hx hb dX7_plan_137 rfl (lv_at hl 2 rfl) ?_
                    refine lv_iload_n hx hb dX7_plan_138 rfl (lv_at hl 4 rfl) ?_
                    refine pf_RX7_23 C hP hD hS dX7_plan_139 (fun H locs hP hD hS => ?_)
                    refine lv_goto (tgt := 150) hx hb dX7_plan_142 (by decide) ?_
                    refine lv_iload hx hb dX7_plan_150 (lv_at hl 0 rfl) ?_
                    obtain ⟨rfl, rfl⟩ := so2 h
                    exact retI C hP hD hS dX7_plan_152
                · replace h := ifp c81 h
                  refine lv_aload_n hx hb dX7_plan_124 rfl (lv_at hl 2 rfl) ?_
                  refine lv_iload_n hx hb dX7_plan_125 rfl (lv_at hl 4 rfl) ?_
                  refine pf_RX7_20 C hP hD hS dX7_plan_126 (fun H locs hP hD hS => ?_)
                  refine lv_goto (tgt := 150) hx hb dX7_plan_129 (by decide) ?_
                  refine lv_iload hx hb dX7_plan_150 (lv_at hl 0 rfl) ?_
                  obtain ⟨rfl, rfl⟩ := so2 h
                  exact retI C hP hD hS dX7_plan_152
              · replace h := ifp c80 h
                refine lv_aload_n hx hb dX7_plan_111 rfl (lv_at hl 2 rfl) ?_
                refine lv_iload_n hx hb dX7_plan_112 rfl (lv_at hl 4 rfl) ?_
                refine pf_RX7_16 C hP hD hS dX7_plan_113 (fun H locs hP hD hS => ?_)
                refine lv_goto (tgt := 150) hx hb dX7_plan_116 (by decide) ?_
                refine lv_iload hx hb dX7_plan_150 (lv_at hl 0 rfl) ?_
                obtain ⟨rfl, rfl⟩ := so2 h
                exact retI C hP hD hS dX7_plan_152
            · replace h := ifp c79 h
              refine lv_aload_n hx hb dX7_plan_94 rfl (lv_at hl 1 rfl) ?_
              refine gf_RX7_23 C hP dX7_plan_95 ?_
              refine lv_goto (tgt := 105) hx hb dX7_plan_98 (by decide) ?_
              refine lv_istore (lv' := [(4, .int (σ.1 3)), (3, .int r75), (0, .ref (q 0)), (1, .int a1), (2, .int a2)]) hx hb dX7_plan_105 hl (by decide) rfl (fun ls hl => ?_)
              refine lv_iload_n hx hb dX7_plan_107 rfl (lv_at hl 3 rfl) ?_
              refine lv_if_ne (tgt := 119) hx hb dX7_plan_108 (by decide) (fun c83 => ?_) (fun c83 => ?_)
              · replace h := ifn c83 h
                refine lv_iload_n hx hb dX7_plan_119 rfl (lv_at hl 3 rfl) ?_
                refine lv_iconst (v := 1) hx hb dX7_plan_120 (by decide) ?_
                refine lv_icmp_ne (tgt := 132) hx hb dX7_plan_121 (by decide) (fun c84 => ?_) (fun c84 => ?_)
                · replace h := ifn c84 h
                  refine lv_iload_n hx hb dX7_plan_132 rfl (lv_at hl 3 rfl) ?_
                  refine lv_iconst (v := 2) hx hb dX7_plan_133 (by decide) ?_
                  refine lv_icmp_ne (tgt := 145) hx hb dX7_plan_134 (by decide) (fun c85 => ?_) (fun c85 => ?_)
                  · replace h := ifn c85 h
                    refine lv_aload_n hx hb dX7_plan_145 rfl (lv_at hl 2 rfl) ?_
                    refine lv_iload_n hx hb dX7_plan_146 rfl (lv_at hl 4 rfl) ?_
                    refine pf_RX7_26 C hP hD hS dX7_plan_147 (fun H locs hP hD hS => ?_)
                    refine lv_iload hx hb dX7_plan_150 (lv_at hl 0 rfl) ?_
                    obtain ⟨rfl, rfl⟩ := so2 h
                    exact retI C hP hD hS dX7_plan_152
                  · replace h := ifp c85 h
                    refine lv_aload_n hx hb dX7_plan_137 rfl (lv_at hl 2 rfl) ?_
                    refine lv_iload_n hx hb dX7_plan_138 rfl (lv_at hl 4 rfl) ?_
                    refine pf_RX7_23 C hP hD hS dX7_plan_139 (fun H locs hP hD hS => ?_)
                    refine lv_goto (tgt := 150) hx hb dX7_plan_142 (by decide) ?_
                    refine lv_iload hx hb dX7_plan_150 (lv_at hl 0 rfl) ?_
                    obtain ⟨rfl, rfl⟩ := so2 h
                    exact retI C hP hD hS dX7_plan_152
                · replace h := ifp c84 h
                  refine lv_aload_n hx hb dX7_plan_124 rfl (lv_at hl 2 rfl) ?_
                  refine lv_iload_n hx hb dX7_plan_125 rfl (lv_at hl 4 rfl) ?_
                  refine pf_RX7_20 C hP hD hS dX7_plan_126 (fun H locs hP hD hS => ?_)
                  refine lv_goto (tgt := 150) hx hb dX7_plan_129 (by decide) ?_
                  refine lv_iload hx hb dX7_plan_150 (lv_at hl 0 rfl) ?_
                  obtain ⟨rfl, rfl⟩ := so2 h
                  exact retI C hP hD hS dX7_plan_152
              · replace h := ifp c83 h
                refine lv_aload_n hx hb dX7_plan_111 rfl (lv_at hl 2 rfl) ?_
                refine lv_iload_n hx hb dX7_plan_112 rfl (lv_at hl 4 rfl) ?_
                refine pf_RX7_16 C hP hD hS dX7_plan_113 (fun H locs hP hD hS => ?_)
                refine lv_goto (tgt := 150) hx hb dX7_plan_116 (by decide) ?_
                refine lv_iload hx hb dX7_plan_150 (lv_at hl 0 rfl) ?_
                obtain ⟨rfl, rfl⟩ := so2 h
                exact retI C hP hD hS dX7_plan_152
          · replace h := ifp c78 h
            refine lv_aload_n hx hb dX7_plan_82 rfl (lv_at hl 1 rfl) ?_
            refine gf_RX7_20 C hP dX7_plan_83 ?_
            refine lv_goto (tgt := 105) hx hb dX7_plan_86 (by decide) ?_
            refine lv_istore (lv' := [(4, .int (σ.1 2)), (3, .int r75), (0, .ref (q 0)), (1, .int a1), (2, .int a2)]) hx hb dX7_plan_105 hl (by decide) rfl (fun ls hl => ?_)
            refine lv_iload_n hx hb dX7_plan_107 rfl (lv_at hl 3 rfl) ?_
            refine lv_if_ne (tgt := 119) hx hb dX7_plan_108 (by decide) (fun c86 => ?_) (fun c86 => ?_)
            · replace h := ifn c86 h
              refine lv_iload_n hx hb dX7_plan_119 rfl (lv_at hl 3 rfl) ?_
              refine lv_iconst (v := 1) hx hb dX7_plan_120 (by decide) ?_
              refine lv_icmp_ne (tgt := 132) hx hb dX7_plan_121 (by decide) (fun c87 => ?_) (fun c87 => ?_)
              · replace h := ifn c87 h
                refine lv_iload_n hx hb dX7_plan_132 rfl (lv_at hl 3 rfl) ?_
                refine lv_iconst (v := 2) hx hb dX7_plan_133 (by decide) ?_
                refine lv_icmp_ne (tgt := 145) hx hb dX7_plan_134 (by decide) (fun c88 => ?_) (fun c88 => ?_)
                · replace h := ifn c88 h
                  refine lv_aload_n hx hb dX7_plan_145 rfl (lv_at hl 2 rfl) ?_
                  refine lv_iload_n hx hb dX7_plan_146 rfl (lv_at hl 4 rfl) ?_
                  refine pf_RX7_26 C hP hD hS dX7_plan_147 (fun H locs hP hD hS => ?_)
                  refine lv_iload hx hb dX7_plan_150 (lv_at hl 0 rfl) ?_
                  obtain ⟨rfl, rfl⟩ := so2 h
                  exact retI C hP hD hS dX7_plan_152
                · replace h := ifp c88 h
                  refine lv_aload_n hx hb dX7_plan_137 rfl (lv_at hl 2 rfl) ?_
                  refine lv_iload_n hx hb dX7_plan_138 rfl (lv_at hl 4 rfl) ?_
                  refine pf_RX7_23 C hP hD hS dX7_plan_139 (fun H locs hP hD hS => ?_)
                  refine lv_goto (tgt := 150) hx hb dX7_plan_142 (by decide) ?_
                  refine lv_iload hx hb dX7_plan_150 (lv_at hl 0 rfl) ?_
                  obtain ⟨rfl, rfl⟩ := so2 h
                  exact retI C hP hD hS dX7_plan_152
              · replace h := ifp c87 h
                refine lv_aload_n hx hb dX7_plan_124 rfl (lv_at hl 2 rfl) ?_
                refine lv_iload_n hx hb dX7_plan_125 rfl (lv_at hl 4 rfl) ?_
                refine pf_RX7_20 C hP hD hS dX7_plan_126 (fun H locs hP hD hS => ?_)
                refine lv_goto (tgt := 150) hx hb dX7_plan_129 (by decide) ?_
                refine lv_iload hx hb dX7_plan_150 (lv_at hl 0 rfl) ?_
                obtain ⟨rfl, rfl⟩ := so2 h
                exact retI C hP hD hS dX7_plan_152
            · replace h := ifp c86 h
              refine lv_aload_n hx hb dX7_plan_111 rfl (lv_at hl 2 rfl) ?_
              refine lv_iload_n hx hb dX7_plan_112 rfl (lv_at hl 4 rfl) ?_
              refine pf_RX7_16 C hP hD hS dX7_plan_113 (fun H locs hP hD hS => ?_)
              refine lv_goto (tgt := 150) hx hb dX7_plan_116 (by decide) ?_
              refine lv_iload hx hb dX7_plan_150 (lv_at hl 0 rfl) ?_
              obtain ⟨rfl, rfl⟩ := so2 h
              exact retI C hP hD hS dX7_plan_152
        · replace h := ifp c77 h
          refine lv_aload_n hx hb dX7_plan_70 rfl (lv_at hl 1 rfl) ?_
          refine gf_RX7_16 C hP dX7_plan_71 ?_
          refine lv_goto (tgt := 105) hx hb dX7_plan_74 (by decide) ?_
          refine lv_istore (lv' := [(4, .int (σ.1 1)), (3, .int r75), (0, .ref (q 0)), (1, .int a1), (2, .int a2)]) hx hb dX7_plan_105 hl (by decide) rfl (fun ls hl => ?_)
          refine lv_iload_n hx hb dX7_plan_107 rfl (lv_at hl 3 rfl) ?_
          refine lv_if_ne (tgt := 119) hx hb dX7_plan_108 (by decide) (fun c89 => ?_) (fun c89 => ?_)
          · replace h := ifn c89 h
            refine lv_iload_n hx hb dX7_plan_119 rfl (lv_at hl 3 rfl) ?_
            refine lv_iconst (v := 1) hx hb dX7_plan_120 (by decide) ?_
            refine lv_icmp_ne (tgt := 132) hx hb dX7_plan_121 (by decide) (fun c90 => ?_) (fun c90 => ?_)
            · replace h := ifn c90 h
              refine lv_iload_n hx hb dX7_plan_132 rfl (lv_at hl 3 rfl) ?_
              refine lv_iconst (v := 2) hx hb dX7_plan_133 (by decide) ?_
              refine lv_icmp_ne (tgt := 145) hx hb dX7_plan_134 (by decide) (fun c91 => ?_) (fun c91 => ?_)
              · replace h := ifn c91 h
                refine lv_aload_n hx hb dX7_plan_145 rfl (lv_at hl 2 rfl) ?_
                refine lv_iload_n hx hb dX7_plan_146 rfl (lv_at hl 4 rfl) ?_
                refine pf_RX7_26 C hP hD hS dX7_plan_147 (fun H locs hP hD hS => ?_)
                refine lv_iload hx hb dX7_plan_150 (lv_at hl 0 rfl) ?_
                obtain ⟨rfl, rfl⟩ := so2 h
                exact retI C hP hD hS dX7_plan_152
              · replace h := ifp c91 h
                refine lv_aload_n hx hb dX7_plan_137 rfl (lv_at hl 2 rfl) ?_
                refine lv_iload_n hx hb dX7_plan_138 rfl (lv_at hl 4 rfl) ?_
                refine pf_RX7_23 C hP hD hS dX7_plan_139 (fun H locs hP hD hS => ?_)
                refine lv_goto (tgt := 150) hx hb dX7_plan_142 (by decide) ?_
                refine lv_iload hx hb dX7_plan_150 (lv_at hl 0 rfl) ?_
                obtain ⟨rfl, rfl⟩ := so2 h
                exact retI C hP hD hS dX7_plan_152
            · replace h := ifp c90 h
              refine lv_aload_n hx hb dX7_plan_124 rfl (lv_at hl 2 rfl) ?_
              refine lv_iload_n hx hb dX7_plan_125 rfl (lv_at hl 4 rfl) ?_
              refine pf_RX7_20 C hP hD hS dX7_plan_126 (fun H locs hP hD hS => ?_)
              refine lv_goto (tgt := 150) hx hb dX7_plan_129 (by decide) ?_
              refine lv_iload hx hb dX7_plan_150 (lv_at hl 0 rfl) ?_
              obtain ⟨rfl, rfl⟩ := so2 h
              exact retI C hP hD hS dX7_plan_152
          · replace h := ifp c89 h
            refine lv_aload_n hx hb dX7_plan_111 rfl (lv_at hl 2 rfl) ?_
            refine lv_iload_n hx hb dX7_plan_112 rfl (lv_at hl 4 rfl) ?_
            refine pf_RX7_16 C hP hD hS dX7_plan_113 (fun H locs hP hD hS => ?_)
            refine lv_goto (tgt := 150) hx hb dX7_plan_116 (by decide) ?_
            refine lv_iload hx hb dX7_plan_150 (lv_at hl 0 rfl) ?_
            obtain ⟨rfl, rfl⟩ := so2 h
            exact retI C hP hD hS dX7_plan_152
      · replace h := ifp c76 h
        refine lv_iconst (v := (-1)) hx hb dX7_plan_64 (by decide) ?_
        obtain ⟨rfl, rfl⟩ := so2 h
        exact retI C hP hD hS dX7_plan_65
  · replace h := ifp c1 h
    refine lv_iload_n hx hb dX7_plan_4 rfl (lv_at hl 2 rfl) ?_
    obtain ⟨r93, h92, h⟩ := bd1_some h
    refine goI C hD hS (runS (As := [.int a2]) (rest := []) (w := (mW G q σ)) C lc_RX7_79 (ctM_isMiddle (w := (mW G q σ)) N a2 r93 h92 _) hP hD hS hl.1 rfl rfl (by decide) (by decide) (Nat.le_of_ble_eq_true rfl) dX7_plan_5) (fun H locs hP hD hS => ?_)
    refine lv_goto (tgt := 59) hx hb dX7_plan_8 (by decide) ?_
    refine lv_istore_n (lv' := [(3, .int r93), (0, .ref (q 0)), (1, .int a1), (2, .int a2)]) hx hb dX7_plan_59 rfl hl (by decide) rfl (fun ls hl => ?_)
    refine lv_iload_n hx hb dX7_plan_60 rfl (lv_at hl 0 rfl) ?_
    refine lv_if_ne (tgt := 66) hx hb dX7_plan_61 (by decide) (fun c94 => ?_) (fun c94 => ?_)
    · replace h := ifn c94 h
      refine lv_iload_n hx hb dX7_plan_66 rfl (lv_at hl 2 rfl) ?_
      refine lv_if_ne (tgt := 77) hx hb dX7_plan_67 (by decide) (fun c95 => ?_) (fun c95 => ?_)
      · replace h := ifn c95 h
        refine lv_iload_n hx hb dX7_plan_77 rfl (lv_at hl 2 rfl) ?_
        refine lv_iconst (v := 1) hx hb dX7_plan_78 (by decide) ?_
        refine lv_icmp_ne (tgt := 89) hx hb dX7_plan_79 (by decide) (fun c96 => ?_) (fun c96 => ?_)
        · replace h := ifn c96 h
          refine lv_iload_n hx hb dX7_plan_89 rfl (lv_at hl 2 rfl) ?_
          refine lv_iconst (v := 2) hx hb dX7_plan_90 (by decide) ?_
          refine lv_icmp_ne (tgt := 101) hx hb dX7_plan_91 (by decide) (fun c97 => ?_) (fun c97 => ?_)
          · replace h := ifn c97 h
            refine lv_aload_n hx hb dX7_plan_101 rfl (lv_at hl 1 rfl) ?_
            refine gf_RX7_26 C hP dX7_plan_102 ?_
            refine lv_istore (lv' := [(4, .int (σ.1 4)), (3, .int r93), (0, .ref (q 0)), (1, .int a1), (2, .int a2)]) hx hb dX7_plan_105 hl (by decide) rfl (fun ls hl => ?_)
            refine lv_iload_n hx hb dX7_plan_107 rfl (lv_at hl 3 rfl) ?_
            refine lv_if_ne (tgt := 119) hx hb dX7_plan_108 (by decide) (fun c98 => ?_) (fun c98 => ?_)
            · replace h := ifn c98 h
              refine lv_iload_n hx hb dX7_plan_119 rfl (lv_at hl 3 rfl) ?_
              refine lv_iconst (v := 1) hx hb dX7_plan_120 (by decide) ?_
              refine lv_icmp_ne (tgt := 132) hx hb dX7_plan_121 (by decide) (fun c99 => ?_) (fun c99 => ?_)
              · replace h := ifn c99 h
                refine lv_iload_n hx hb dX7_plan_132 rfl (lv_at hl 3 rfl) ?_
                refine lv_iconst (v := 2) hx hb dX7_plan_133 (by decide) ?_
                refine lv_icmp_ne (tgt := 145) hx hb dX7_plan_134 (by decide) (fun c100 => ?_) (fun c100 => ?_)
                · replace h := ifn c100 h
                  refine lv_aload_n hx hb dX7_plan_145 rfl (lv_at hl 2 rfl) ?_
                  refine lv_iload_n hx hb dX7_plan_146 rfl (lv_at hl 4 rfl) ?_
                  refine pf_RX7_26 C hP hD hS dX7_plan_147 (fun H locs hP hD hS => ?_)
                  refine lv_iload hx hb dX7_plan_150 (lv_at hl 0 rfl) ?_
                  obtain ⟨rfl, rfl⟩ := so2 h
                  exact retI C hP hD hS dX7_plan_152
                · replace h := ifp c100 h
                  refine lv_aload_n hx hb dX7_plan_137 rfl (lv_at hl 2 rfl) ?_
                  refine lv_iload_n hx hb dX7_plan_138 rfl (lv_at hl 4 rfl) ?_
                  refine pf_RX7_23 C hP hD hS dX7_plan_139 (fun H locs hP hD hS => ?_)
                  refine lv_goto (tgt := 150) hx hb dX7_plan_142 (by decide) ?_
                  refine lv_iload hx hb dX7_plan_150 (lv_at hl 0 rfl) ?_
                  obtain ⟨rfl, rfl⟩ := so2 h
                  exact retI C hP hD hS dX7_plan_152
              · replace h := ifp c99 h
                refine lv_aload_n hx hb dX7_plan_124 rfl (lv_at hl 2 rfl) ?_
                refine lv_iload_n hx hb dX7_plan_125 rfl (lv_at hl 4 rfl) ?_
                refine pf_RX7_20 C hP hD hS dX7_plan_126 (fun H locs hP hD hS => ?_)
                refine lv_goto (tgt := 150) hx hb dX7_plan_129 (by decide) ?_
                refine lv_iload hx hb dX7_plan_150 (lv_at hl 0 rfl) ?_
                obtain ⟨rfl, rfl⟩ := so2 h
                exact retI C hP hD hS dX7_plan_152
            · replace h := ifp c98 h
              refine lv_aload_n hx hb dX7_plan_111 rfl (lv_at hl 2 rfl) ?_
              refine lv_iload_n hx hb dX7_plan_112 rfl (lv_at hl 4 rfl) ?_
              refine pf_RX7_16 C hP hD hS dX7_plan_113 (fun H locs hP hD hS => ?_)
              refine lv_goto (tgt := 150) hx hb dX7_plan_116 (by decide) ?_
              refine lv_iload hx hb dX7_plan_150 (lv_at hl 0 rfl) ?_
              obtain ⟨rfl, rfl⟩ := so2 h
              exact retI C hP hD hS dX7_plan_152
          · replace h := ifp c97 h
            refine lv_aload_n hx hb dX7_plan_94 rfl (lv_at hl 1 rfl) ?_
            refine gf_RX7_23 C hP dX7_plan_95 ?_
            refine lv_goto (tgt := 105) hx hb dX7_plan_98 (by decide) ?_
            refine lv_istore (lv' := [(4, .int (σ.1 3)), (3, .int r93), (0, .ref (q 0)), (1, .int a1), (2, .int a2)]) hx hb dX7_plan_105 hl (by decide) rfl (fun ls hl => ?_)
            refine lv_iload_n hx hb dX7_plan_107 rfl (lv_at hl 3 rfl) ?_
            refine lv_if_ne (tgt := 119) hx hb dX7_plan_108 (by decide) (fun c101 => ?_) (fun c101 => ?_)
            · replace h := ifn c101 h
              refine lv_iload_n hx hb dX7_plan_119 rfl (lv_at hl 3 rfl) ?_
              refine lv_iconst (v := 1) hx hb dX7_plan_120 (by decide) ?_
              refine lv_icmp_ne (tgt := 132) hx hb dX7_plan_121 (by decide) (fun c102 => ?_) (fun c102 => ?_)
              · replace h := ifn c102 h
                refine lv_iload_n hx hb dX7_plan_132 rfl (lv_at hl 3 rfl) ?_
                refine lv_iconst (v := 2) hx hb dX7_plan_133 (by decide) ?_
                refine lv_icmp_ne (tgt := 145) hx hb dX7_plan_134 (by decide) (fun c103 => ?_) (fun c103 => ?_)
                · replace h := ifn c103 h
                  refine lv_aload_n hx hb dX7_plan_145 rfl (lv_at hl 2 rfl) ?_
                  refine lv_iload_n hx hb dX7_plan_146 rfl (lv_at hl 4 rfl) ?_
                  refine pf_RX7_26 C hP hD hS dX7_plan_147 (fun H locs hP hD hS => ?_)
                  refine lv_iload hx hb dX7_plan_150 (lv_at hl 0 rfl) ?_
                  obtain ⟨rfl, rfl⟩ := so2 h
                  exact retI C hP hD hS dX7_plan_152
                · replace h := ifp c103 h
                  refine lv_aload_n hx hb dX7_plan_137 rfl (lv_at hl 2 rfl) ?_
                  refine lv_iload_n hx hb dX7_plan_138 rfl (lv_at hl 4 rfl) ?_
                  refine pf_RX7_23 C hP hD hS dX7_plan_139 (fun H locs hP hD hS => ?_)
                  refine lv_goto (tgt := 150) hx hb dX7_plan_142 (by decide) ?_
                  refine lv_iload hx hb dX7_plan_150 (lv_at hl 0 rfl) ?_
                  obtain ⟨rfl, rfl⟩ := so2 h
                  exact retI C hP hD hS dX7_plan_152
              · replace h := ifp c102 h
                refine lv_aload_n hx hb dX7_plan_124 rfl (lv_at hl 2 rfl) ?_
                refine lv_iload_n hx hb dX7_plan_125 rfl (lv_at hl 4 rfl) ?_
                refine pf_RX7_20 C hP hD hS dX7_plan_126 (fun H locs hP hD hS => ?_)
                refine lv_goto (tgt := 150) hx hb dX7_plan_129 (by decide) ?_
                refine lv_iload hx hb dX7_plan_150 (lv_at hl 0 rfl) ?_
                obtain ⟨rfl, rfl⟩ := so2 h
                exact retI C hP hD hS dX7_plan_152
            · replace h := ifp c101 h
              refine lv_aload_n hx hb dX7_plan_111 rfl (lv_at hl 2 rfl) ?_
              refine lv_iload_n hx hb dX7_plan_112 rfl (lv_at hl 4 rfl) ?_
              refine pf_RX7_16 C hP hD hS dX7_plan_113 (fun H locs hP hD hS => ?_)
              refine lv_goto (tgt := 150) hx hb dX7_plan_116 (by decide) ?_
              refine lv_iload hx hb dX7_plan_150 (lv_at hl 0 rfl) ?_
              obtain ⟨rfl, rfl⟩ := so2 h
              exact retI C hP hD hS dX7_plan_152
        · replace h := ifp c96 h
          refine lv_aload_n hx hb dX7_plan_82 rfl (lv_at hl 1 rfl) ?_
          refine gf_RX7_20 C hP dX7_plan_83 ?_
          refine lv_goto (tgt := 105) hx hb dX7_plan_86 (by decide) ?_
          refine lv_istore (lv' := [(4, .int (σ.1 2)), (3, .int r93), (0, .ref (q 0)), (1, .int a1), (2, .int a2)]) hx hb dX7_plan_105 hl (by decide) rfl (fun ls hl => ?_)
          refine lv_iload_n hx hb dX7_plan_107 rfl (lv_at hl 3 rfl) ?_
          refine lv_if_ne (tgt := 119) hx hb dX7_plan_108 (by decide) (fun c104 => ?_) (fun c104 => ?_)
          · replace h := ifn c104 h
            refine lv_iload_n hx hb dX7_plan_119 rfl (lv_at hl 3 rfl) ?_
            refine lv_iconst (v := 1) hx hb dX7_plan_120 (by decide) ?_
            refine lv_icmp_ne (tgt := 132) hx hb dX7_plan_121 (by decide) (fun c105 => ?_) (fun c105 => ?_)
            · replace h := ifn c105 h
              refine lv_iload_n hx hb dX7_plan_132 rfl (lv_at hl 3 rfl) ?_
              refine lv_iconst (v := 2) hx hb dX7_plan_133 (by decide) ?_
              refine lv_icmp_ne (tgt := 145) hx hb dX7_plan_134 (by decide) (fun c106 => ?_) (fun c106 => ?_)
              · replace h := ifn c106 h
                refine lv_aload_n hx hb dX7_plan_145 rfl (lv_at hl 2 rfl) ?_
                refine lv_iload_n hx hb dX7_plan_146 rfl (lv_at hl 4 rfl) ?_
                refine pf_RX7_26 C hP hD hS dX7_plan_147 (fun H locs hP hD hS => ?_)
                refine lv_iload hx hb dX7_plan_150 (lv_at hl 0 rfl) ?_
                obtain ⟨rfl, rfl⟩ := so2 h
                exact retI C hP hD hS dX7_plan_152
              · replace h := ifp c106 h
                refine lv_aload_n hx hb dX7_plan_137 rfl (lv_at hl 2 rfl) ?_
                refine lv_iload_n hx hb dX7_plan_138 rfl (lv_at hl 4 rfl) ?_
                refine pf_RX7_23 C hP hD hS dX7_plan_139 (fun H locs hP hD hS => ?_)
                refine lv_goto (tgt := 150) hx hb dX7_plan_142 (by decide) ?_
                refine lv_iload hx hb dX7_plan_150 (lv_at hl 0 rfl) ?_
                obtain ⟨rfl, rfl⟩ := so2 h
                exact retI C hP hD hS dX7_plan_152
            · replace h := ifp c105 h
              refine lv_aload_n hx hb dX7_plan_124 rfl (lv_at hl 2 rfl) ?_
              refine lv_iload_n hx hb dX7_plan_125 rfl (lv_at hl 4 rfl) ?_
              refine pf_RX7_20 C hP hD hS dX7_plan_126 (fun H locs hP hD hS => ?_)
              refine lv_goto (tgt := 150) hx hb dX7_plan_129 (by decide) ?_
              refine lv_iload hx hb dX7_plan_150 (lv_at hl 0 rfl) ?_
              obtain ⟨rfl, rfl⟩ := so2 h
              exact retI C hP hD hS dX7_plan_152
          · replace h := ifp c104 h
            refine lv_aload_n hx hb dX7_plan_111 rfl (lv_at hl 2 rfl) ?_
            refine lv_iload_n hx hb dX7_plan_112 rfl (lv_at hl 4 rfl) ?_
            refine pf_RX7_16 C hP hD hS dX7_plan_113 (fun H locs hP hD hS => ?_)
            refine lv_goto (tgt := 150) hx hb dX7_plan_116 (by decide) ?_
            refine lv_iload hx hb dX7_plan_150 (lv_at hl 0 rfl) ?_
            obtain ⟨rfl, rfl⟩ := so2 h
            exact retI C hP hD hS dX7_plan_152
      · replace h := ifp c95 h
        refine lv_aload_n hx hb dX7_plan_70 rfl (lv_at hl 1 rfl) ?_
        refine gf_RX7_16 C hP dX7_plan_71 ?_
        refine lv_goto (tgt := 105) hx hb dX7_plan_74 (by decide) ?_
        refine lv_istore (lv' := [(4, .int (σ.1 1)), (3, .int r93), (0, .ref (q 0)), (1, .int a1), (2, .int a2)]) hx hb dX7_plan_105 hl (by decide) rfl (fun ls hl => ?_)
        refine lv_iload_n hx hb dX7_plan_107 rfl (lv_at hl 3 rfl) ?_
        refine lv_if_ne (tgt := 119) hx hb dX7_plan_108 (by decide) (fun c107 => ?_) (fun c107 => ?_)
        · replace h := ifn c107 h
          refine lv_iload_n hx hb dX7_plan_119 rfl (lv_at hl 3 rfl) ?_
          refine lv_iconst (v := 1) hx hb dX7_plan_120 (by decide) ?_
          refine lv_icmp_ne (tgt := 132) hx hb dX7_plan_121 (by decide) (fun c108 => ?_) (fun c108 => ?_)
          · replace h := ifn c108 h
            refine lv_iload_n hx hb dX7_plan_132 rfl (lv_at hl 3 rfl) ?_
            refine lv_iconst (v := 2) hx hb dX7_plan_133 (by decide) ?_
            refine lv_icmp_ne (tgt := 145) hx hb dX7_plan_134 (by decide) (fun c109 => ?_) (fun c109 => ?_)
            · replace h := ifn c109 h
              refine lv_aload_n hx hb dX7_plan_145 rfl (lv_at hl 2 rfl) ?_
              refine lv_iload_n hx hb dX7_plan_146 rfl (lv_at hl 4 rfl) ?_
              refine pf_RX7_26 C hP hD hS dX7_plan_147 (fun H locs hP hD hS => ?_)
              refine lv_iload hx hb dX7_plan_150 (lv_at hl 0 rfl) ?_
              obtain ⟨rfl, rfl⟩ := so2 h
              exact retI C hP hD hS dX7_plan_152
            · replace h := ifp c109 h
              refine lv_aload_n hx hb dX7_plan_137 rfl (lv_at hl 2 rfl) ?_
              refine lv_iload_n hx hb dX7_plan_138 rfl (lv_at hl 4 rfl) ?_
              refine pf_RX7_23 C hP hD hS dX7_plan_139 (fun H locs hP hD hS => ?_)
              refine lv_goto (tgt := 150) hx hb dX7_plan_142 (by decide) ?_
              refine lv_iload hx hb dX7_plan_150 (lv_at hl 0 rfl) ?_
              obtain ⟨rfl, rfl⟩ := so2 h
              exact retI C hP hD hS dX7_plan_152
          · replace h := ifp c108 h
            refine lv_aload_n hx hb dX7_plan_124 rfl (lv_at hl 2 rfl) ?_
            refine lv_iload_n hx hb dX7_plan_125 rfl (lv_at hl 4 rfl) ?_
            refine pf_RX7_20 C hP hD hS dX7_plan_126 (fun H locs hP hD hS => ?_)
            refine lv_goto (tgt := 150) hx hb dX7_plan_129 (by decide) ?_
            refine lv_iload hx hb dX7_plan_150 (lv_at hl 0 rfl) ?_
            obtain ⟨rfl, rfl⟩ := so2 h
            exact retI C hP hD hS dX7_plan_152
        · replace h := ifp c107 h
          refine lv_aload_n hx hb dX7_plan_111 rfl (lv_at hl 2 rfl) ?_
          refine lv_iload_n hx hb dX7_plan_112 rfl (lv_at hl 4 rfl) ?_
          refine pf_RX7_16 C hP hD hS dX7_plan_113 (fun H locs hP hD hS => ?_)
          refine lv_goto (tgt := 150) hx hb dX7_plan_116 (by decide) ?_
          refine lv_iload hx hb dX7_plan_150 (lv_at hl 0 rfl) ?_
          obtain ⟨rfl, rfl⟩ := so2 h
          exact retI C hP hD hS dX7_plan_152
    · replace h := ifp c94 h
      refine lv_iconst (v := (-1)) hx hb dX7_plan_64 (by decide) ?_
      obtain ⟨rfl, rfl⟩ := so2 h
      exact retI C hP hD hS dX7_plan_65

def fM_oscillatorOf (N : Nat) (σ : St) (a1 : Int32) (a2 : Int32) : Option Int32 :=
  (if (σ.1 2) = 1 then gi a1 20 (some ((σ.2 0 a1.toNatClampNeg) + a2)) else gi a1 20 (some ((σ.2 0 a1.toNatClampNeg) - a2)))
set_option maxHeartbeats 4000000 in
set_option maxRecDepth 100000 in
theorem ctM_oscillatorOf {G : GP} {l : Launch} {q : Nat → Nat} (N : Nat) (σ : St) (a1 : Int32) (a2 : Int32) (r : Int32) (h : fM_oscillatorOf N σ a1 a2 = some r) : CI G l yX7_oscillatorOf cX7_oscillatorOf 3 (some .int) 0 [.ref (q 0), .int a1, .int a2] (mW G q σ) (mW G q σ) r := by
  refine enterI (own := RX7) (by decide) rfl (Nat.le_of_ble_eq_true rfl) ?_
  intro p e s m args below meth c A C hP hD hS ls hl
  obtain ⟨hx, hb, hml, hown, hts, hK, hZ, hA, hlk, hr⟩ := id C
  have hl : lv_has ls 3 [(0, .ref (q 0)), (1, .int a1), (2, .int a2)] := hl
  rw [fM_oscillatorOf.eq_1] at h
  refine lv_aload_n hx hb dX7_oscillatorOf_0 rfl (lv_at hl 0 rfl) ?_
  refine gf_RX7_20 C hP dX7_oscillatorOf_1 ?_
  refine lv_iconst (v := 1) hx hb dX7_oscillatorOf_4 (by decide) ?_
  refine lv_icmp_ne (tgt := 19) hx hb dX7_oscillatorOf_5 (by decide) (fun c1 => ?_) (fun c1 => ?_)
  · replace h := ifn c1 h
    refine lv_aload_n hx hb dX7_oscillatorOf_19 rfl (lv_at hl 0 rfl) ?_
    refine gf_RX7_9 C hP dX7_oscillatorOf_20 ?_
    refine lv_iload_n hx hb dX7_oscillatorOf_23 rfl (lv_at hl 1 rfl) ?_
    obtain ⟨i2, h⟩ := gi_some h
    refine ldM_0 C hP i2 dX7_oscillatorOf_24 ?_
    refine lv_iload_n hx hb dX7_oscillatorOf_25 rfl (lv_at hl 2 rfl) ?_
    refine lv_isub hx hb dX7_oscillatorOf_26 ?_
    obtain rfl := so1 h
    exact retI C hP hD hS dX7_oscillatorOf_27
  · replace h := ifp c1 h
    refine lv_aload_n hx hb dX7_oscillatorOf_8 rfl (lv_at hl 0 rfl) ?_
    refine gf_RX7_9 C hP dX7_oscillatorOf_9 ?_
    refine lv_iload_n hx hb dX7_oscillatorOf_12 rfl (lv_at hl 1 rfl) ?_
    obtain ⟨i3, h⟩ := gi_some h
    refine ldM_0 C hP i3 dX7_oscillatorOf_13 ?_
    refine lv_iload_n hx hb dX7_oscillatorOf_14 rfl (lv_at hl 2 rfl) ?_
    refine lv_iadd hx hb dX7_oscillatorOf_15 ?_
    refine lv_goto (tgt := 27) hx hb dX7_oscillatorOf_16 (by decide) ?_
    obtain rfl := so1 h
    exact retI C hP hD hS dX7_oscillatorOf_27

def fM_oscillator (N : Nat) (σ : St) (a1 : Int32) : Option Int32 :=
  bd1 (fM_isStation N σ a1) (fun r2 => (if r2 = 0 then some (-2000000000) else bd1 (fM_oscillatorOf N σ a1 (σ.1 1)) (fun r5 => some r5)))
set_option maxHeartbeats 4000000 in
set_option maxRecDepth 100000 in
theorem ctM_oscillator {G : GP} {l : Launch} {q : Nat → Nat} (N : Nat) (σ : St) (a1 : Int32) (r : Int32) (h : fM_oscillator N σ a1 = some r) : CI G l yX7_oscillator cX7_oscillator 2 (some .int) 1 [.ref (q 0), .int a1] (mW G q σ) (mW G q σ) r := by
  refine enterI (own := RX7) (by decide) rfl (Nat.le_of_ble_eq_true rfl) ?_
  intro p e s m args below meth c A C hP hD hS ls hl
  obtain ⟨hx, hb, hml, hown, hts, hK, hZ, hA, hlk, hr⟩ := id C
  have hl : lv_has ls 2 [(0, .ref (q 0)), (1, .int a1)] := hl
  rw [fM_oscillator.eq_1] at h
  refine lv_aload_n hx hb dX7_oscillator_0 rfl (lv_at hl 0 rfl) ?_
  refine lv_iload_n hx hb dX7_oscillator_1 rfl (lv_at hl 1 rfl) ?_
  obtain ⟨r2, h1, h⟩ := bd1_some h
  refine goI C hD hS (runV (As := [.int a1]) (rest := []) (w := (mW G q σ)) C lc_RX7_83 (ctM_isStation N σ a1 r2 h1 _) hP hD hS (va_recv C.2.2.2.2.2.1 hP (ci := 7) (q0 := 0) rfl rfl) hl.1 rfl rfl (by decide) (by decide) (Nat.le_of_ble_eq_true rfl) dX7_oscillator_2) (fun H locs hP hD hS => ?_)
  refine lv_if_eq (tgt := 20) hx hb dX7_oscillator_5 (by decide) (fun c3 => ?_) (fun c3 => ?_)
  · replace h := ifp c3 h
    refine lv_ldc hx hb hown (hts _ (List.mem_cons_of_mem _ kc_RX7_90)) dX7_oscillator_20 ?_
    obtain rfl := so1 h
    exact retI C hP hD hS dX7_oscillator_22
  · replace h := ifn c3 h
    refine lv_aload_n hx hb dX7_oscillator_8 rfl (lv_at hl 0 rfl) ?_
    refine lv_iload_n hx hb dX7_oscillator_9 rfl (lv_at hl 1 rfl) ?_
    refine lv_aload_n hx hb dX7_oscillator_10 rfl (lv_at hl 0 rfl) ?_
    refine gf_RX7_16 C hP dX7_oscillator_11 ?_
    obtain ⟨r5, h4, h⟩ := bd1_some h
    refine goI C hD hS (runV (As := [.int a1, .int (σ.1 1)]) (rest := []) (w := (mW G q σ)) C lc_RX7_86 (ctM_oscillatorOf N σ a1 (σ.1 1) r5 h4 _) hP hD hS (va_recv C.2.2.2.2.2.1 hP (ci := 7) (q0 := 0) rfl rfl) hl.1 rfl rfl (by decide) (by decide) (Nat.le_of_ble_eq_true rfl) dX7_oscillator_14) (fun H locs hP hD hS => ?_)
    refine lv_goto (tgt := 22) hx hb dX7_oscillator_17 (by decide) ?_
    obtain rfl := so1 h
    exact retI C hP hD hS dX7_oscillator_22

def fM_falls (N : Nat) (σ : St) (a1 : Int32) (a2 : Int32) (a3 : Int32) (a4 : Int32) (a5 : Int32) (a6 : Int32) : Option Int32 :=
  bd1 (fM_oscillatorOf N σ a1 a2) (fun r2 => (if r2 ≤ 0 then some 0 else (if a3 = a1 then (if a4 = 1 then (if a5 = 1 then some 0 else gi a3 20 ((if a6 = 1 then bd1 (fM_size N ((a4 * (σ.2 0 a3.toNatClampNeg)) + (a5 * r2))) (fun r39 => bd1 (fM_size N (r39 - a2)) (fun r41 => (if (σ.1 4) < r41 then some 0 else some 1))) else bd1 (fM_size N ((a4 * (σ.2 0 a3.toNatClampNeg)) + ((-a5) * r2))) (fun r34 => bd1 (fM_size N (r34 - a2)) (fun r36 => (if (σ.1 4) < r36 then some 0 else some 1)))))) else gi a3 20 ((if a6 = 1 then bd1 (fM_size N ((a4 * (σ.2 0 a3.toNatClampNeg)) + (a5 * r2))) (fun r26 => bd1 (fM_size N (r26 - a2)) (fun r28 => (if (σ.1 4) < r28 then some 0 else some 1))) else bd1 (fM_size N ((a4 * (σ.2 0 a3.toNatClampNeg)) + ((-a5) * r2))) (fun r21 => bd1 (fM_size N (r21 - a2)) (fun r23 => (if (σ.1 4) < r23 then some 0 else some 1)))))) else gi a3 20 ((if a6 = 1 then bd1 (fM_size N ((a4 * (σ.2 0 a3.toNatClampNeg)) + (a5 * r2))) (fun r13 => bd1 (fM_size N (r13 - a2)) (fun r15 => (if (σ.1 4) < r15 then some 0 else some 1))) else bd1 (fM_size N ((a4 * (σ.2 0 a3.toNatClampNeg)) + ((-a5) * r2))) (fun r8 => bd1 (fM_size N (r8 - a2)) (fun r10 => (if (σ.1 4) < r10 then some 0 else some 1))))))))
set_option maxHeartbeats 4000000 in
set_option maxRecDepth 100000 in
theorem ctM_falls {G : GP} {l : Launch} {q : Nat → Nat} (N : Nat) (σ : St) (a1 : Int32) (a2 : Int32) (a3 : Int32) (a4 : Int32) (a5 : Int32) (a6 : Int32) (r : Int32) (h : fM_falls N σ a1 a2 a3 a4 a5 a6 = some r) : CI G l yX7_falls cX7_falls 9 (some .boolean) 1 [.ref (q 0), .int a1, .int a2, .int a3, .int a4, .int a5, .int a6] (mW G q σ) (mW G q σ) r := by
  refine enterI (own := RX7) (by decide) rfl (Nat.le_of_ble_eq_true rfl) ?_
  intro p e s m args below meth c A C hP hD hS ls hl
  obtain ⟨hx, hb, hml, hown, hts, hK, hZ, hA, hlk, hr⟩ := id C
  have hl : lv_has ls 9 [(0, .ref (q 0)), (1, .int a1), (2, .int a2), (3, .int a3), (4, .int a4), (5, .int a5), (6, .int a6)] := hl
  rw [fM_falls.eq_1] at h
  refine lv_aload_n hx hb dX7_falls_0 rfl (lv_at hl 0 rfl) ?_
  refine lv_iload_n hx hb dX7_falls_1 rfl (lv_at hl 1 rfl) ?_
  refine lv_iload_n hx hb dX7_falls_2 rfl (lv_at hl 2 rfl) ?_
  obtain ⟨r2, h1, h⟩ := bd1_some h
  refine goI C hD hS (runV (As := [.int a1, .int a2]) (rest := []) (w := (mW G q σ)) C lc_RX7_86 (ctM_oscillatorOf N σ a1 a2 r2 h1 _) hP hD hS (va_recv C.2.2.2.2.2.1 hP (ci := 7) (q0 := 0) rfl rfl) hl.1 rfl rfl (by decide) (by decide) (Nat.le_of_ble_eq_true rfl) dX7_falls_3) (fun H locs hP hD hS => ?_)
  refine lv_istore (lv' := [(7, .int r2), (0, .ref (q 0)), (1, .int a1), (2, .int a2), (3, .int a3), (4, .int a4), (5, .int a5), (6, .int a6)]) hx hb dX7_falls_6 hl (by decide) rfl (fun ls hl => ?_)
  refine lv_iload hx hb dX7_falls_8 (lv_at hl 0 rfl) ?_
  refine lv_if_le (tgt := 30) hx hb dX7_falls_10 (by decide) (fun c3 => ?_) (fun c3 => ?_)
  · replace h := ifp c3 h
    refine lv_iconst (v := 0) hx hb dX7_falls_30 (by decide) ?_
    obtain rfl := so1 h
    exact retZ C hP hD hS (by decide) dX7_falls_31
  · replace h := ifn c3 h
    refine lv_iload_n hx hb dX7_falls_13 rfl (lv_at hl 4 rfl) ?_
    refine lv_iload_n hx hb dX7_falls_14 rfl (lv_at hl 2 rfl) ?_
    refine lv_icmp_ne (tgt := 32) hx hb dX7_falls_15 (by decide) (fun c4 => ?_) (fun c4 => ?_)
    · replace h := ifn c4 h
      refine lv_iload hx hb dX7_falls_32 (lv_at hl 5 rfl) ?_
      refine lv_aload_n hx hb dX7_falls_34 rfl (lv_at hl 1 rfl) ?_
      refine gf_RX7_9 C hP dX7_falls_35 ?_
      refine lv_iload_n hx hb dX7_falls_38 rfl (lv_at hl 4 rfl) ?_
      obtain ⟨i5, h⟩ := gi_some h
      refine ldM_0 C hP i5 dX7_falls_39 ?_
      refine lv_imul hx hb dX7_falls_40 ?_
      refine lv_iload hx hb dX7_falls_41 (lv_at hl 7 rfl) ?_
      refine lv_iconst (v := 1) hx hb dX7_falls_43 (by decide) ?_
      refine lv_icmp_ne (tgt := 55) hx hb dX7_falls_44 (by decide) (fun c6 => ?_) (fun c6 => ?_)
      · replace h := ifn c6 h
        refine lv_iload hx hb dX7_falls_55 (lv_at hl 6 rfl) ?_
        refine lv_ineg hx hb dX7_falls_57 ?_
        refine lv_iload hx hb dX7_falls_58 (lv_at hl 0 rfl) ?_
        refine lv_imul hx hb dX7_falls_60 ?_
        refine lv_iadd hx hb dX7_falls_61 ?_
        refine lv_istore (lv' := [(8, .int ((a4 * (σ.2 0 a3.toNatClampNeg)) + ((-a5) * r2))), (7, .int r2), (0, .ref (q 0)), (1, .int a1), (2, .int a2), (3, .int a3), (4, .int a4), (5, .int a5), (6, .int a6)]) hx hb dX7_falls_62 hl (by decide) rfl (fun ls hl => ?_)
        refine lv_iload hx hb dX7_falls_64 (lv_at hl 0 rfl) ?_
        obtain ⟨r8, h7, h⟩ := bd1_some h
        refine goI C hD hS (runS (As := [.int ((a4 * (σ.2 0 a3.toNatClampNeg)) + ((-a5) * r2))]) (rest := []) (w := (mW G q σ)) C lc_RX7_91 (ctM_size (w := (mW G q σ)) N ((a4 * (σ.2 0 a3.toNatClampNeg)) + ((-a5) * r2)) r8 h7 _) hP hD hS hl.1 rfl rfl (by decide) (by decide) (Nat.le_of_ble_eq_true rfl) dX7_falls_66) (fun H locs hP hD hS => ?_)
        refine lv_iload_n hx hb dX7_falls_69 rfl (lv_at hl 4 rfl) ?_
        refine lv_isub hx hb dX7_falls_70 ?_
        obtain ⟨r10, h9, h⟩ := bd1_some h
        refine goI C hD hS (runS (As := [.int (r8 - a2)]) (rest := []) (w := (mW G q σ)) C lc_RX7_91 (ctM_size (w := (mW G q σ)) N (r8 - a2) r10 h9 _) hP hD hS hl.1 rfl rfl (by decide) (by decide) (Nat.le_of_ble_eq_true rfl) dX7_falls_71) (fun H locs hP hD hS => ?_)
        refine lv_aload_n hx hb dX7_falls_74 rfl (lv_at hl 2 rfl) ?_
        refine gf_RX7_26 C hP dX7_falls_75 ?_
        refine lv_icmp_gt (tgt := 85) hx hb dX7_falls_78 (by decide) (fun c11 => ?_) (fun c11 => ?_)
        · replace h := ifp c11 h
          refine lv_iconst (v := 0) hx hb dX7_falls_85 (by decide) ?_
          obtain rfl := so1 h
          exact retZ C hP hD hS (by decide) dX7_falls_86
        · replace h := ifn c11 h
          refine lv_iconst (v := 1) hx hb dX7_falls_81 (by decide) ?_
          refine lv_goto (tgt := 86) hx hb dX7_falls_82 (by decide) ?_
          obtain rfl := so1 h
          exact retZ C hP hD hS (by decide) dX7_falls_86
      · replace h := ifp c6 h
        refine lv_iload hx hb dX7_falls_47 (lv_at hl 6 rfl) ?_
        refine lv_iload hx hb dX7_falls_49 (lv_at hl 0 rfl) ?_
        refine lv_imul hx hb dX7_falls_51 ?_
        refine lv_goto (tgt := 61) hx hb dX7_falls_52 (by decide) ?_
        refine lv_iadd hx hb dX7_falls_61 ?_
        refine lv_istore (lv' := [(8, .int ((a4 * (σ.2 0 a3.toNatClampNeg)) + (a5 * r2))), (7, .int r2), (0, .ref (q 0)), (1, .int a1), (2, .int a2), (3, .int a3), (4, .int a4), (5, .int a5), (6, .int a6)]) hx hb dX7_falls_62 hl (by decide) rfl (fun ls hl => ?_)
        refine lv_iload hx hb dX7_falls_64 (lv_at hl 0 rfl) ?_
        obtain ⟨r13, h12, h⟩ := bd1_some h
        refine goI C hD hS (runS (As := [.int ((a4 * (σ.2 0 a3.toNatClampNeg)) + (a5 * r2))]) (rest := []) (w := (mW G q σ)) C lc_RX7_91 (ctM_size (w := (mW G q σ)) N ((a4 * (σ.2 0 a3.toNatClampNeg)) + (a5 * r2)) r13 h12 _) hP hD hS hl.1 rfl rfl (by decide) (by decide) (Nat.le_of_ble_eq_true rfl) dX7_falls_66) (fun H locs hP hD hS => ?_)
        refine lv_iload_n hx hb dX7_falls_69 rfl (lv_at hl 4 rfl) ?_
        refine lv_isub hx hb dX7_falls_70 ?_
        obtain ⟨r15, h14, h⟩ := bd1_some h
        refine goI C hD hS (runS (As := [.int (r13 - a2)]) (rest := []) (w := (mW G q σ)) C lc_RX7_91 (ctM_size (w := (mW G q σ)) N (r13 - a2) r15 h14 _) hP hD hS hl.1 rfl rfl (by decide) (by decide) (Nat.le_of_ble_eq_true rfl) dX7_falls_71) (fun H locs hP hD hS => ?_)
        refine lv_aload_n hx hb dX7_falls_74 rfl (lv_at hl 2 rfl) ?_
        refine gf_RX7_26 C hP dX7_falls_75 ?_
        refine lv_icmp_gt (tgt := 85) hx hb dX7_falls_78 (by decide) (fun c16 => ?_) (fun c16 => ?_)
        · replace h := ifp c16 h
          refine lv_iconst (v := 0) hx hb dX7_falls_85 (by decide) ?_
          obtain rfl := so1 h
          exact retZ C hP hD hS (by decide) dX7_falls_86
        · replace h := ifn c16 h
          refine lv_iconst (v := 1) hx hb dX7_falls_81 (by decide) ?_
          refine lv_goto (tgt := 86) hx hb dX7_falls_82 (by decide) ?_
          obtain rfl := so1 h
          exact retZ C hP hD hS (by decide) dX7_falls_86
    · replace h := ifp c4 h
      refine lv_iload hx hb dX7_falls_18 (lv_at hl 5 rfl) ?_
      refine lv_iconst (v := 1) hx hb dX7_falls_20 (by decide) ?_
      refine lv_icmp_ne (tgt := 32) hx hb dX7_falls_21 (by decide) (fun c17 => ?_) (fun c17 => ?_)
      · replace h := ifn c17 h
        refine lv_iload hx hb dX7_falls_32 (lv_at hl 5 rfl) ?_
        refine lv_aload_n hx hb dX7_falls_34 rfl (lv_at hl 1 rfl) ?_
        refine gf_RX7_9 C hP dX7_falls_35 ?_
        refine lv_iload_n hx hb dX7_falls_38 rfl (lv_at hl 4 rfl) ?_
        obtain ⟨i18, h⟩ := gi_some h
        refine ldM_0 C hP i18 dX7_falls_39 ?_
        refine lv_imul hx hb dX7_falls_40 ?_
        refine lv_iload hx hb dX7_falls_41 (lv_at hl 7 rfl) ?_
        refine lv_iconst (v := 1) hx hb dX7_falls_43 (by decide) ?_
        refine lv_icmp_ne (tgt := 55) hx hb dX7_falls_44 (by decide) (fun c19 => ?_) (fun c19 => ?_)
        · replace h := ifn c19 h
          refine lv_iload hx hb dX7_falls_55 (lv_at hl 6 rfl) ?_
          refine lv_ineg hx hb dX7_falls_57 ?_
          refine lv_iload hx hb dX7_falls_58 (lv_at hl 0 rfl) ?_
          refine lv_imul hx hb dX7_falls_60 ?_
          refine lv_iadd hx hb dX7_falls_61 ?_
          refine lv_istore (lv' := [(8, .int ((a4 * (σ.2 0 a3.toNatClampNeg)) + ((-a5) * r2))), (7, .int r2), (0, .ref (q 0)), (1, .int a1), (2, .int a2), (3, .int a3), (4, .int a4), (5, .int a5), (6, .int a6)]) hx hb dX7_falls_62 hl (by decide) rfl (fun ls hl => ?_)
          refine lv_iload hx hb dX7_falls_64 (lv_at hl 0 rfl) ?_
          obtain ⟨r21, h20, h⟩ := bd1_some h
          refine goI C hD hS (runS (As := [.int ((a4 * (σ.2 0 a3.toNatClampNeg)) + ((-a5) * r2))]) (rest := []) (w := (mW G q σ)) C lc_RX7_91 (ctM_size (w := (mW G q σ)) N ((a4 * (σ.2 0 a3.toNatClampNeg)) + ((-a5) * r2)) r21 h20 _) hP hD hS hl.1 rfl rfl (by decide) (by decide) (Nat.le_of_ble_eq_true rfl) dX7_falls_66) (fun H locs hP hD hS => ?_)
          refine lv_iload_n hx hb dX7_falls_69 rfl (lv_at hl 4 rfl) ?_
          refine lv_isub hx hb dX7_falls_70 ?_
          obtain ⟨r23, h22, h⟩ := bd1_some h
          refine goI C hD hS (runS (As := [.int (r21 - a2)]) (rest := []) (w := (mW G q σ)) C lc_RX7_91 (ctM_size (w := (mW G q σ)) N (r21 - a2) r23 h22 _) hP hD hS hl.1 rfl rfl (by decide) (by decide) (Nat.le_of_ble_eq_true rfl) dX7_falls_71) (fun H locs hP hD hS => ?_)
          refine lv_aload_n hx hb dX7_falls_74 rfl (lv_at hl 2 rfl) ?_
          refine gf_RX7_26 C hP dX7_falls_75 ?_
          refine lv_icmp_gt (tgt := 85) hx hb dX7_falls_78 (by decide) (fun c24 => ?_) (fun c24 => ?_)
          · replace h := ifp c24 h
            refine lv_iconst (v := 0) hx hb dX7_falls_85 (by decide) ?_
            obtain rfl := so1 h
            exact retZ C hP hD hS (by decide) dX7_falls_86
          · replace h := ifn c24 h
            refine lv_iconst (v := 1) hx hb dX7_falls_81 (by decide) ?_
            refine lv_goto (tgt := 86) hx hb dX7_falls_82 (by decide) ?_
            obtain rfl := so1 h
            exact retZ C hP hD hS (by decide) dX7_falls_86
        · replace h := ifp c19 h
          refine lv_iload hx hb dX7_falls_47 (lv_at hl 6 rfl) ?_
          refine lv_iload hx hb dX7_falls_49 (lv_at hl 0 rfl) ?_
          refine lv_imul hx hb dX7_falls_51 ?_
          refine lv_goto (tgt := 61) hx hb dX7_falls_52 (by decide) ?_
          refine lv_iadd hx hb dX7_falls_61 ?_
          refine lv_istore (lv' := [(8, .int ((a4 * (σ.2 0 a3.toNatClampNeg)) + (a5 * r2))), (7, .int r2), (0, .ref (q 0)), (1, .int a1), (2, .int a2), (3, .int a3), (4, .int a4), (5, .int a5), (6, .int a6)]) hx hb dX7_falls_62 hl (by decide) rfl (fun ls hl => ?_)
          refine lv_iload hx hb dX7_falls_64 (lv_at hl 0 rfl) ?_
          obtain ⟨r26, h25, h⟩ := bd1_some h
          refine goI C hD hS (runS (As := [.int ((a4 * (σ.2 0 a3.toNatClampNeg)) + (a5 * r2))]) (rest := []) (w := (mW G q σ)) C lc_RX7_91 (ctM_size (w := (mW G q σ)) N ((a4 * (σ.2 0 a3.toNatClampNeg)) + (a5 * r2)) r26 h25 _) hP hD hS hl.1 rfl rfl (by decide) (by decide) (Nat.le_of_ble_eq_true rfl) dX7_falls_66) (fun H locs hP hD hS => ?_)
          refine lv_iload_n hx hb dX7_falls_69 rfl (lv_at hl 4 rfl) ?_
          refine lv_isub hx hb dX7_falls_70 ?_
          obtain ⟨r28, h27, h⟩ := bd1_some h
          refine goI C hD hS (runS (As := [.int (r26 - a2)]) (rest := []) (w := (mW G q σ)) C lc_RX7_91 (ctM_size (w := (mW G q σ)) N (r26 - a2) r28 h27 _) hP hD hS hl.1 rfl rfl (by decide) (by decide) (Nat.le_of_ble_eq_true rfl) dX7_falls_71) (fun H locs hP hD hS => ?_)
          refine lv_aload_n hx hb dX7_falls_74 rfl (lv_at hl 2 rfl) ?_
          refine gf_RX7_26 C hP dX7_falls_75 ?_
          refine lv_icmp_gt (tgt := 85) hx hb dX7_falls_78 (by decide) (fun c29 => ?_) (fun c29 => ?_)
          · replace h := ifp c29 h
            refine lv_iconst (v := 0) hx hb dX7_falls_85 (by decide) ?_
            obtain rfl := so1 h
            exact retZ C hP hD hS (by decide) dX7_falls_86
          · replace h := ifn c29 h
            refine lv_iconst (v := 1) hx hb dX7_falls_81 (by decide) ?_
            refine lv_goto (tgt := 86) hx hb dX7_falls_82 (by decide) ?_
            obtain rfl := so1 h
            exact retZ C hP hD hS (by decide) dX7_falls_86
      · replace h := ifp c17 h
        refine lv_iload hx hb dX7_falls_24 (lv_at hl 6 rfl) ?_
        refine lv_iconst (v := 1) hx hb dX7_falls_26 (by decide) ?_
        refine lv_icmp_ne (tgt := 32) hx hb dX7_falls_27 (by decide) (fun c30 => ?_) (fun c30 => ?_)
        · replace h := ifn c30 h
          refine lv_iload hx hb dX7_falls_32 (lv_at hl 5 rfl) ?_
          refine lv_aload_n hx hb dX7_falls_34 rfl (lv_at hl 1 rfl) ?_
          refine gf_RX7_9 C hP dX7_falls_35 ?_
          refine lv_iload_n hx hb dX7_falls_38 rfl (lv_at hl 4 rfl) ?_
          obtain ⟨i31, h⟩ := gi_some h
          refine ldM_0 C hP i31 dX7_falls_39 ?_
          refine lv_imul hx hb dX7_falls_40 ?_
          refine lv_iload hx hb dX7_falls_41 (lv_at hl 7 rfl) ?_
          refine lv_iconst (v := 1) hx hb dX7_falls_43 (by decide) ?_
          refine lv_icmp_ne (tgt := 55) hx hb dX7_falls_44 (by decide) (fun c32 => ?_) (fun c32 => ?_)
          · replace h := ifn c32 h
            refine lv_iload hx hb dX7_falls_55 (lv_at hl 6 rfl) ?_
            refine lv_ineg hx hb dX7_falls_57 ?_
            refine lv_iload hx hb dX7_falls_58 (lv_at hl 0 rfl) ?_
            refine lv_imul hx hb dX7_falls_60 ?_
            refine lv_iadd hx hb dX7_falls_61 ?_
            refine lv_istore (lv' := [(8, .int ((a4 * (σ.2 0 a3.toNatClampNeg)) + ((-a5) * r2))), (7, .int r2), (0, .ref (q 0)), (1, .int a1), (2, .int a2), (3, .int a3), (4, .int a4), (5, .int a5), (6, .int a6)]) hx hb dX7_falls_62 hl (by decide) rfl (fun ls hl => ?_)
            refine lv_iload hx hb dX7_falls_64 (lv_at hl 0 rfl) ?_
            obtain ⟨r34, h33, h⟩ := bd1_some h
            refine goI C hD hS (runS (As := [.int ((a4 * (σ.2 0 a3.toNatClampNeg)) + ((-a5) * r2))]) (rest := []) (w := (mW G q σ)) C lc_RX7_91 (ctM_size (w := (mW G q σ)) N ((a4 * (σ.2 0 a3.toNatClampNeg)) + ((-a5) * r2)) r34 h33 _) hP hD hS hl.1 rfl rfl (by decide) (by decide) (Nat.le_of_ble_eq_true rfl) dX7_falls_66) (fun H locs hP hD hS => ?_)
            refine lv_iload_n hx hb dX7_falls_69 rfl (lv_at hl 4 rfl) ?_
            refine lv_isub hx hb dX7_falls_70 ?_
            obtain ⟨r36, h35, h⟩ := bd1_some h
            refine goI C hD hS (runS (As := [.int (r34 - a2)]) (rest := []) (w := (mW G q σ)) C lc_RX7_91 (ctM_size (w := (mW G q σ)) N (r34 - a2) r36 h35 _) hP hD hS hl.1 rfl rfl (by decide) (by decide) (Nat.le_of_ble_eq_true rfl) dX7_falls_71) (fun H locs hP hD hS => ?_)
            refine lv_aload_n hx hb dX7_falls_74 rfl (lv_at hl 2 rfl) ?_
            refine gf_RX7_26 C hP dX7_falls_75 ?_
            refine lv_icmp_gt (tgt := 85) hx hb dX7_falls_78 (by decide) (fun c37 => ?_) (fun c37 => ?_)
            · replace h := ifp c37 h
              refine lv_iconst (v := 0) hx hb dX7_falls_85 (by decide) ?_
              obtain rfl := so1 h
              exact retZ C hP hD hS (by decide) dX7_falls_86
            · replace h := ifn c37 h
              refine lv_iconst (v := 1) hx hb dX7_falls_81 (by decide) ?_
              refine lv_goto (tgt := 86) hx hb dX7_falls_82 (by decide) ?_
              obtain rfl := so1 h
              exact retZ C hP hD hS (by decide) dX7_falls_86
          · replace h := ifp c32 h
            refine lv_iload hx hb dX7_falls_47 (lv_at hl 6 rfl) ?_
            refine lv_iload hx hb dX7_falls_49 (lv_at hl 0 rfl) ?_
            refine lv_imul hx hb dX7_falls_51 ?_
            refine lv_goto (tgt := 61) hx hb dX7_falls_52 (by decide) ?_
            refine lv_iadd hx hb dX7_falls_61 ?_
            refine lv_istore (lv' := [(8, .int ((a4 * (σ.2 0 a3.toNatClampNeg)) + (a5 * r2))), (7, .int r2), (0, .ref (q 0)), (1, .int a1), (2, .int a2), (3, .int a3), (4, .int a4), (5, .int a5), (6, .int a6)]) hx hb dX7_falls_62 hl (by decide) rfl (fun ls hl => ?_)
            refine lv_iload hx hb dX7_falls_64 (lv_at hl 0 rfl) ?_
            obtain ⟨r39, h38, h⟩ := bd1_some h
            refine goI C hD hS (runS (As := [.int ((a4 * (σ.2 0 a3.toNatClampNeg)) + (a5 * r2))]) (rest := []) (w := (mW G q σ)) C lc_RX7_91 (ctM_size (w := (mW G q σ)) N ((a4 * (σ.2 0 a3.toNatClampNeg)) + (a5 * r2)) r39 h38 _) hP hD hS hl.1 rfl rfl (by decide) (by decide) (Nat.le_of_ble_eq_true rfl) dX7_falls_66) (fun H locs hP hD hS => ?_)
            refine lv_iload_n hx hb dX7_falls_69 rfl (lv_at hl 4 rfl) ?_
            refine lv_isub hx hb dX7_falls_70 ?_
            obtain ⟨r41, h40, h⟩ := bd1_some h
            refine goI C hD hS (runS (As := [.int (r39 - a2)]) (rest := []) (w := (mW G q σ)) C lc_RX7_91 (ctM_size (w := (mW G q σ)) N (r39 - a2) r41 h40 _) hP hD hS hl.1 rfl rfl (by decide) (by decide) (Nat.le_of_ble_eq_true rfl) dX7_falls_71) (fun H locs hP hD hS => ?_)
            refine lv_aload_n hx hb dX7_falls_74 rfl (lv_at hl 2 rfl) ?_
            refine gf_RX7_26 C hP dX7_falls_75 ?_
            refine lv_icmp_gt (tgt := 85) hx hb dX7_falls_78 (by decide) (fun c42 => ?_) (fun c42 => ?_)
            · replace h := ifp c42 h
              refine lv_iconst (v := 0) hx hb dX7_falls_85 (by decide) ?_
              obtain rfl := so1 h
              exact retZ C hP hD hS (by decide) dX7_falls_86
            · replace h := ifn c42 h
              refine lv_iconst (v := 1) hx hb dX7_falls_81 (by decide) ?_
              refine lv_goto (tgt := 86) hx hb dX7_falls_82 (by decide) ?_
              obtain rfl := so1 h
              exact retZ C hP hD hS (by decide) dX7_falls_86
        · replace h := ifp c30 h
          refine lv_iconst (v := 0) hx hb dX7_falls_30 (by decide) ?_
          obtain rfl := so1 h
          exact retZ C hP hD hS (by decide) dX7_falls_31

def fM_goSpurs_L42 (N : Nat) (v1 : Int32) (v2 : Int32) (v3 : Int32) (v5 : Int32) (v6 : Int32) (v7 : Int32) : Nat → Int32 → Int32 → St → Option (Int32 × St)
  | 0, _, _, _ => none
  | n + 1, v4, v8, σ => (if v8 < 0 then some (v4, σ) else bd1 (fM_falls N σ v1 v2 v5 v6 v7 v8) (fun r6 => (if r6 = 0 then fM_goSpurs_L42 N v1 v2 v3 v5 v6 v7 n v4 (v8 + (-1)) σ else (if v4 = v3 then fM_goSpurs_L42 N v1 v2 v3 v5 v6 v7 n (v4 + 1) (v8 + (-1)) (s1 (s1 (s1 (s1 σ 13 v5) 14 v6) 15 v7) 16 v8) else fM_goSpurs_L42 N v1 v2 v3 v5 v6 v7 n (v4 + 1) (v8 + (-1)) σ))))
set_option maxHeartbeats 4000000 in
set_option maxRecDepth 100000 in
theorem wM_goSpurs_L42 {q : Nat → Nat} (C : Cx G p s m args meth c cX7_goSpurs 9 (some .int) (Cond.code yX7_goSpurs cX7_goSpurs 9 (some .int)) RX7 A) (N : Nat) (v1 : Int32) (v2 : Int32) (v3 : Int32) (v5 : Int32) (v6 : Int32) (v7 : Int32) (v4' : Int32) (σ' : St) (K : ∀ H locs ls, va_P G.1 vwCl (mW G q (σ')) H → va_D A (mW G q (σ')) → va_S A s.heap H locs → lv_has ls 9 [(0, .ref (q 0)), (1, .int v1), (2, .int v2), (3, .int v3), (4, .int (v4')), (5, .int v5), (6, .int v6), (7, .int v7)] → W p l e (rmD 2) s m args below meth c H locs 0 0 Q (F0 m 103 ls [])) : ∀ (n : Nat) (v4 : Int32) (v8 : Int32) (σ : St) (H : Heap) (locs : List Loc) (ls : Array Slot), fM_goSpurs_L42 N v1 v2 v3 v5 v6 v7 n v4 v8 σ = some (v4', σ') → va_P G.1 vwCl (mW G q σ) H → va_D A (mW G q σ) → va_S A s.heap H locs → lv_has ls 9 [(0, .ref (q 0)), (1, .int v1), (2, .int v2), (3, .int v3), (4, .int v4), (5, .int v5), (6, .int v6), (7, .int v7), (8, .int v8)] → W p l e (rmD 2) s m args below meth c H locs 0 0 Q (F0 m 42 ls []) := by
  obtain ⟨hx, hb, hml, hown, hts, hK, hZ, hA, hlk, hr⟩ := id C
  intro n
  induction n with
  | zero =>
    intro v4 v8 σ H locs ls h
    cases h
  | succ n ih =>
    intro v4 v8 σ H locs ls h hP hD hS hl
    rw [fM_goSpurs_L42.eq_2] at h
    refine lv_iload hx hb dX7_goSpurs_42 (lv_at hl 8 rfl) ?_
    refine lv_if_lt (tgt := 103) hx hb dX7_goSpurs_44 (by decide) (fun c4 => ?_) (fun c4 => ?_)
    · replace h := ifp c4 h
      obtain ⟨rfl, rfl⟩ := so2 h
      exact K _ _ _ hP hD hS (lv_sub hl [0, 1, 2, 3, 4, 5, 6, 7] rfl)
    · replace h := ifn c4 h
      refine lv_aload_n hx hb dX7_goSpurs_47 rfl (lv_at hl 0 rfl) ?_
      refine lv_iload_n hx hb dX7_goSpurs_48 rfl (lv_at hl 1 rfl) ?_
      refine lv_iload_n hx hb dX7_goSpurs_49 rfl (lv_at hl 2 rfl) ?_
      refine lv_iload hx hb dX7_goSpurs_50 (lv_at hl 5 rfl) ?_
      refine lv_iload hx hb dX7_goSpurs_52 (lv_at hl 6 rfl) ?_
      refine lv_iload hx hb dX7_goSpurs_54 (lv_at hl 7 rfl) ?_
      refine lv_iload hx hb dX7_goSpurs_56 (lv_at hl 8 rfl) ?_
      obtain ⟨r6, h5, h⟩ := bd1_some h
      refine goI C hD hS (runV (As := [.int v1, .int v2, .int v5, .int v6, .int v7, .int v8]) (rest := []) (w := (mW G q σ)) C lc_RX7_95 (ctM_falls N σ v1 v2 v5 v6 v7 v8 r6 h5 _) hP hD hS (va_recv C.2.2.2.2.2.1 hP (ci := 7) (q0 := 0) rfl rfl) hl.1 rfl rfl (by decide) (by decide) (Nat.le_of_ble_eq_true rfl) dX7_goSpurs_58) (fun H locs hP hD hS => ?_)
      refine lv_if_eq (tgt := 97) hx hb dX7_goSpurs_61 (by decide) (fun c7 => ?_) (fun c7 => ?_)
      · replace h := ifp c7 h
        refine lv_iinc (v := (v8 + (-1))) (lv' := [(8, .int (v8 + (-1))), (0, .ref (q 0)), (1, .int v1), (2, .int v2), (3, .int v3), (4, .int v4), (5, .int v5), (6, .int v6), (7, .int v7)]) hx hb dX7_goSpurs_97 hl (k := 8) rfl (by first | rfl | decide) (by decide) rfl (fun ls hl => ?_)
        refine lv_goto (tgt := 42) hx hb dX7_goSpurs_100 (by decide) ?_
        exact ih v4 (v8 + (-1)) σ _ _ _ h hP hD hS (lv_sub hl [1, 2, 3, 4, 5, 6, 7, 8, 0] rfl)
      · replace h := ifn c7 h
        refine lv_iload hx hb dX7_goSpurs_64 (lv_at hl 4 rfl) ?_
        refine lv_iload_n hx hb dX7_goSpurs_66 rfl (lv_at hl 3 rfl) ?_
        refine lv_icmp_ne (tgt := 94) hx hb dX7_goSpurs_67 (by decide) (fun c8 => ?_) (fun c8 => ?_)
        · replace h := ifn c8 h
          refine lv_iinc (v := (v4 + 1)) (lv' := [(4, .int (v4 + 1)), (0, .ref (q 0)), (1, .int v1), (2, .int v2), (3, .int v3), (5, .int v5), (6, .int v6), (7, .int v7), (8, .int v8)]) hx hb dX7_goSpurs_94 hl (k := 4) rfl (by first | rfl | decide) (by decide) rfl (fun ls hl => ?_)
          refine lv_iinc (v := (v8 + (-1))) (lv' := [(8, .int (v8 + (-1))), (4, .int (v4 + 1)), (0, .ref (q 0)), (1, .int v1), (2, .int v2), (3, .int v3), (5, .int v5), (6, .int v6), (7, .int v7)]) hx hb dX7_goSpurs_97 hl (k := 8) rfl (by first | rfl | decide) (by decide) rfl (fun ls hl => ?_)
          refine lv_goto (tgt := 42) hx hb dX7_goSpurs_100 (by decide) ?_
          exact ih (v4 + 1) (v8 + (-1)) σ _ _ _ h hP hD hS (lv_sub hl [2, 3, 4, 5, 1, 6, 7, 8, 0] rfl)
        · replace h := ifp c8 h
          refine lv_aload_n hx hb dX7_goSpurs_70 rfl (lv_at hl 0 rfl) ?_
          refine lv_iload hx hb dX7_goSpurs_71 (lv_at hl 5 rfl) ?_
          refine pf_RX7_99 C hP hD hS dX7_goSpurs_73 (fun H locs hP hD hS => ?_)
          refine lv_aload_n hx hb dX7_goSpurs_76 rfl (lv_at hl 0 rfl) ?_
          refine lv_iload hx hb dX7_goSpurs_77 (lv_at hl 6 rfl) ?_
          refine pf_RX7_102 C hP hD hS dX7_goSpurs_79 (fun H locs hP hD hS => ?_)
          refine lv_aload_n hx hb dX7_goSpurs_82 rfl (lv_at hl 0 rfl) ?_
          refine lv_iload hx hb dX7_goSpurs_83 (lv_at hl 7 rfl) ?_
          refine pf_RX7_105 C hP hD hS dX7_goSpurs_85 (fun H locs hP hD hS => ?_)
          refine lv_aload_n hx hb dX7_goSpurs_88 rfl (lv_at hl 0 rfl) ?_
          refine lv_iload hx hb dX7_goSpurs_89 (lv_at hl 8 rfl) ?_
          refine pf_RX7_108 C hP hD hS dX7_goSpurs_91 (fun H locs hP hD hS => ?_)
          refine lv_iinc (v := (v4 + 1)) (lv' := [(4, .int (v4 + 1)), (0, .ref (q 0)), (1, .int v1), (2, .int v2), (3, .int v3), (5, .int v5), (6, .int v6), (7, .int v7), (8, .int v8)]) hx hb dX7_goSpurs_94 hl (k := 4) rfl (by first | rfl | decide) (by decide) rfl (fun ls hl => ?_)
          refine lv_iinc (v := (v8 + (-1))) (lv' := [(8, .int (v8 + (-1))), (4, .int (v4 + 1)), (0, .ref (q 0)), (1, .int v1), (2, .int v2), (3, .int v3), (5, .int v5), (6, .int v6), (7, .int v7)]) hx hb dX7_goSpurs_97 hl (k := 8) rfl (by first | rfl | decide) (by decide) rfl (fun ls hl => ?_)
          refine lv_goto (tgt := 42) hx hb dX7_goSpurs_100 (by decide) ?_
          exact ih (v4 + 1) (v8 + (-1)) (s1 (s1 (s1 (s1 σ 13 v5) 14 v6) 15 v7) 16 v8) _ _ _ h hP hD hS (lv_sub hl [2, 3, 4, 5, 1, 6, 7, 8, 0] rfl)

def fM_goSpurs_L30 (N : Nat) (v1 : Int32) (v2 : Int32) (v3 : Int32) (v5 : Int32) (v6 : Int32) : Nat → Int32 → Int32 → St → Option (Int32 × St)
  | 0, _, _, _ => none
  | n + 1, v4, v7, σ => (if (σ.1 3) < v7 then some (v4, σ) else bd2 (fM_goSpurs_L42 N v1 v2 v3 v5 v6 v7 N v4 1 σ) (fun y9 σ10 => fM_goSpurs_L30 N v1 v2 v3 v5 v6 n y9 (v7 + 1) σ10))
set_option maxHeartbeats 4000000 in
set_option maxRecDepth 100000 in
theorem wM_goSpurs_L30 {q : Nat → Nat} (C : Cx G p s m args meth c cX7_goSpurs 9 (some .int) (Cond.code yX7_goSpurs cX7_goSpurs 9 (some .int)) RX7 A) (N : Nat) (v1 : Int32) (v2 : Int32) (v3 : Int32) (v5 : Int32) (v6 : Int32) (v4' : Int32) (σ' : St) (K : ∀ H locs ls, va_P G.1 vwCl (mW G q (σ')) H → va_D A (mW G q (σ')) → va_S A s.heap H locs → lv_has ls 9 [(0, .ref (q 0)), (1, .int v1), (2, .int v2), (3, .int v3), (4, .int (v4')), (5, .int v5), (6, .int v6)] → W p l e (rmD 2) s m args below meth c H locs 0 0 Q (F0 m 109 ls [])) : ∀ (n : Nat) (v4 : Int32) (v7 : Int32) (σ : St) (H : Heap) (locs : List Loc) (ls : Array Slot), fM_goSpurs_L30 N v1 v2 v3 v5 v6 n v4 v7 σ = some (v4', σ') → va_P G.1 vwCl (mW G q σ) H → va_D A (mW G q σ) → va_S A s.heap H locs → lv_has ls 9 [(0, .ref (q 0)), (1, .int v1), (2, .int v2), (3, .int v3), (4, .int v4), (5, .int v5), (6, .int v6), (7, .int v7)] → W p l e (rmD 2) s m args below meth c H locs 0 0 Q (F0 m 30 ls []) := by
  obtain ⟨hx, hb, hml, hown, hts, hK, hZ, hA, hlk, hr⟩ := id C
  intro n
  induction n with
  | zero =>
    intro v4 v7 σ H locs ls h
    cases h
  | succ n ih =>
    intro v4 v7 σ H locs ls h hP hD hS hl
    rw [fM_goSpurs_L30.eq_2] at h
    refine lv_iload hx hb dX7_goSpurs_30 (lv_at hl 7 rfl) ?_
    refine lv_aload_n hx hb dX7_goSpurs_32 rfl (lv_at hl 0 rfl) ?_
    refine gf_RX7_23 C hP dX7_goSpurs_33 ?_
    refine lv_icmp_gt (tgt := 109) hx hb dX7_goSpurs_36 (by decide) (fun c3 => ?_) (fun c3 => ?_)
    · replace h := ifp c3 h
      obtain ⟨rfl, rfl⟩ := so2 h
      exact K _ _ _ hP hD hS (lv_sub hl [0, 1, 2, 3, 4, 5, 6] rfl)
    · replace h := ifn c3 h
      refine lv_iconst (v := 1) hx hb dX7_goSpurs_39 (by decide) ?_
      refine lv_istore (lv' := [(8, .int 1), (0, .ref (q 0)), (1, .int v1), (2, .int v2), (3, .int v3), (4, .int v4), (5, .int v5), (6, .int v6), (7, .int v7)]) hx hb dX7_goSpurs_40 hl (by decide) rfl (fun ls hl => ?_)
      obtain ⟨y9, σ10, h11, h⟩ := bd2_some h
      refine wM_goSpurs_L42 C N v1 v2 v3 v5 v6 v7 y9 σ10 (fun H locs ls hP hD hS hl => ?_) N v4 1 σ _ _ _ h11 hP hD hS (lv_sub hl [1, 2, 3, 4, 5, 6, 7, 8, 0] rfl)
      refine lv_iinc (v := (v7 + 1)) (lv' := [(7, .int (v7 + 1)), (0, .ref (q 0)), (1, .int v1), (2, .int v2), (3, .int v3), (4, .int y9), (5, .int v5), (6, .int v6)]) hx hb dX7_goSpurs_103 hl (k := 7) rfl (by first | rfl | decide) (by decide) rfl (fun ls hl => ?_)
      refine lv_goto (tgt := 30) hx hb dX7_goSpurs_106 (by decide) ?_
      exact ih y9 (v7 + 1) σ10 _ _ _ h hP hD hS (lv_sub hl [1, 2, 3, 4, 5, 6, 7, 0] rfl)

def fM_goSpurs_L18 (N : Nat) (v1 : Int32) (v2 : Int32) (v3 : Int32) (v5 : Int32) : Nat → Int32 → Int32 → St → Option (Int32 × St)
  | 0, _, _, _ => none
  | n + 1, v4, v6, σ => (if (σ.1 3) < v6 then some (v4, σ) else bd2 (fM_goSpurs_L30 N v1 v2 v3 v5 v6 N v4 1 σ) (fun y12 σ13 => fM_goSpurs_L18 N v1 v2 v3 v5 n y12 (v6 + 1) σ13))
set_option maxHeartbeats 4000000 in
set_option maxRecDepth 100000 in
theorem wM_goSpurs_L18 {q : Nat → Nat} (C : Cx G p s m args meth c cX7_goSpurs 9 (some .int) (Cond.code yX7_goSpurs cX7_goSpurs 9 (some .int)) RX7 A) (N : Nat) (v1 : Int32) (v2 : Int32) (v3 : Int32) (v5 : Int32) (v4' : Int32) (σ' : St) (K : ∀ H locs ls, va_P G.1 vwCl (mW G q (σ')) H → va_D A (mW G q (σ')) → va_S A s.heap H locs → lv_has ls 9 [(0, .ref (q 0)), (1, .int v1), (2, .int v2), (3, .int v3), (4, .int (v4')), (5, .int v5)] → W p l e (rmD 2) s m args below meth c H locs 0 0 Q (F0 m 115 ls [])) : ∀ (n : Nat) (v4 : Int32) (v6 : Int32) (σ : St) (H : Heap) (locs : List Loc) (ls : Array Slot), fM_goSpurs_L18 N v1 v2 v3 v5 n v4 v6 σ = some (v4', σ') → va_P G.1 vwCl (mW G q σ) H → va_D A (mW G q σ) → va_S A s.heap H locs → lv_has ls 9 [(0, .ref (q 0)), (1, .int v1), (2, .int v2), (3, .int v3), (4, .int v4), (5, .int v5), (6, .int v6)] → W p l e (rmD 2) s m args below meth c H locs 0 0 Q (F0 m 18 ls []) := by
  obtain ⟨hx, hb, hml, hown, hts, hK, hZ, hA, hlk, hr⟩ := id C
  intro n
  induction n with
  | zero =>
    intro v4 v6 σ H locs ls h
    cases h
  | succ n ih =>
    intro v4 v6 σ H locs ls h hP hD hS hl
    rw [fM_goSpurs_L18.eq_2] at h
    refine lv_iload hx hb dX7_goSpurs_18 (lv_at hl 6 rfl) ?_
    refine lv_aload_n hx hb dX7_goSpurs_20 rfl (lv_at hl 0 rfl) ?_
    refine gf_RX7_23 C hP dX7_goSpurs_21 ?_
    refine lv_icmp_gt (tgt := 115) hx hb dX7_goSpurs_24 (by decide) (fun c2 => ?_) (fun c2 => ?_)
    · replace h := ifp c2 h
      obtain ⟨rfl, rfl⟩ := so2 h
      exact K _ _ _ hP hD hS (lv_sub hl [0, 1, 2, 3, 4, 5] rfl)
    · replace h := ifn c2 h
      refine lv_iconst (v := 1) hx hb dX7_goSpurs_27 (by decide) ?_
      refine lv_istore (lv' := [(7, .int 1), (0, .ref (q 0)), (1, .int v1), (2, .int v2), (3, .int v3), (4, .int v4), (5, .int v5), (6, .int v6)]) hx hb dX7_goSpurs_28 hl (by decide) rfl (fun ls hl => ?_)
      obtain ⟨y12, σ13, h14, h⟩ := bd2_some h
      refine wM_goSpurs_L30 C N v1 v2 v3 v5 v6 y12 σ13 (fun H locs ls hP hD hS hl => ?_) N v4 1 σ _ _ _ h14 hP hD hS (lv_sub hl [1, 2, 3, 4, 5, 6, 7, 0] rfl)
      refine lv_iinc (v := (v6 + 1)) (lv' := [(6, .int (v6 + 1)), (0, .ref (q 0)), (1, .int v1), (2, .int v2), (3, .int v3), (4, .int y12), (5, .int v5)]) hx hb dX7_goSpurs_109 hl (k := 6) rfl (by first | rfl | decide) (by decide) rfl (fun ls hl => ?_)
      refine lv_goto (tgt := 18) hx hb dX7_goSpurs_112 (by decide) ?_
      exact ih y12 (v6 + 1) σ13 _ _ _ h hP hD hS (lv_sub hl [1, 2, 3, 4, 5, 6, 0] rfl)

def fM_goSpurs_L6 (N : Nat) (v1 : Int32) (v2 : Int32) (v3 : Int32) : Nat → Int32 → Int32 → St → Option (Int32 × St)
  | 0, _, _, _ => none
  | n + 1, v4, v5, σ => (if (σ.1 0) ≤ v5 then some (v4, σ) else bd2 (fM_goSpurs_L18 N v1 v2 v3 v5 N v4 1 σ) (fun y15 σ16 => fM_goSpurs_L6 N v1 v2 v3 n y15 (v5 + 1) σ16))
set_option maxHeartbeats 4000000 in
set_option maxRecDepth 100000 in
theorem wM_goSpurs_L6 {q : Nat → Nat} (C : Cx G p s m args meth c cX7_goSpurs 9 (some .int) (Cond.code yX7_goSpurs cX7_goSpurs 9 (some .int)) RX7 A) (N : Nat) (v1 : Int32) (v2 : Int32) (v3 : Int32) (r : Int32) (σ' : St) : ∀ (n : Nat) (v4 : Int32) (v5 : Int32) (σ : St) (H : Heap) (locs : List Loc) (ls : Array Slot), fM_goSpurs_L6 N v1 v2 v3 n v4 v5 σ = some (r, σ') → va_P G.1 vwCl (mW G q σ) H → va_D A (mW G q σ) → va_S A s.heap H locs → lv_has ls 9 [(0, .ref (q 0)), (1, .int v1), (2, .int v2), (3, .int v3), (4, .int v4), (5, .int v5)] → W p l e (rmD 2) s m args below meth c H locs 0 0 (QI G below args s A (mW G q (σ')) r) (F0 m 6 ls []) := by
  obtain ⟨hx, hb, hml, hown, hts, hK, hZ, hA, hlk, hr⟩ := id C
  intro n
  induction n with
  | zero =>
    intro v4 v5 σ H locs ls h
    cases h
  | succ n ih =>
    intro v4 v5 σ H locs ls h hP hD hS hl
    rw [fM_goSpurs_L6.eq_2] at h
    refine lv_iload hx hb dX7_goSpurs_6 (lv_at hl 5 rfl) ?_
    refine lv_aload_n hx hb dX7_goSpurs_8 rfl (lv_at hl 0 rfl) ?_
    refine gf_RX7_72 C hP dX7_goSpurs_9 ?_
    refine lv_icmp_ge (tgt := 121) hx hb dX7_goSpurs_12 (by decide) (fun c1 => ?_) (fun c1 => ?_)
    · replace h := ifp c1 h
      refine lv_iload hx hb dX7_goSpurs_121 (lv_at hl 4 rfl) ?_
      obtain ⟨rfl, rfl⟩ := so2 h
      exact retI C hP hD hS dX7_goSpurs_123
    · replace h := ifn c1 h
      refine lv_iconst (v := 1) hx hb dX7_goSpurs_15 (by decide) ?_
      refine lv_istore (lv' := [(6, .int 1), (0, .ref (q 0)), (1, .int v1), (2, .int v2), (3, .int v3), (4, .int v4), (5, .int v5)]) hx hb dX7_goSpurs_16 hl (by decide) rfl (fun ls hl => ?_)
      obtain ⟨y15, σ16, h17, h⟩ := bd2_some h
      refine wM_goSpurs_L18 C N v1 v2 v3 v5 y15 σ16 (fun H locs ls hP hD hS hl => ?_) N v4 1 σ _ _ _ h17 hP hD hS (lv_sub hl [1, 2, 3, 4, 5, 6, 0] rfl)
      refine lv_iinc (v := (v5 + 1)) (lv' := [(5, .int (v5 + 1)), (0, .ref (q 0)), (1, .int v1), (2, .int v2), (3, .int v3), (4, .int y15)]) hx hb dX7_goSpurs_115 hl (k := 5) rfl (by first | rfl | decide) (by decide) rfl (fun ls hl => ?_)
      refine lv_goto (tgt := 6) hx hb dX7_goSpurs_118 (by decide) ?_
      exact ih y15 (v5 + 1) σ16 _ _ _ h hP hD hS (lv_sub hl [1, 2, 3, 4, 5, 0] rfl)

def fM_goSpurs (N : Nat) (σ : St) (a1 : Int32) (a2 : Int32) (a3 : Int32) : Option (Int32 × St) :=
  fM_goSpurs_L6 N a1 a2 a3 N 0 0 σ
set_option maxHeartbeats 4000000 in
set_option maxRecDepth 100000 in
theorem ctM_goSpurs {G : GP} {l : Launch} {q : Nat → Nat} (N : Nat) (σ σ' : St) (a1 : Int32) (a2 : Int32) (a3 : Int32) (r : Int32) (h : fM_goSpurs N σ a1 a2 a3 = some (r, σ')) : CI G l yX7_goSpurs cX7_goSpurs 9 (some .int) 2 [.ref (q 0), .int a1, .int a2, .int a3] (mW G q σ) (mW G q (σ')) r := by
  refine enterI (own := RX7) (by decide) rfl (Nat.le_of_ble_eq_true rfl) ?_
  intro p e s m args below meth c A C hP hD hS ls hl
  obtain ⟨hx, hb, hml, hown, hts, hK, hZ, hA, hlk, hr⟩ := id C
  have hl : lv_has ls 9 [(0, .ref (q 0)), (1, .int a1), (2, .int a2), (3, .int a3)] := hl
  rw [fM_goSpurs.eq_1] at h
  refine lv_iconst (v := 0) hx hb dX7_goSpurs_0 (by decide) ?_
  refine lv_istore (lv' := [(4, .int 0), (0, .ref (q 0)), (1, .int a1), (2, .int a2), (3, .int a3)]) hx hb dX7_goSpurs_1 hl (by decide) rfl (fun ls hl => ?_)
  refine lv_iconst (v := 0) hx hb dX7_goSpurs_3 (by decide) ?_
  refine lv_istore (lv' := [(5, .int 0), (4, .int 0), (0, .ref (q 0)), (1, .int a1), (2, .int a2), (3, .int a3)]) hx hb dX7_goSpurs_4 hl (by decide) rfl (fun ls hl => ?_)
  exact wM_goSpurs_L6 C N a1 a2 a3 r σ' N 0 0 σ _ _ _ h hP hD hS (lv_sub hl [2, 3, 4, 5, 1, 0] rfl)

def fM_spurs (N : Nat) (σ : St) (a1 : Int32) : Option (Int32 × St) :=
  bd1 (fM_isStation N σ a1) (fun r2 => (if r2 = 0 then some ((-1), σ) else bd2 (fM_goSpurs N σ a1 (σ.1 1) (-1)) (fun r6 σ5 => some (r6, σ5))))
set_option maxHeartbeats 4000000 in
set_option maxRecDepth 100000 in
theorem ctM_spurs {G : GP} {l : Launch} {q : Nat → Nat} (N : Nat) (σ σ' : St) (a1 : Int32) (r : Int32) (h : fM_spurs N σ a1 = some (r, σ')) : CI G l yX7_spurs cX7_spurs 2 (some .int) 3 [.ref (q 0), .int a1] (mW G q σ) (mW G q (σ')) r := by
  refine enterI (own := RX7) (by decide) rfl (Nat.le_of_ble_eq_true rfl) ?_
  intro p e s m args below meth c A C hP hD hS ls hl
  obtain ⟨hx, hb, hml, hown, hts, hK, hZ, hA, hlk, hr⟩ := id C
  have hl : lv_has ls 2 [(0, .ref (q 0)), (1, .int a1)] := hl
  rw [fM_spurs.eq_1] at h
  refine lv_aload_n hx hb dX7_spurs_0 rfl (lv_at hl 0 rfl) ?_
  refine lv_iload_n hx hb dX7_spurs_1 rfl (lv_at hl 1 rfl) ?_
  obtain ⟨r2, h1, h⟩ := bd1_some h
  refine goI C hD hS (runV (As := [.int a1]) (rest := []) (w := (mW G q σ)) C lc_RX7_83 (ctM_isStation N σ a1 r2 h1 _) hP hD hS (va_recv C.2.2.2.2.2.1 hP (ci := 7) (q0 := 0) rfl rfl) hl.1 rfl rfl (by decide) (by decide) (Nat.le_of_ble_eq_true rfl) dX7_spurs_2) (fun H locs hP hD hS => ?_)
  refine lv_if_eq (tgt := 21) hx hb dX7_spurs_5 (by decide) (fun c3 => ?_) (fun c3 => ?_)
  · replace h := ifp c3 h
    refine lv_iconst (v := (-1)) hx hb dX7_spurs_21 (by decide) ?_
    obtain ⟨rfl, rfl⟩ := so2 h
    exact retI C hP hD hS dX7_spurs_22
  · replace h := ifn c3 h
    refine lv_aload_n hx hb dX7_spurs_8 rfl (lv_at hl 0 rfl) ?_
    refine lv_iload_n hx hb dX7_spurs_9 rfl (lv_at hl 1 rfl) ?_
    refine lv_aload_n hx hb dX7_spurs_10 rfl (lv_at hl 0 rfl) ?_
    refine gf_RX7_16 C hP dX7_spurs_11 ?_
    refine lv_iconst (v := (-1)) hx hb dX7_spurs_14 (by decide) ?_
    obtain ⟨r6, σ5, h4, h⟩ := bd2_some h
    refine goI C hD hS (runV (As := [.int a1, .int (σ.1 1), .int (-1)]) (rest := []) (w := (mW G q σ)) C lc_RX7_111 (ctM_goSpurs N σ σ5 a1 (σ.1 1) (-1) r6 h4 _) hP hD hS (va_recv C.2.2.2.2.2.1 hP (ci := 7) (q0 := 0) rfl rfl) hl.1 rfl rfl (by decide) (by decide) (Nat.le_of_ble_eq_true rfl) dX7_spurs_15) (fun H locs hP hD hS => ?_)
    refine lv_goto (tgt := 22) hx hb dX7_spurs_18 (by decide) ?_
    obtain ⟨rfl, rfl⟩ := so2 h
    exact retI C hP hD hS dX7_spurs_22

def fM_weightAtHand (N : Nat) (σ : St) : Option Int32 :=
  gi (σ.1 13) 20 (nz ((σ.1 14) * (σ.1 15)) (some ((σ.2 1 (σ.1 13).toNatClampNeg) / ((σ.1 14) * (σ.1 15)))))
set_option maxHeartbeats 4000000 in
set_option maxRecDepth 100000 in
theorem ctM_weightAtHand {G : GP} {l : Launch} {q : Nat → Nat} (N : Nat) (σ : St) (r : Int32) (h : fM_weightAtHand N σ = some r) : CI G l yX7_weightAtHand cX7_weightAtHand 1 (some .int) 0 [.ref (q 0)] (mW G q σ) (mW G q σ) r := by
  refine enterI (own := RX7) (by decide) rfl (Nat.le_of_ble_eq_true rfl) ?_
  intro p e s m args below meth c A C hP hD hS ls hl
  obtain ⟨hx, hb, hml, hown, hts, hK, hZ, hA, hlk, hr⟩ := id C
  have hl : lv_has ls 1 [(0, .ref (q 0))] := hl
  rw [fM_weightAtHand.eq_1] at h
  refine lv_aload_n hx hb dX7_weightAtHand_0 rfl (lv_at hl 0 rfl) ?_
  refine gf_RX7_13 C hP dX7_weightAtHand_1 ?_
  refine lv_aload_n hx hb dX7_weightAtHand_4 rfl (lv_at hl 0 rfl) ?_
  refine gf_RX7_99 C hP dX7_weightAtHand_5 ?_
  obtain ⟨i1, h⟩ := gi_some h
  refine ldM_1 C hP i1 dX7_weightAtHand_8 ?_
  refine lv_aload_n hx hb dX7_weightAtHand_9 rfl (lv_at hl 0 rfl) ?_
  refine gf_RX7_102 C hP dX7_weightAtHand_10 ?_
  refine lv_aload_n hx hb dX7_weightAtHand_13 rfl (lv_at hl 0 rfl) ?_
  refine gf_RX7_105 C hP dX7_weightAtHand_14 ?_
  refine lv_imul hx hb dX7_weightAtHand_17 ?_
  obtain ⟨n2, h⟩ := nz_some h
  refine lv_idiv hx hb dX7_weightAtHand_18 n2 ?_
  obtain rfl := so1 h
  exact retI C hP hD hS dX7_weightAtHand_19

def fM_spur (N : Nat) (σ : St) (a1 : Int32) (a2 : Int32) (a3 : Int32) : Option (Int32 × St) :=
  bd1 (fM_isStation N σ a1) (fun r2 => (if r2 = 0 then some ((-1), σ) else (if a2 < 0 then some ((-1), σ) else bd1 (fM_within N a3 0 4) (fun r6 => (if r6 = 0 then some ((-1), σ) else bd2 (fM_goSpurs N σ a1 (σ.1 1) a2) (fun r10 σ9 => (if a2 < r10 then (if a3 = 0 then some ((σ9.1 13), σ9) else (if a3 = 1 then some ((σ9.1 14), σ9) else (if a3 = 2 then some ((σ9.1 15), σ9) else (if a3 = 3 then some ((σ9.1 16), σ9) else bd1 (fM_weightAtHand N σ9 ) (fun r17 => some (r17, σ9)))))) else some ((-1), σ9))))))))
set_option maxHeartbeats 4000000 in
set_option maxRecDepth 100000 in
theorem ctM_spur {G : GP} {l : Launch} {q : Nat → Nat} (N : Nat) (σ σ' : St) (a1 : Int32) (a2 : Int32) (a3 : Int32) (r : Int32) (h : fM_spur N σ a1 a2 a3 = some (r, σ')) : CI G l yX7_spur cX7_spur 4 (some .int) 3 [.ref (q 0), .int a1, .int a2, .int a3] (mW G q σ) (mW G q (σ')) r := by
  refine enterI (own := RX7) (by decide) rfl (Nat.le_of_ble_eq_true rfl) ?_
  intro p e s m args below meth c A C hP hD hS ls hl
  obtain ⟨hx, hb, hml, hown, hts, hK, hZ, hA, hlk, hr⟩ := id C
  have hl : lv_has ls 4 [(0, .ref (q 0)), (1, .int a1), (2, .int a2), (3, .int a3)] := hl
  rw [fM_spur.eq_1] at h
  refine lv_aload_n hx hb dX7_spur_0 rfl (lv_at hl 0 rfl) ?_
  refine lv_iload_n hx hb dX7_spur_1 rfl (lv_at hl 1 rfl) ?_
  obtain ⟨r2, h1, h⟩ := bd1_some h
  refine goI C hD hS (runV (As := [.int a1]) (rest := []) (w := (mW G q σ)) C lc_RX7_83 (ctM_isStation N σ a1 r2 h1 _) hP hD hS (va_recv C.2.2.2.2.2.1 hP (ci := 7) (q0 := 0) rfl rfl) hl.1 rfl rfl (by decide) (by decide) (Nat.le_of_ble_eq_true rfl) dX7_spur_2) (fun H locs hP hD hS => ?_)
  refine lv_if_eq (tgt := 35) hx hb dX7_spur_5 (by decide) (fun c3 => ?_) (fun c3 => ?_)
  · replace h := ifp c3 h
    refine lv_iconst (v := (-1)) hx hb dX7_spur_35 (by decide) ?_
    obtain ⟨rfl, rfl⟩ := so2 h
    exact retI C hP hD hS dX7_spur_36
  · replace h := ifn c3 h
    refine lv_iload_n hx hb dX7_spur_8 rfl (lv_at hl 2 rfl) ?_
    refine lv_if_lt (tgt := 35) hx hb dX7_spur_9 (by decide) (fun c4 => ?_) (fun c4 => ?_)
    · replace h := ifp c4 h
      refine lv_iconst (v := (-1)) hx hb dX7_spur_35 (by decide) ?_
      obtain ⟨rfl, rfl⟩ := so2 h
      exact retI C hP hD hS dX7_spur_36
    · replace h := ifn c4 h
      refine lv_iload_n hx hb dX7_spur_12 rfl (lv_at hl 3 rfl) ?_
      refine lv_iconst (v := 0) hx hb dX7_spur_13 (by decide) ?_
      refine lv_iconst (v := 4) hx hb dX7_spur_14 (by decide) ?_
      obtain ⟨r6, h5, h⟩ := bd1_some h
      refine goI C hD hS (runS (As := [.int a3, .int 0, .int 4]) (rest := []) (w := (mW G q σ)) C lc_RX7_75 (ctM_within (w := (mW G q σ)) N a3 0 4 r6 h5 _) hP hD hS hl.1 rfl rfl (by decide) (by decide) (Nat.le_of_ble_eq_true rfl) dX7_spur_15) (fun H locs hP hD hS => ?_)
      refine lv_if_eq (tgt := 35) hx hb dX7_spur_18 (by decide) (fun c7 => ?_) (fun c7 => ?_)
      · replace h := ifp c7 h
        refine lv_iconst (v := (-1)) hx hb dX7_spur_35 (by decide) ?_
        obtain ⟨rfl, rfl⟩ := so2 h
        exact retI C hP hD hS dX7_spur_36
      · replace h := ifn c7 h
        refine lv_iload_n hx hb dX7_spur_21 rfl (lv_at hl 2 rfl) ?_
        refine lv_aload_n hx hb dX7_spur_22 rfl (lv_at hl 0 rfl) ?_
        refine lv_iload_n hx hb dX7_spur_23 rfl (lv_at hl 1 rfl) ?_
        refine lv_aload_n hx hb dX7_spur_24 rfl (lv_at hl 0 rfl) ?_
        refine gf_RX7_16 C hP dX7_spur_25 ?_
        refine lv_iload_n hx hb dX7_spur_28 rfl (lv_at hl 2 rfl) ?_
        obtain ⟨r10, σ9, h8, h⟩ := bd2_some h
        refine goI C hD hS (runV (As := [.int a1, .int (σ.1 1), .int a2]) (rest := [.int a2]) (w := (mW G q σ)) C lc_RX7_111 (ctM_goSpurs N σ σ9 a1 (σ.1 1) a2 r10 h8 _) hP hD hS (va_recv C.2.2.2.2.2.1 hP (ci := 7) (q0 := 0) rfl rfl) hl.1 rfl rfl (by decide) (by decide) (Nat.le_of_ble_eq_true rfl) dX7_spur_29) (fun H locs hP hD hS => ?_)
        refine lv_icmp_lt (tgt := 37) hx hb dX7_spur_32 (by decide) (fun c11 => ?_) (fun c11 => ?_)
        · replace h := ifp c11 h
          refine lv_iload_n hx hb dX7_spur_37 rfl (lv_at hl 3 rfl) ?_
          refine lv_if_ne (tgt := 48) hx hb dX7_spur_38 (by decide) (fun c12 => ?_) (fun c12 => ?_)
          · replace h := ifn c12 h
            refine lv_iload_n hx hb dX7_spur_48 rfl (lv_at hl 3 rfl) ?_
            refine lv_iconst (v := 1) hx hb dX7_spur_49 (by decide) ?_
            refine lv_icmp_ne (tgt := 60) hx hb dX7_spur_50 (by decide) (fun c13 => ?_) (fun c13 => ?_)
            · replace h := ifn c13 h
              refine lv_iload_n hx hb dX7_spur_60 rfl (lv_at hl 3 rfl) ?_
              refine lv_iconst (v := 2) hx hb dX7_spur_61 (by decide) ?_
              refine lv_icmp_ne (tgt := 72) hx hb dX7_spur_62 (by decide) (fun c14 => ?_) (fun c14 => ?_)
              · replace h := ifn c14 h
                refine lv_iload_n hx hb dX7_spur_72 rfl (lv_at hl 3 rfl) ?_
                refine lv_iconst (v := 3) hx hb dX7_spur_73 (by decide) ?_
                refine lv_icmp_ne (tgt := 84) hx hb dX7_spur_74 (by decide) (fun c15 => ?_) (fun c15 => ?_)
                · replace h := ifn c15 h
                  refine lv_aload_n hx hb dX7_spur_84 rfl (lv_at hl 0 rfl) ?_
                  obtain ⟨r17, h16, h⟩ := bd1_some h
                  refine goI C hD hS (runV (As := []) (rest := []) (w := (mW G q σ9)) C lc_RX7_115 (ctM_weightAtHand N σ9  r17 h16 _) hP hD hS (va_recv C.2.2.2.2.2.1 hP (ci := 7) (q0 := 0) rfl rfl) hl.1 rfl rfl (by decide) (by decide) (Nat.le_of_ble_eq_true rfl) dX7_spur_85) (fun H locs hP hD hS => ?_)
                  obtain ⟨rfl, rfl⟩ := so2 h
                  exact retI C hP hD hS dX7_spur_88
                · replace h := ifp c15 h
                  refine lv_aload_n hx hb dX7_spur_77 rfl (lv_at hl 0 rfl) ?_
                  refine gf_RX7_108 C hP dX7_spur_78 ?_
                  refine lv_goto (tgt := 88) hx hb dX7_spur_81 (by decide) ?_
                  obtain ⟨rfl, rfl⟩ := so2 h
                  exact retI C hP hD hS dX7_spur_88
              · replace h := ifp c14 h
                refine lv_aload_n hx hb dX7_spur_65 rfl (lv_at hl 0 rfl) ?_
                refine gf_RX7_105 C hP dX7_spur_66 ?_
                refine lv_goto (tgt := 88) hx hb dX7_spur_69 (by decide) ?_
                obtain ⟨rfl, rfl⟩ := so2 h
                exact retI C hP hD hS dX7_spur_88
            · replace h := ifp c13 h
              refine lv_aload_n hx hb dX7_spur_53 rfl (lv_at hl 0 rfl) ?_
              refine gf_RX7_102 C hP dX7_spur_54 ?_
              refine lv_goto (tgt := 88) hx hb dX7_spur_57 (by decide) ?_
              obtain ⟨rfl, rfl⟩ := so2 h
              exact retI C hP hD hS dX7_spur_88
          · replace h := ifp c12 h
            refine lv_aload_n hx hb dX7_spur_41 rfl (lv_at hl 0 rfl) ?_
            refine gf_RX7_99 C hP dX7_spur_42 ?_
            refine lv_goto (tgt := 88) hx hb dX7_spur_45 (by decide) ?_
            obtain ⟨rfl, rfl⟩ := so2 h
            exact retI C hP hD hS dX7_spur_88
        · replace h := ifn c11 h
          refine lv_iconst (v := (-1)) hx hb dX7_spur_35 (by decide) ?_
          obtain ⟨rfl, rfl⟩ := so2 h
          exact retI C hP hD hS dX7_spur_36

def fM_image (N : Nat) (σ : St) (a1 : Int32) (a2 : Int32) : Option Int32 :=
  bd1 (fM_isStation N σ a1) (fun r2 => (if r2 = 0 then some (-1) else bd1 (fM_isStation N σ a2) (fun r5 => (if r5 = 0 then some (-1) else bd1 (fM_falls N σ a1 (σ.1 1) a2 1 1 0) (fun r8 => (if r8 = 0 then some 0 else some 1))))))
set_option maxHeartbeats 4000000 in
set_option maxRecDepth 100000 in
theorem ctM_image {G : GP} {l : Launch} {q : Nat → Nat} (N : Nat) (σ : St) (a1 : Int32) (a2 : Int32) (r : Int32) (h : fM_image N σ a1 a2 = some r) : CI G l yX7_image cX7_image 3 (some .int) 2 [.ref (q 0), .int a1, .int a2] (mW G q σ) (mW G q σ) r := by
  refine enterI (own := RX7) (by decide) rfl (Nat.le_of_ble_eq_true rfl) ?_
  intro p e s m args below meth c A C hP hD hS ls hl
  obtain ⟨hx, hb, hml, hown, hts, hK, hZ, hA, hlk, hr⟩ := id C
  have hl : lv_has ls 3 [(0, .ref (q 0)), (1, .int a1), (2, .int a2)] := hl
  rw [fM_image.eq_1] at h
  refine lv_aload_n hx hb dX7_image_0 rfl (lv_at hl 0 rfl) ?_
  refine lv_iload_n hx hb dX7_image_1 rfl (lv_at hl 1 rfl) ?_
  obtain ⟨r2, h1, h⟩ := bd1_some h
  refine goI C hD hS (runV (As := [.int a1]) (rest := []) (w := (mW G q σ)) C lc_RX7_83 (ctM_isStation N σ a1 r2 h1 _) hP hD hS (va_recv C.2.2.2.2.2.1 hP (ci := 7) (q0 := 0) rfl rfl) hl.1 rfl rfl (by decide) (by decide) (Nat.le_of_ble_eq_true rfl) dX7_image_2) (fun H locs hP hD hS => ?_)
  refine lv_if_eq (tgt := 40) hx hb dX7_image_5 (by decide) (fun c3 => ?_) (fun c3 => ?_)
  · replace h := ifp c3 h
    refine lv_iconst (v := (-1)) hx hb dX7_image_40 (by decide) ?_
    obtain rfl := so1 h
    exact retI C hP hD hS dX7_image_41
  · replace h := ifn c3 h
    refine lv_aload_n hx hb dX7_image_8 rfl (lv_at hl 0 rfl) ?_
    refine lv_iload_n hx hb dX7_image_9 rfl (lv_at hl 2 rfl) ?_
    obtain ⟨r5, h4, h⟩ := bd1_some h
    refine goI C hD hS (runV (As := [.int a2]) (rest := []) (w := (mW G q σ)) C lc_RX7_83 (ctM_isStation N σ a2 r5 h4 _) hP hD hS (va_recv C.2.2.2.2.2.1 hP (ci := 7) (q0 := 0) rfl rfl) hl.1 rfl rfl (by decide) (by decide) (Nat.le_of_ble_eq_true rfl) dX7_image_10) (fun H locs hP hD hS => ?_)
    refine lv_if_eq (tgt := 40) hx hb dX7_image_13 (by decide) (fun c6 => ?_) (fun c6 => ?_)
    · replace h := ifp c6 h
      refine lv_iconst (v := (-1)) hx hb dX7_image_40 (by decide) ?_
      obtain rfl := so1 h
      exact retI C hP hD hS dX7_image_41
    · replace h := ifn c6 h
      refine lv_aload_n hx hb dX7_image_16 rfl (lv_at hl 0 rfl) ?_
      refine lv_iload_n hx hb dX7_image_17 rfl (lv_at hl 1 rfl) ?_
      refine lv_aload_n hx hb dX7_image_18 rfl (lv_at hl 0 rfl) ?_
      refine gf_RX7_16 C hP dX7_image_19 ?_
      refine lv_iload_n hx hb dX7_image_22 rfl (lv_at hl 2 rfl) ?_
      refine lv_iconst (v := 1) hx hb dX7_image_23 (by decide) ?_
      refine lv_iconst (v := 1) hx hb dX7_image_24 (by decide) ?_
      refine lv_iconst (v := 0) hx hb dX7_image_25 (by decide) ?_
      obtain ⟨r8, h7, h⟩ := bd1_some h
      refine goI C hD hS (runV (As := [.int a1, .int (σ.1 1), .int a2, .int 1, .int 1, .int 0]) (rest := []) (w := (mW G q σ)) C lc_RX7_95 (ctM_falls N σ a1 (σ.1 1) a2 1 1 0 r8 h7 _) hP hD hS (va_recv C.2.2.2.2.2.1 hP (ci := 7) (q0 := 0) rfl rfl) hl.1 rfl rfl (by decide) (by decide) (Nat.le_of_ble_eq_true rfl) dX7_image_26) (fun H locs hP hD hS => ?_)
      refine lv_if_eq (tgt := 36) hx hb dX7_image_29 (by decide) (fun c9 => ?_) (fun c9 => ?_)
      · replace h := ifp c9 h
        refine lv_iconst (v := 0) hx hb dX7_image_36 (by decide) ?_
        refine lv_goto (tgt := 41) hx hb dX7_image_37 (by decide) ?_
        obtain rfl := so1 h
        exact retI C hP hD hS dX7_image_41
      · replace h := ifn c9 h
        refine lv_iconst (v := 1) hx hb dX7_image_32 (by decide) ?_
        refine lv_goto (tgt := 41) hx hb dX7_image_33 (by decide) ?_
        obtain rfl := so1 h
        exact retI C hP hD hS dX7_image_41

def fM_worst_L30 (N : Nat) (v1 : Int32) (v2 : Int32) : Nat → Int32 → Int32 → Int32 → St → Option (Int32 × St)
  | 0, _, _, _, _ => none
  | n + 1, v3, v4, v5, σ => (if v2 ≤ v5 then some (v3, σ) else bd2 (fM_goSpurs N σ v1 (σ.1 1) v5) (fun r10 σ9 => (if v3 < 0 then bd1 (fM_weightAtHand N σ9 ) (fun r13 => fM_worst_L30 N v1 v2 n v5 r13 (v5 + 1) σ9) else bd1 (fM_weightAtHand N σ9 ) (fun r15 => (if r15 ≤ v4 then fM_worst_L30 N v1 v2 n v3 v4 (v5 + 1) σ9 else bd1 (fM_weightAtHand N σ9 ) (fun r18 => fM_worst_L30 N v1 v2 n v5 r18 (v5 + 1) σ9))))))
set_option maxHeartbeats 4000000 in
set_option maxRecDepth 100000 in
theorem wM_worst_L30 {q : Nat → Nat} (C : Cx G p s m args meth c cX7_worst 7 (some .int) (Cond.code yX7_worst cX7_worst 7 (some .int)) RX7 A) (N : Nat) (v1 : Int32) (v2 : Int32) (r : Int32) (σ' : St) : ∀ (n : Nat) (v3 : Int32) (v4 : Int32) (v5 : Int32) (σ : St) (H : Heap) (locs : List Loc) (ls : Array Slot), fM_worst_L30 N v1 v2 n v3 v4 v5 σ = some (r, σ') → va_P G.1 vwCl (mW G q σ) H → va_D A (mW G q σ) → va_S A s.heap H locs → lv_has ls 7 [(0, .ref (q 0)), (1, .int v1), (2, .int v2), (3, .int v3), (4, .int v4), (5, .int v5)] → W p l e (rmD 3) s m args below meth c H locs 0 0 (QI G below args s A (mW G q (σ')) r) (F0 m 30 ls []) := by
  obtain ⟨hx, hb, hml, hown, hts, hK, hZ, hA, hlk, hr⟩ := id C
  intro n
  induction n with
  | zero =>
    intro v3 v4 v5 σ H locs ls h
    cases h
  | succ n ih =>
    intro v3 v4 v5 σ H locs ls h hP hD hS hl
    rw [fM_worst_L30.eq_2] at h
    refine lv_iload hx hb dX7_worst_30 (lv_at hl 5 rfl) ?_
    refine lv_iload_n hx hb dX7_worst_32 rfl (lv_at hl 2 rfl) ?_
    refine lv_icmp_ge (tgt := 77) hx hb dX7_worst_33 (by decide) (fun c7 => ?_) (fun c7 => ?_)
    · replace h := ifp c7 h
      refine lv_iload_n hx hb dX7_worst_77 rfl (lv_at hl 3 rfl) ?_
      obtain ⟨rfl, rfl⟩ := so2 h
      exact retI C hP hD hS dX7_worst_78
    · replace h := ifn c7 h
      refine lv_aload_n hx hb dX7_worst_36 rfl (lv_at hl 0 rfl) ?_
      refine lv_iload_n hx hb dX7_worst_37 rfl (lv_at hl 1 rfl) ?_
      refine lv_aload_n hx hb dX7_worst_38 rfl (lv_at hl 0 rfl) ?_
      refine gf_RX7_16 C hP dX7_worst_39 ?_
      refine lv_iload hx hb dX7_worst_42 (lv_at hl 5 rfl) ?_
      obtain ⟨r10, σ9, h8, h⟩ := bd2_some h
      refine goI C hD hS (runV (As := [.int v1, .int (σ.1 1), .int v5]) (rest := []) (w := (mW G q σ)) C lc_RX7_111 (ctM_goSpurs N σ σ9 v1 (σ.1 1) v5 r10 h8 _) hP hD hS (va_recv C.2.2.2.2.2.1 hP (ci := 7) (q0 := 0) rfl rfl) hl.1 rfl rfl (by decide) (by decide) (Nat.le_of_ble_eq_true rfl) dX7_worst_44) (fun H locs hP hD hS => ?_)
      refine lv_istore (lv' := [(6, .int r10), (0, .ref (q 0)), (1, .int v1), (2, .int v2), (3, .int v3), (4, .int v4), (5, .int v5)]) hx hb dX7_worst_47 hl (by decide) rfl (fun ls hl => ?_)
      refine lv_iload_n hx hb dX7_worst_49 rfl (lv_at hl 4 rfl) ?_
      refine lv_if_lt (tgt := 62) hx hb dX7_worst_50 (by decide) (fun c11 => ?_) (fun c11 => ?_)
      · replace h := ifp c11 h
        refine lv_iload hx hb dX7_worst_62 (lv_at hl 6 rfl) ?_
        refine lv_istore_n (lv' := [(3, .int v5), (6, .int r10), (0, .ref (q 0)), (1, .int v1), (2, .int v2), (4, .int v4), (5, .int v5)]) hx hb dX7_worst_64 rfl hl (by decide) rfl (fun ls hl => ?_)
        refine lv_aload_n hx hb dX7_worst_65 rfl (lv_at hl 2 rfl) ?_
        obtain ⟨r13, h12, h⟩ := bd1_some h
        refine goI C hD hS (runV (As := []) (rest := []) (w := (mW G q σ9)) C lc_RX7_115 (ctM_weightAtHand N σ9  r13 h12 _) hP hD hS (va_recv C.2.2.2.2.2.1 hP (ci := 7) (q0 := 0) rfl rfl) hl.1 rfl rfl (by decide) (by decide) (Nat.le_of_ble_eq_true rfl) dX7_worst_66) (fun H locs hP hD hS => ?_)
        refine lv_istore (lv' := [(4, .int r13), (3, .int v5), (6, .int r10), (0, .ref (q 0)), (1, .int v1), (2, .int v2), (5, .int v5)]) hx hb dX7_worst_69 hl (by decide) rfl (fun ls hl => ?_)
        refine lv_iinc (v := (v5 + 1)) (lv' := [(5, .int (v5 + 1)), (4, .int r13), (3, .int v5), (6, .int r10), (0, .ref (q 0)), (1, .int v1), (2, .int v2)]) hx hb dX7_worst_71 hl (k := 6) rfl (by first | rfl | decide) (by decide) rfl (fun ls hl => ?_)
        refine lv_goto (tgt := 30) hx hb dX7_worst_74 (by decide) ?_
        exact ih v5 r13 (v5 + 1) σ9 _ _ _ h hP hD hS (lv_sub hl [4, 5, 6, 2, 1, 0] rfl)
      · replace h := ifn c11 h
        refine lv_aload_n hx hb dX7_worst_53 rfl (lv_at hl 1 rfl) ?_
        obtain ⟨r15, h14, h⟩ := bd1_some h
        refine goI C hD hS (runV (As := []) (rest := []) (w := (mW G q σ9)) C lc_RX7_115 (ctM_weightAtHand N σ9  r15 h14 _) hP hD hS (va_recv C.2.2.2.2.2.1 hP (ci := 7) (q0 := 0) rfl rfl) hl.1 rfl rfl (by decide) (by decide) (Nat.le_of_ble_eq_true rfl) dX7_worst_54) (fun H locs hP hD hS => ?_)
        refine lv_iload hx hb dX7_worst_57 (lv_at hl 5 rfl) ?_
        refine lv_icmp_le (tgt := 71) hx hb dX7_worst_59 (by decide) (fun c16 => ?_) (fun c16 => ?_)
        · replace h := ifp c16 h
          refine lv_iinc (v := (v5 + 1)) (lv' := [(5, .int (v5 + 1)), (6, .int r10), (0, .ref (q 0)), (1, .int v1), (2, .int v2), (3, .int v3), (4, .int v4)]) hx hb dX7_worst_71 hl (k := 6) rfl (by first | rfl | decide) (by decide) rfl (fun ls hl => ?_)
          refine lv_goto (tgt := 30) hx hb dX7_worst_74 (by decide) ?_
          exact ih v3 v4 (v5 + 1) σ9 _ _ _ h hP hD hS (lv_sub hl [2, 3, 4, 5, 6, 0] rfl)
        · replace h := ifn c16 h
          refine lv_iload hx hb dX7_worst_62 (lv_at hl 6 rfl) ?_
          refine lv_istore_n (lv' := [(3, .int v5), (6, .int r10), (0, .ref (q 0)), (1, .int v1), (2, .int v2), (4, .int v4), (5, .int v5)]) hx hb dX7_worst_64 rfl hl (by decide) rfl (fun ls hl => ?_)
          refine lv_aload_n hx hb dX7_worst_65 rfl (lv_at hl 2 rfl) ?_
          obtain ⟨r18, h17, h⟩ := bd1_some h
          refine goI C hD hS (runV (As := []) (rest := []) (w := (mW G q σ9)) C lc_RX7_115 (ctM_weightAtHand N σ9  r18 h17 _) hP hD hS (va_recv C.2.2.2.2.2.1 hP (ci := 7) (q0 := 0) rfl rfl) hl.1 rfl rfl (by decide) (by decide) (Nat.le_of_ble_eq_true rfl) dX7_worst_66) (fun H locs hP hD hS => ?_)
          refine lv_istore (lv' := [(4, .int r18), (3, .int v5), (6, .int r10), (0, .ref (q 0)), (1, .int v1), (2, .int v2), (5, .int v5)]) hx hb dX7_worst_69 hl (by decide) rfl (fun ls hl => ?_)
          refine lv_iinc (v := (v5 + 1)) (lv' := [(5, .int (v5 + 1)), (4, .int r18), (3, .int v5), (6, .int r10), (0, .ref (q 0)), (1, .int v1), (2, .int v2)]) hx hb dX7_worst_71 hl (k := 6) rfl (by first | rfl | decide) (by decide) rfl (fun ls hl => ?_)
          refine lv_goto (tgt := 30) hx hb dX7_worst_74 (by decide) ?_
          exact ih v5 r18 (v5 + 1) σ9 _ _ _ h hP hD hS (lv_sub hl [4, 5, 6, 2, 1, 0] rfl)

def fM_worst (N : Nat) (σ : St) (a1 : Int32) : Option (Int32 × St) :=
  bd1 (fM_isStation N σ a1) (fun r2 => (if r2 = 0 then some ((-1), σ) else bd2 (fM_goSpurs N σ a1 (σ.1 1) (-1)) (fun r6 σ5 => fM_worst_L30 N a1 r6 N (-4) 0 0 σ5)))
set_option maxHeartbeats 4000000 in
set_option maxRecDepth 100000 in
theorem ctM_worst {G : GP} {l : Launch} {q : Nat → Nat} (N : Nat) (σ σ' : St) (a1 : Int32) (r : Int32) (h : fM_worst N σ a1 = some (r, σ')) : CI G l yX7_worst cX7_worst 7 (some .int) 3 [.ref (q 0), .int a1] (mW G q σ) (mW G q (σ')) r := by
  refine enterI (own := RX7) (by decide) rfl (Nat.le_of_ble_eq_true rfl) ?_
  intro p e s m args below meth c A C hP hD hS ls hl
  obtain ⟨hx, hb, hml, hown, hts, hK, hZ, hA, hlk, hr⟩ := id C
  have hl : lv_has ls 7 [(0, .ref (q 0)), (1, .int a1)] := hl
  rw [fM_worst.eq_1] at h
  refine lv_aload_n hx hb dX7_worst_0 rfl (lv_at hl 0 rfl) ?_
  refine lv_iload_n hx hb dX7_worst_1 rfl (lv_at hl 1 rfl) ?_
  obtain ⟨r2, h1, h⟩ := bd1_some h
  refine goI C hD hS (runV (As := [.int a1]) (rest := []) (w := (mW G q σ)) C lc_RX7_83 (ctM_isStation N σ a1 r2 h1 _) hP hD hS (va_recv C.2.2.2.2.2.1 hP (ci := 7) (q0 := 0) rfl rfl) hl.1 rfl rfl (by decide) (by decide) (Nat.le_of_ble_eq_true rfl) dX7_worst_2) (fun H locs hP hD hS => ?_)
  refine lv_if_ne (tgt := 10) hx hb dX7_worst_5 (by decide) (fun c3 => ?_) (fun c3 => ?_)
  · replace h := ifn c3 h
    refine lv_aload_n hx hb dX7_worst_10 rfl (lv_at hl 0 rfl) ?_
    refine lv_iload_n hx hb dX7_worst_11 rfl (lv_at hl 1 rfl) ?_
    refine lv_aload_n hx hb dX7_worst_12 rfl (lv_at hl 0 rfl) ?_
    refine gf_RX7_16 C hP dX7_worst_13 ?_
    refine lv_iconst (v := (-1)) hx hb dX7_worst_16 (by decide) ?_
    obtain ⟨r6, σ5, h4, h⟩ := bd2_some h
    refine goI C hD hS (runV (As := [.int a1, .int (σ.1 1), .int (-1)]) (rest := []) (w := (mW G q σ)) C lc_RX7_111 (ctM_goSpurs N σ σ5 a1 (σ.1 1) (-1) r6 h4 _) hP hD hS (va_recv C.2.2.2.2.2.1 hP (ci := 7) (q0 := 0) rfl rfl) hl.1 rfl rfl (by decide) (by decide) (Nat.le_of_ble_eq_true rfl) dX7_worst_17) (fun H locs hP hD hS => ?_)
    refine lv_istore_n (lv' := [(2, .int r6), (0, .ref (q 0)), (1, .int a1)]) hx hb dX7_worst_20 rfl hl (by decide) rfl (fun ls hl => ?_)
    refine lv_bipush (v := (-4)) hx hb dX7_worst_21 (by decide) ?_
    refine lv_istore_n (lv' := [(3, .int (-4)), (2, .int r6), (0, .ref (q 0)), (1, .int a1)]) hx hb dX7_worst_23 rfl hl (by decide) rfl (fun ls hl => ?_)
    refine lv_iconst (v := 0) hx hb dX7_worst_24 (by decide) ?_
    refine lv_istore (lv' := [(4, .int 0), (3, .int (-4)), (2, .int r6), (0, .ref (q 0)), (1, .int a1)]) hx hb dX7_worst_25 hl (by decide) rfl (fun ls hl => ?_)
    refine lv_iconst (v := 0) hx hb dX7_worst_27 (by decide) ?_
    refine lv_istore (lv' := [(5, .int 0), (4, .int 0), (3, .int (-4)), (2, .int r6), (0, .ref (q 0)), (1, .int a1)]) hx hb dX7_worst_28 hl (by decide) rfl (fun ls hl => ?_)
    exact wM_worst_L30 C N a1 r6 r σ' N (-4) 0 0 σ5 _ _ _ h hP hD hS (lv_sub hl [4, 5, 3, 2, 1, 0] rfl)
  · replace h := ifp c3 h
    refine lv_iconst (v := (-1)) hx hb dX7_worst_8 (by decide) ?_
    obtain ⟨rfl, rfl⟩ := so2 h
    exact retI C hP hD hS dX7_worst_9

def fM_birdiesOf_L15 (N : Nat) (σ : St) (v1 : Int32) (v3 : Int32) : Nat → Int32 → Int32 → Option (Int32)
  | 0, _, _ => none
  | n + 1, v2, v4 => (if ((σ.1 3) + 3) < v4 then some v2 else gi v3 20 (bd1 (fM_size N ((v4 * v1) - (σ.2 0 v3.toNatClampNeg))) (fun r5 => (if (σ.1 4) < r5 then fM_birdiesOf_L15 N σ v1 v3 n (v2 + 0) (v4 + 1) else fM_birdiesOf_L15 N σ v1 v3 n (v2 + 1) (v4 + 1)))))
set_option maxHeartbeats 4000000 in
set_option maxRecDepth 100000 in
theorem wM_birdiesOf_L15 {q : Nat → Nat} (C : Cx G p s m args meth c cX7_birdiesOf 5 (some .int) (Cond.code yX7_birdiesOf cX7_birdiesOf 5 (some .int)) RX7 A) (N : Nat) (σ : St) (v1 : Int32) (v3 : Int32) (v2' : Int32) (K : ∀ H locs ls, va_P G.1 vwCl (mW G q σ) H → va_D A (mW G q σ) → va_S A s.heap H locs → lv_has ls 5 [(0, .ref (q 0)), (1, .int v1), (2, .int (v2')), (3, .int v3)] → W p l e (rmD 1) s m args below meth c H locs 0 0 Q (F0 m 61 ls [])) : ∀ (n : Nat) (v2 : Int32) (v4 : Int32) (H : Heap) (locs : List Loc) (ls : Array Slot), fM_birdiesOf_L15 N σ v1 v3 n v2 v4 = some v2' → va_P G.1 vwCl (mW G q σ) H → va_D A (mW G q σ) → va_S A s.heap H locs → lv_has ls 5 [(0, .ref (q 0)), (1, .int v1), (2, .int v2), (3, .int v3), (4, .int v4)] → W p l e (rmD 1) s m args below meth c H locs 0 0 Q (F0 m 15 ls []) := by
  obtain ⟨hx, hb, hml, hown, hts, hK, hZ, hA, hlk, hr⟩ := id C
  intro n
  induction n with
  | zero =>
    intro v2 v4 H locs ls h
    cases h
  | succ n ih =>
    intro v2 v4 H locs ls h hP hD hS hl
    rw [fM_birdiesOf_L15.eq_2] at h
    refine lv_iload hx hb dX7_birdiesOf_15 (lv_at hl 4 rfl) ?_
    refine lv_aload_n hx hb dX7_birdiesOf_17 rfl (lv_at hl 0 rfl) ?_
    refine gf_RX7_23 C hP dX7_birdiesOf_18 ?_
    refine lv_iconst (v := 3) hx hb dX7_birdiesOf_21 (by decide) ?_
    refine lv_iadd hx hb dX7_birdiesOf_22 ?_
    refine lv_icmp_gt (tgt := 61) hx hb dX7_birdiesOf_23 (by decide) (fun c2 => ?_) (fun c2 => ?_)
    · replace h := ifp c2 h
      obtain rfl := so1 h
      exact K _ _ _ hP hD hS (lv_sub hl [0, 1, 2, 3] rfl)
    · replace h := ifn c2 h
      refine lv_iload_n hx hb dX7_birdiesOf_26 rfl (lv_at hl 2 rfl) ?_
      refine lv_iload hx hb dX7_birdiesOf_27 (lv_at hl 4 rfl) ?_
      refine lv_iload_n hx hb dX7_birdiesOf_29 rfl (lv_at hl 1 rfl) ?_
      refine lv_imul hx hb dX7_birdiesOf_30 ?_
      refine lv_aload_n hx hb dX7_birdiesOf_31 rfl (lv_at hl 0 rfl) ?_
      refine gf_RX7_9 C hP dX7_birdiesOf_32 ?_
      refine lv_iload_n hx hb dX7_birdiesOf_35 rfl (lv_at hl 3 rfl) ?_
      obtain ⟨i3, h⟩ := gi_some h
      refine ldM_0 C hP i3 dX7_birdiesOf_36 ?_
      refine lv_isub hx hb dX7_birdiesOf_37 ?_
      obtain ⟨r5, h4, h⟩ := bd1_some h
      refine goI C hD hS (runS (As := [.int ((v4 * v1) - (σ.2 0 v3.toNatClampNeg))]) (rest := [.int v2]) (w := (mW G q σ)) C lc_RX7_91 (ctM_size (w := (mW G q σ)) N ((v4 * v1) - (σ.2 0 v3.toNatClampNeg)) r5 h4 _) hP hD hS hl.1 rfl rfl (by decide) (by decide) (Nat.le_of_ble_eq_true rfl) dX7_birdiesOf_38) (fun H locs hP hD hS => ?_)
      refine lv_aload_n hx hb dX7_birdiesOf_41 rfl (lv_at hl 0 rfl) ?_
      refine gf_RX7_26 C hP dX7_birdiesOf_42 ?_
      refine lv_icmp_gt (tgt := 52) hx hb dX7_birdiesOf_45 (by decide) (fun c6 => ?_) (fun c6 => ?_)
      · replace h := ifp c6 h
        refine lv_iconst (v := 0) hx hb dX7_birdiesOf_52 (by decide) ?_
        refine lv_iadd hx hb dX7_birdiesOf_53 ?_
        refine lv_istore_n (lv' := [(2, .int (v2 + 0)), (0, .ref (q 0)), (1, .int v1), (3, .int v3), (4, .int v4)]) hx hb dX7_birdiesOf_54 rfl hl (by decide) rfl (fun ls hl => ?_)
        refine lv_iinc (v := (v4 + 1)) (lv' := [(4, .int (v4 + 1)), (2, .int (v2 + 0)), (0, .ref (q 0)), (1, .int v1), (3, .int v3)]) hx hb dX7_birdiesOf_55 hl (k := 4) rfl (by first | rfl | decide) (by decide) rfl (fun ls hl => ?_)
        refine lv_goto (tgt := 15) hx hb dX7_birdiesOf_58 (by decide) ?_
        exact ih (v2 + 0) (v4 + 1) _ _ _ h hP hD hS (lv_sub hl [2, 3, 1, 4, 0] rfl)
      · replace h := ifn c6 h
        refine lv_iconst (v := 1) hx hb dX7_birdiesOf_48 (by decide) ?_
        refine lv_goto (tgt := 53) hx hb dX7_birdiesOf_49 (by decide) ?_
        refine lv_iadd hx hb dX7_birdiesOf_53 ?_
        refine lv_istore_n (lv' := [(2, .int (v2 + 1)), (0, .ref (q 0)), (1, .int v1), (3, .int v3), (4, .int v4)]) hx hb dX7_birdiesOf_54 rfl hl (by decide) rfl (fun ls hl => ?_)
        refine lv_iinc (v := (v4 + 1)) (lv' := [(4, .int (v4 + 1)), (2, .int (v2 + 1)), (0, .ref (q 0)), (1, .int v1), (3, .int v3)]) hx hb dX7_birdiesOf_55 hl (k := 4) rfl (by first | rfl | decide) (by decide) rfl (fun ls hl => ?_)
        refine lv_goto (tgt := 15) hx hb dX7_birdiesOf_58 (by decide) ?_
        exact ih (v2 + 1) (v4 + 1) _ _ _ h hP hD hS (lv_sub hl [2, 3, 1, 4, 0] rfl)

def fM_birdiesOf_L4 (N : Nat) (σ : St) (v1 : Int32) : Nat → Int32 → Int32 → Option Int32
  | 0, _, _ => none
  | n + 1, v2, v3 => (if (σ.1 0) ≤ v3 then some v2 else bd1 (fM_birdiesOf_L15 N σ v1 v3 N v2 2) (fun y7 => fM_birdiesOf_L4 N σ v1 n y7 (v3 + 1)))
set_option maxHeartbeats 4000000 in
set_option maxRecDepth 100000 in
theorem wM_birdiesOf_L4 {q : Nat → Nat} (C : Cx G p s m args meth c cX7_birdiesOf 5 (some .int) (Cond.code yX7_birdiesOf cX7_birdiesOf 5 (some .int)) RX7 A) (N : Nat) (σ : St) (v1 : Int32) (r : Int32) : ∀ (n : Nat) (v2 : Int32) (v3 : Int32) (H : Heap) (locs : List Loc) (ls : Array Slot), fM_birdiesOf_L4 N σ v1 n v2 v3 = some r → va_P G.1 vwCl (mW G q σ) H → va_D A (mW G q σ) → va_S A s.heap H locs → lv_has ls 5 [(0, .ref (q 0)), (1, .int v1), (2, .int v2), (3, .int v3)] → W p l e (rmD 1) s m args below meth c H locs 0 0 (QI G below args s A (mW G q σ) r) (F0 m 4 ls []) := by
  obtain ⟨hx, hb, hml, hown, hts, hK, hZ, hA, hlk, hr⟩ := id C
  intro n
  induction n with
  | zero =>
    intro v2 v3 H locs ls h
    cases h
  | succ n ih =>
    intro v2 v3 H locs ls h hP hD hS hl
    rw [fM_birdiesOf_L4.eq_2] at h
    refine lv_iload_n hx hb dX7_birdiesOf_4 rfl (lv_at hl 3 rfl) ?_
    refine lv_aload_n hx hb dX7_birdiesOf_5 rfl (lv_at hl 0 rfl) ?_
    refine gf_RX7_72 C hP dX7_birdiesOf_6 ?_
    refine lv_icmp_ge (tgt := 67) hx hb dX7_birdiesOf_9 (by decide) (fun c1 => ?_) (fun c1 => ?_)
    · replace h := ifp c1 h
      refine lv_iload_n hx hb dX7_birdiesOf_67 rfl (lv_at hl 2 rfl) ?_
      obtain rfl := so1 h
      exact retI C hP hD hS dX7_birdiesOf_68
    · replace h := ifn c1 h
      refine lv_iconst (v := 2) hx hb dX7_birdiesOf_12 (by decide) ?_
      refine lv_istore (lv' := [(4, .int 2), (0, .ref (q 0)), (1, .int v1), (2, .int v2), (3, .int v3)]) hx hb dX7_birdiesOf_13 hl (by decide) rfl (fun ls hl => ?_)
      obtain ⟨y7, h8, h⟩ := bd1_some h
      refine wM_birdiesOf_L15 C N σ v1 v3 y7 (fun H locs ls hP hD hS hl => ?_) N v2 2 _ _ _ h8 hP hD hS (lv_sub hl [1, 2, 3, 4, 0] rfl)
      refine lv_iinc (v := (v3 + 1)) (lv' := [(3, .int (v3 + 1)), (0, .ref (q 0)), (1, .int v1), (2, .int y7)]) hx hb dX7_birdiesOf_61 hl (k := 3) rfl (by first | rfl | decide) (by decide) rfl (fun ls hl => ?_)
      refine lv_goto (tgt := 4) hx hb dX7_birdiesOf_64 (by decide) ?_
      exact ih y7 (v3 + 1) _ _ _ h hP hD hS (lv_sub hl [1, 2, 3, 0] rfl)

def fM_birdiesOf (N : Nat) (σ : St) (a1 : Int32) : Option Int32 :=
  fM_birdiesOf_L4 N σ a1 N 0 0
set_option maxHeartbeats 4000000 in
set_option maxRecDepth 100000 in
theorem ctM_birdiesOf {G : GP} {l : Launch} {q : Nat → Nat} (N : Nat) (σ : St) (a1 : Int32) (r : Int32) (h : fM_birdiesOf N σ a1 = some r) : CI G l yX7_birdiesOf cX7_birdiesOf 5 (some .int) 1 [.ref (q 0), .int a1] (mW G q σ) (mW G q σ) r := by
  refine enterI (own := RX7) (by decide) rfl (Nat.le_of_ble_eq_true rfl) ?_
  intro p e s m args below meth c A C hP hD hS ls hl
  obtain ⟨hx, hb, hml, hown, hts, hK, hZ, hA, hlk, hr⟩ := id C
  have hl : lv_has ls 5 [(0, .ref (q 0)), (1, .int a1)] := hl
  rw [fM_birdiesOf.eq_1] at h
  refine lv_iconst (v := 0) hx hb dX7_birdiesOf_0 (by decide) ?_
  refine lv_istore_n (lv' := [(2, .int 0), (0, .ref (q 0)), (1, .int a1)]) hx hb dX7_birdiesOf_1 rfl hl (by decide) rfl (fun ls hl => ?_)
  refine lv_iconst (v := 0) hx hb dX7_birdiesOf_2 (by decide) ?_
  refine lv_istore_n (lv' := [(3, .int 0), (2, .int 0), (0, .ref (q 0)), (1, .int a1)]) hx hb dX7_birdiesOf_3 rfl hl (by decide) rfl (fun ls hl => ?_)
  exact wM_birdiesOf_L4 C N σ a1 r N 0 0 _ _ _ h hP hD hS (lv_sub hl [2, 3, 1, 0] rfl)

def fM_birdies (N : Nat) (σ : St) : Option Int32 :=
  bd1 (fM_birdiesOf N σ (σ.1 1)) (fun r2 => some r2)
set_option maxHeartbeats 4000000 in
set_option maxRecDepth 100000 in
theorem ctM_birdies {G : GP} {l : Launch} {q : Nat → Nat} (N : Nat) (σ : St) (r : Int32) (h : fM_birdies N σ = some r) : CI G l yX7_birdies cX7_birdies 1 (some .int) 2 [.ref (q 0)] (mW G q σ) (mW G q σ) r := by
  refine enterI (own := RX7) (by decide) rfl (Nat.le_of_ble_eq_true rfl) ?_
  intro p e s m args below meth c A C hP hD hS ls hl
  obtain ⟨hx, hb, hml, hown, hts, hK, hZ, hA, hlk, hr⟩ := id C
  have hl : lv_has ls 1 [(0, .ref (q 0))] := hl
  rw [fM_birdies.eq_1] at h
  refine lv_aload_n hx hb dX7_birdies_0 rfl (lv_at hl 0 rfl) ?_
  refine lv_aload_n hx hb dX7_birdies_1 rfl (lv_at hl 0 rfl) ?_
  refine gf_RX7_16 C hP dX7_birdies_2 ?_
  obtain ⟨r2, h1, h⟩ := bd1_some h
  refine goI C hD hS (runV (As := [.int (σ.1 1)]) (rest := []) (w := (mW G q σ)) C lc_RX7_119 (ctM_birdiesOf N σ (σ.1 1) r2 h1 _) hP hD hS (va_recv C.2.2.2.2.2.1 hP (ci := 7) (q0 := 0) rfl rfl) hl.1 rfl rfl (by decide) (by decide) (Nat.le_of_ble_eq_true rfl) dX7_birdies_5) (fun H locs hP hD hS => ?_)
  obtain rfl := so1 h
  exact retI C hP hD hS dX7_birdies_8

def fM_loadOf_L64 (N : Nat) (σ : St) (v1 : Int32) (v3 : Int32) (v4 : Int32) (v5 : Int32) : Nat → Int32 → Int32 → Option (Int32)
  | 0, _, _ => none
  | n + 1, v2, v6 => (if (σ.1 3) < v6 then some v2 else bd1 (fM_falls N σ v3 v1 v4 v5 v6 1) (fun r11 => (if r11 = 0 then bd1 (fM_falls N σ v3 v1 v4 v5 v6 0) (fun r14 => (if r14 = 0 then fM_loadOf_L64 N σ v1 v3 v4 v5 n ((v2 + 0) + 0) (v6 + 1) else gi v4 20 (nz (v5 * v6) (fM_loadOf_L64 N σ v1 v3 v4 v5 n ((v2 + 0) + ((σ.2 1 v4.toNatClampNeg) / (v5 * v6))) (v6 + 1))))) else gi v4 20 (nz (v5 * v6) (bd1 (fM_falls N σ v3 v1 v4 v5 v6 0) (fun r21 => (if r21 = 0 then fM_loadOf_L64 N σ v1 v3 v4 v5 n ((v2 + ((σ.2 1 v4.toNatClampNeg) / (v5 * v6))) + 0) (v6 + 1) else gi v4 20 (nz (v5 * v6) (fM_loadOf_L64 N σ v1 v3 v4 v5 n ((v2 + ((σ.2 1 v4.toNatClampNeg) / (v5 * v6))) + ((σ.2 1 v4.toNatClampNeg) / (v5 * v6))) (v6 + 1))))))))))
set_option maxHeartbeats 4000000 in
set_option maxRecDepth 100000 in
theorem wM_loadOf_L64 {q : Nat → Nat} (C : Cx G p s m args meth c cX7_loadOf 7 (some .int) (Cond.code yX7_loadOf cX7_loadOf 7 (some .int)) RX7 A) (N : Nat) (σ : St) (v1 : Int32) (v3 : Int32) (v4 : Int32) (v5 : Int32) (v2' : Int32) (K : ∀ H locs ls, va_P G.1 vwCl (mW G q σ) H → va_D A (mW G q σ) → va_S A s.heap H locs → lv_has ls 7 [(0, .ref (q 0)), (1, .int v1), (2, .int (v2')), (3, .int v3), (4, .int v4), (5, .int v5)] → W p l e (rmD 2) s m args below meth c H locs 0 0 Q (F0 m 151 ls [])) : ∀ (n : Nat) (v2 : Int32) (v6 : Int32) (H : Heap) (locs : List Loc) (ls : Array Slot), fM_loadOf_L64 N σ v1 v3 v4 v5 n v2 v6 = some v2' → va_P G.1 vwCl (mW G q σ) H → va_D A (mW G q σ) → va_S A s.heap H locs → lv_has ls 7 [(0, .ref (q 0)), (1, .int v1), (2, .int v2), (3, .int v3), (4, .int v4), (5, .int v5), (6, .int v6)] → W p l e (rmD 2) s m args below meth c H locs 0 0 Q (F0 m 64 ls []) := by
  obtain ⟨hx, hb, hml, hown, hts, hK, hZ, hA, hlk, hr⟩ := id C
  intro n
  induction n with
  | zero =>
    intro v2 v6 H locs ls h
    cases h
  | succ n ih =>
    intro v2 v6 H locs ls h hP hD hS hl
    rw [fM_loadOf_L64.eq_2] at h
    refine lv_iload hx hb dX7_loadOf_64 (lv_at hl 6 rfl) ?_
    refine lv_aload_n hx hb dX7_loadOf_66 rfl (lv_at hl 0 rfl) ?_
    refine gf_RX7_23 C hP dX7_loadOf_67 ?_
    refine lv_icmp_gt (tgt := 151) hx hb dX7_loadOf_70 (by decide) (fun c9 => ?_) (fun c9 => ?_)
    · replace h := ifp c9 h
      obtain rfl := so1 h
      exact K _ _ _ hP hD hS (lv_sub hl [0, 1, 2, 3, 4, 5] rfl)
    · replace h := ifn c9 h
      refine lv_iload_n hx hb dX7_loadOf_73 rfl (lv_at hl 2 rfl) ?_
      refine lv_aload_n hx hb dX7_loadOf_74 rfl (lv_at hl 0 rfl) ?_
      refine lv_iload_n hx hb dX7_loadOf_75 rfl (lv_at hl 3 rfl) ?_
      refine lv_iload_n hx hb dX7_loadOf_76 rfl (lv_at hl 1 rfl) ?_
      refine lv_iload hx hb dX7_loadOf_77 (lv_at hl 4 rfl) ?_
      refine lv_iload hx hb dX7_loadOf_79 (lv_at hl 5 rfl) ?_
      refine lv_iload hx hb dX7_loadOf_81 (lv_at hl 6 rfl) ?_
      refine lv_iconst (v := 1) hx hb dX7_loadOf_83 (by decide) ?_
      obtain ⟨r11, h10, h⟩ := bd1_some h
      refine goI C hD hS (runV (As := [.int v3, .int v1, .int v4, .int v5, .int v6, .int 1]) (rest := [.int v2]) (w := (mW G q σ)) C lc_RX7_95 (ctM_falls N σ v3 v1 v4 v5 v6 1 r11 h10 _) hP hD hS (va_recv C.2.2.2.2.2.1 hP (ci := 7) (q0 := 0) rfl rfl) hl.1 rfl rfl (by decide) (by decide) (Nat.le_of_ble_eq_true rfl) dX7_loadOf_84) (fun H locs hP hD hS => ?_)
      refine lv_if_eq (tgt := 106) hx hb dX7_loadOf_87 (by decide) (fun c12 => ?_) (fun c12 => ?_)
      · replace h := ifp c12 h
        refine lv_iconst (v := 0) hx hb dX7_loadOf_106 (by decide) ?_
        refine lv_iadd hx hb dX7_loadOf_107 ?_
        refine lv_istore_n (lv' := [(2, .int (v2 + 0)), (0, .ref (q 0)), (1, .int v1), (3, .int v3), (4, .int v4), (5, .int v5), (6, .int v6)]) hx hb dX7_loadOf_108 rfl hl (by decide) rfl (fun ls hl => ?_)
        refine lv_iload_n hx hb dX7_loadOf_109 rfl (lv_at hl 0 rfl) ?_
        refine lv_aload_n hx hb dX7_loadOf_110 rfl (lv_at hl 1 rfl) ?_
        refine lv_iload_n hx hb dX7_loadOf_111 rfl (lv_at hl 3 rfl) ?_
        refine lv_iload_n hx hb dX7_loadOf_112 rfl (lv_at hl 2 rfl) ?_
        refine lv_iload hx hb dX7_loadOf_113 (lv_at hl 4 rfl) ?_
        refine lv_iload hx hb dX7_loadOf_115 (lv_at hl 5 rfl) ?_
        refine lv_iload hx hb dX7_loadOf_117 (lv_at hl 6 rfl) ?_
        refine lv_iconst (v := 0) hx hb dX7_loadOf_119 (by decide) ?_
        obtain ⟨r14, h13, h⟩ := bd1_some h
        refine goI C hD hS (runV (As := [.int v3, .int v1, .int v4, .int v5, .int v6, .int 0]) (rest := [.int (v2 + 0)]) (w := (mW G q σ)) C lc_RX7_95 (ctM_falls N σ v3 v1 v4 v5 v6 0 r14 h13 _) hP hD hS (va_recv C.2.2.2.2.2.1 hP (ci := 7) (q0 := 0) rfl rfl) hl.1 rfl rfl (by decide) (by decide) (Nat.le_of_ble_eq_true rfl) dX7_loadOf_120) (fun H locs hP hD hS => ?_)
        refine lv_if_eq (tgt := 142) hx hb dX7_loadOf_123 (by decide) (fun c15 => ?_) (fun c15 => ?_)
        · replace h := ifp c15 h
          refine lv_iconst (v := 0) hx hb dX7_loadOf_142 (by decide) ?_
          refine lv_iadd hx hb dX7_loadOf_143 ?_
          refine lv_istore_n (lv' := [(2, .int ((v2 + 0) + 0)), (0, .ref (q 0)), (1, .int v1), (3, .int v3), (4, .int v4), (5, .int v5), (6, .int v6)]) hx hb dX7_loadOf_144 rfl hl (by decide) rfl (fun ls hl => ?_)
          refine lv_iinc (v := (v6 + 1)) (lv' := [(6, .int (v6 + 1)), (2, .int ((v2 + 0) + 0)), (0, .ref (q 0)), (1, .int v1), (3, .int v3), (4, .int v4), (5, .int v5)]) hx hb dX7_loadOf_145 hl (k := 6) rfl (by first | rfl | decide) (by decide) rfl (fun ls hl => ?_)
          refine lv_goto (tgt := 64) hx hb dX7_loadOf_148 (by decide) ?_
          exact ih ((v2 + 0) + 0) (v6 + 1) _ _ _ h hP hD hS (lv_sub hl [2, 3, 1, 4, 5, 6, 0] rfl)
        · replace h := ifn c15 h
          refine lv_aload_n hx hb dX7_loadOf_126 rfl (lv_at hl 1 rfl) ?_
          refine gf_RX7_13 C hP dX7_loadOf_127 ?_
          refine lv_iload hx hb dX7_loadOf_130 (lv_at hl 4 rfl) ?_
          obtain ⟨i16, h⟩ := gi_some h
          refine ldM_1 C hP i16 dX7_loadOf_132 ?_
          refine lv_iload hx hb dX7_loadOf_133 (lv_at hl 5 rfl) ?_
          refine lv_iload hx hb dX7_loadOf_135 (lv_at hl 6 rfl) ?_
          refine lv_imul hx hb dX7_loadOf_137 ?_
          obtain ⟨n17, h⟩ := nz_some h
          refine lv_idiv hx hb dX7_loadOf_138 n17 ?_
          refine lv_goto (tgt := 143) hx hb dX7_loadOf_139 (by decide) ?_
          refine lv_iadd hx hb dX7_loadOf_143 ?_
          refine lv_istore_n (lv' := [(2, .int ((v2 + 0) + ((σ.2 1 v4.toNatClampNeg) / (v5 * v6)))), (0, .ref (q 0)), (1, .int v1), (3, .int v3), (4, .int v4), (5, .int v5), (6, .int v6)]) hx hb dX7_loadOf_144 rfl hl (by decide) rfl (fun ls hl => ?_)
          refine lv_iinc (v := (v6 + 1)) (lv' := [(6, .int (v6 + 1)), (2, .int ((v2 + 0) + ((σ.2 1 v4.toNatClampNeg) / (v5 * v6)))), (0, .ref (q 0)), (1, .int v1), (3, .int v3), (4, .int v4), (5, .int v5)]) hx hb dX7_loadOf_145 hl (k := 6) rfl (by first | rfl | decide) (by decide) rfl (fun ls hl => ?_)
          refine lv_goto (tgt := 64) hx hb dX7_loadOf_148 (by decide) ?_
          exact ih ((v2 + 0) + ((σ.2 1 v4.toNatClampNeg) / (v5 * v6))) (v6 + 1) _ _ _ h hP hD hS (lv_sub hl [2, 3, 1, 4, 5, 6, 0] rfl)
      · replace h := ifn c12 h
        refine lv_aload_n hx hb dX7_loadOf_90 rfl (lv_at hl 0 rfl) ?_
        refine gf_RX7_13 C hP dX7_loadOf_91 ?_
        refine lv_iload hx hb dX7_loadOf_94 (lv_at hl 4 rfl) ?_
        obtain ⟨i18, h⟩ := gi_some h
        refine ldM_1 C hP i18 dX7_loadOf_96 ?_
        refine lv_iload hx hb dX7_loadOf_97 (lv_at hl 5 rfl) ?_
        refine lv_iload hx hb dX7_loadOf_99 (lv_at hl 6 rfl) ?_
        refine lv_imul hx hb dX7_loadOf_101 ?_
        obtain ⟨n19, h⟩ := nz_some h
        refine lv_idiv hx hb dX7_loadOf_102 n19 ?_
        refine lv_goto (tgt := 107) hx hb dX7_loadOf_103 (by decide) ?_
        refine lv_iadd hx hb dX7_loadOf_107 ?_
        refine lv_istore_n (lv' := [(2, .int (v2 + ((σ.2 1 v4.toNatClampNeg) / (v5 * v6)))), (0, .ref (q 0)), (1, .int v1), (3, .int v3), (4, .int v4), (5, .int v5), (6, .int v6)]) hx hb dX7_loadOf_108 rfl hl (by decide) rfl (fun ls hl => ?_)
        refine lv_iload_n hx hb dX7_loadOf_109 rfl (lv_at hl 0 rfl) ?_
        refine lv_aload_n hx hb dX7_loadOf_110 rfl (lv_at hl 1 rfl) ?_
        refine lv_iload_n hx hb dX7_loadOf_111 rfl (lv_at hl 3 rfl) ?_
        refine lv_iload_n hx hb dX7_loadOf_112 rfl (lv_at hl 2 rfl) ?_
        refine lv_iload hx hb dX7_loadOf_113 (lv_at hl 4 rfl) ?_
        refine lv_iload hx hb dX7_loadOf_115 (lv_at hl 5 rfl) ?_
        refine lv_iload hx hb dX7_loadOf_117 (lv_at hl 6 rfl) ?_
        refine lv_iconst (v := 0) hx hb dX7_loadOf_119 (by decide) ?_
        obtain ⟨r21, h20, h⟩ := bd1_some h
        refine goI C hD hS (runV (As := [.int v3, .int v1, .int v4, .int v5, .int v6, .int 0]) (rest := [.int (v2 + ((σ.2 1 v4.toNatClampNeg) / (v5 * v6)))]) (w := (mW G q σ)) C lc_RX7_95 (ctM_falls N σ v3 v1 v4 v5 v6 0 r21 h20 _) hP hD hS (va_recv C.2.2.2.2.2.1 hP (ci := 7) (q0 := 0) rfl rfl) hl.1 rfl rfl (by decide) (by decide) (Nat.le_of_ble_eq_true rfl) dX7_loadOf_120) (fun H locs hP hD hS => ?_)
        refine lv_if_eq (tgt := 142) hx hb dX7_loadOf_123 (by decide) (fun c22 => ?_) (fun c22 => ?_)
        · replace h := ifp c22 h
          refine lv_iconst (v := 0) hx hb dX7_loadOf_142 (by decide) ?_
          refine lv_iadd hx hb dX7_loadOf_143 ?_
          refine lv_istore_n (lv' := [(2, .int ((v2 + ((σ.2 1 v4.toNatClampNeg) / (v5 * v6))) + 0)), (0, .ref (q 0)), (1, .int v1), (3, .int v3), (4, .int v4), (5, .int v5), (6, .int v6)]) hx hb dX7_loadOf_144 rfl hl (by decide) rfl (fun ls hl => ?_)
          refine lv_iinc (v := (v6 + 1)) (lv' := [(6, .int (v6 + 1)), (2, .int ((v2 + ((σ.2 1 v4.toNatClampNeg) / (v5 * v6))) + 0)), (0, .ref (q 0)), (1, .int v1), (3, .int v3), (4, .int v4), (5, .int v5)]) hx hb dX7_loadOf_145 hl (k := 6) rfl (by first | rfl | decide) (by decide) rfl (fun ls hl => ?_)
          refine lv_goto (tgt := 64) hx hb dX7_loadOf_148 (by decide) ?_
          exact ih ((v2 + ((σ.2 1 v4.toNatClampNeg) / (v5 * v6))) + 0) (v6 + 1) _ _ _ h hP hD hS (lv_sub hl [2, 3, 1, 4, 5, 6, 0] rfl)
        · replace h := ifn c22 h
          refine lv_aload_n hx hb dX7_loadOf_126 rfl (lv_at hl 1 rfl) ?_
          refine gf_RX7_13 C hP dX7_loadOf_127 ?_
          refine lv_iload hx hb dX7_loadOf_130 (lv_at hl 4 rfl) ?_
          obtain ⟨i23, h⟩ := gi_some h
          refine ldM_1 C hP i23 dX7_loadOf_132 ?_
          refine lv_iload hx hb dX7_loadOf_133 (lv_at hl 5 rfl) ?_
          refine lv_iload hx hb dX7_loadOf_135 (lv_at hl 6 rfl) ?_
          refine lv_imul hx hb dX7_loadOf_137 ?_
          obtain ⟨n24, h⟩ := nz_some h
          refine lv_idiv hx hb dX7_loadOf_138 n24 ?_
          refine lv_goto (tgt := 143) hx hb dX7_loadOf_139 (by decide) ?_
          refine lv_iadd hx hb dX7_loadOf_143 ?_
          refine lv_istore_n (lv' := [(2, .int ((v2 + ((σ.2 1 v4.toNatClampNeg) / (v5 * v6))) + ((σ.2 1 v4.toNatClampNeg) / (v5 * v6)))), (0, .ref (q 0)), (1, .int v1), (3, .int v3), (4, .int v4), (5, .int v5), (6, .int v6)]) hx hb dX7_loadOf_144 rfl hl (by decide) rfl (fun ls hl => ?_)
          refine lv_iinc (v := (v6 + 1)) (lv' := [(6, .int (v6 + 1)), (2, .int ((v2 + ((σ.2 1 v4.toNatClampNeg) / (v5 * v6))) + ((σ.2 1 v4.toNatClampNeg) / (v5 * v6)))), (0, .ref (q 0)), (1, .int v1), (3, .int v3), (4, .int v4), (5, .int v5)]) hx hb dX7_loadOf_145 hl (k := 6) rfl (by first | rfl | decide) (by decide) rfl (fun ls hl => ?_)
          refine lv_goto (tgt := 64) hx hb dX7_loadOf_148 (by decide) ?_
          exact ih ((v2 + ((σ.2 1 v4.toNatClampNeg) / (v5 * v6))) + ((σ.2 1 v4.toNatClampNeg) / (v5 * v6))) (v6 + 1) _ _ _ h hP hD hS (lv_sub hl [2, 3, 1, 4, 5, 6, 0] rfl)

def fM_loadOf_L52 (N : Nat) (σ : St) (v1 : Int32) (v3 : Int32) (v4 : Int32) : Nat → Int32 → Int32 → Option (Int32)
  | 0, _, _ => none
  | n + 1, v2, v5 => (if (σ.1 3) < v5 then some v2 else bd1 (fM_loadOf_L64 N σ v1 v3 v4 v5 N v2 1) (fun y25 => fM_loadOf_L52 N σ v1 v3 v4 n y25 (v5 + 1)))
set_option maxHeartbeats 4000000 in
set_option maxRecDepth 100000 in
theorem wM_loadOf_L52 {q : Nat → Nat} (C : Cx G p s m args meth c cX7_loadOf 7 (some .int) (Cond.code yX7_loadOf cX7_loadOf 7 (some .int)) RX7 A) (N : Nat) (σ : St) (v1 : Int32) (v3 : Int32) (v4 : Int32) (v2' : Int32) (K : ∀ H locs ls, va_P G.1 vwCl (mW G q σ) H → va_D A (mW G q σ) → va_S A s.heap H locs → lv_has ls 7 [(0, .ref (q 0)), (1, .int v1), (2, .int (v2')), (3, .int v3), (4, .int v4)] → W p l e (rmD 2) s m args below meth c H locs 0 0 Q (F0 m 157 ls [])) : ∀ (n : Nat) (v2 : Int32) (v5 : Int32) (H : Heap) (locs : List Loc) (ls : Array Slot), fM_loadOf_L52 N σ v1 v3 v4 n v2 v5 = some v2' → va_P G.1 vwCl (mW G q σ) H → va_D A (mW G q σ) → va_S A s.heap H locs → lv_has ls 7 [(0, .ref (q 0)), (1, .int v1), (2, .int v2), (3, .int v3), (4, .int v4), (5, .int v5)] → W p l e (rmD 2) s m args below meth c H locs 0 0 Q (F0 m 52 ls []) := by
  obtain ⟨hx, hb, hml, hown, hts, hK, hZ, hA, hlk, hr⟩ := id C
  intro n
  induction n with
  | zero =>
    intro v2 v5 H locs ls h
    cases h
  | succ n ih =>
    intro v2 v5 H locs ls h hP hD hS hl
    rw [fM_loadOf_L52.eq_2] at h
    refine lv_iload hx hb dX7_loadOf_52 (lv_at hl 5 rfl) ?_
    refine lv_aload_n hx hb dX7_loadOf_54 rfl (lv_at hl 0 rfl) ?_
    refine gf_RX7_23 C hP dX7_loadOf_55 ?_
    refine lv_icmp_gt (tgt := 157) hx hb dX7_loadOf_58 (by decide) (fun c8 => ?_) (fun c8 => ?_)
    · replace h := ifp c8 h
      obtain rfl := so1 h
      exact K _ _ _ hP hD hS (lv_sub hl [0, 1, 2, 3, 4] rfl)
    · replace h := ifn c8 h
      refine lv_iconst (v := 1) hx hb dX7_loadOf_61 (by decide) ?_
      refine lv_istore (lv' := [(6, .int 1), (0, .ref (q 0)), (1, .int v1), (2, .int v2), (3, .int v3), (4, .int v4), (5, .int v5)]) hx hb dX7_loadOf_62 hl (by decide) rfl (fun ls hl => ?_)
      obtain ⟨y25, h26, h⟩ := bd1_some h
      refine wM_loadOf_L64 C N σ v1 v3 v4 v5 y25 (fun H locs ls hP hD hS hl => ?_) N v2 1 _ _ _ h26 hP hD hS (lv_sub hl [1, 2, 3, 4, 5, 6, 0] rfl)
      refine lv_iinc (v := (v5 + 1)) (lv' := [(5, .int (v5 + 1)), (0, .ref (q 0)), (1, .int v1), (2, .int y25), (3, .int v3), (4, .int v4)]) hx hb dX7_loadOf_151 hl (k := 5) rfl (by first | rfl | decide) (by decide) rfl (fun ls hl => ?_)
      refine lv_goto (tgt := 52) hx hb dX7_loadOf_154 (by decide) ?_
      exact ih y25 (v5 + 1) _ _ _ h hP hD hS (lv_sub hl [1, 2, 3, 4, 5, 0] rfl)

def fM_loadOf_L40 (N : Nat) (σ : St) (v1 : Int32) (v3 : Int32) : Nat → Int32 → Int32 → Option (Int32)
  | 0, _, _ => none
  | n + 1, v2, v4 => (if (σ.1 0) ≤ v4 then some v2 else bd1 (fM_loadOf_L52 N σ v1 v3 v4 N v2 1) (fun y27 => fM_loadOf_L40 N σ v1 v3 n y27 (v4 + 1)))
set_option maxHeartbeats 4000000 in
set_option maxRecDepth 100000 in
theorem wM_loadOf_L40 {q : Nat → Nat} (C : Cx G p s m args meth c cX7_loadOf 7 (some .int) (Cond.code yX7_loadOf cX7_loadOf 7 (some .int)) RX7 A) (N : Nat) (σ : St) (v1 : Int32) (v3 : Int32) (v2' : Int32) (K : ∀ H locs ls, va_P G.1 vwCl (mW G q σ) H → va_D A (mW G q σ) → va_S A s.heap H locs → lv_has ls 7 [(0, .ref (q 0)), (1, .int v1), (2, .int (v2')), (3, .int v3)] → W p l e (rmD 2) s m args below meth c H locs 0 0 Q (F0 m 163 ls [])) : ∀ (n : Nat) (v2 : Int32) (v4 : Int32) (H : Heap) (locs : List Loc) (ls : Array Slot), fM_loadOf_L40 N σ v1 v3 n v2 v4 = some v2' → va_P G.1 vwCl (mW G q σ) H → va_D A (mW G q σ) → va_S A s.heap H locs → lv_has ls 7 [(0, .ref (q 0)), (1, .int v1), (2, .int v2), (3, .int v3), (4, .int v4)] → W p l e (rmD 2) s m args below meth c H locs 0 0 Q (F0 m 40 ls []) := by
  obtain ⟨hx, hb, hml, hown, hts, hK, hZ, hA, hlk, hr⟩ := id C
  intro n
  induction n with
  | zero =>
    intro v2 v4 H locs ls h
    cases h
  | succ n ih =>
    intro v2 v4 H locs ls h hP hD hS hl
    rw [fM_loadOf_L40.eq_2] at h
    refine lv_iload hx hb dX7_loadOf_40 (lv_at hl 4 rfl) ?_
    refine lv_aload_n hx hb dX7_loadOf_42 rfl (lv_at hl 0 rfl) ?_
    refine gf_RX7_72 C hP dX7_loadOf_43 ?_
    refine lv_icmp_ge (tgt := 163) hx hb dX7_loadOf_46 (by decide) (fun c7 => ?_) (fun c7 => ?_)
    · replace h := ifp c7 h
      obtain rfl := so1 h
      exact K _ _ _ hP hD hS (lv_sub hl [0, 1, 2, 3] rfl)
    · replace h := ifn c7 h
      refine lv_iconst (v := 1) hx hb dX7_loadOf_49 (by decide) ?_
      refine lv_istore (lv' := [(5, .int 1), (0, .ref (q 0)), (1, .int v1), (2, .int v2), (3, .int v3), (4, .int v4)]) hx hb dX7_loadOf_50 hl (by decide) rfl (fun ls hl => ?_)
      obtain ⟨y27, h28, h⟩ := bd1_some h
      refine wM_loadOf_L52 C N σ v1 v3 v4 y27 (fun H locs ls hP hD hS hl => ?_) N v2 1 _ _ _ h28 hP hD hS (lv_sub hl [1, 2, 3, 4, 5, 0] rfl)
      refine lv_iinc (v := (v4 + 1)) (lv' := [(4, .int (v4 + 1)), (0, .ref (q 0)), (1, .int v1), (2, .int y27), (3, .int v3)]) hx hb dX7_loadOf_157 hl (k := 4) rfl (by first | rfl | decide) (by decide) rfl (fun ls hl => ?_)
      refine lv_goto (tgt := 40) hx hb dX7_loadOf_160 (by decide) ?_
      exact ih y27 (v4 + 1) _ _ _ h hP hD hS (lv_sub hl [1, 2, 3, 4, 0] rfl)

def fM_loadOf_L11 (N : Nat) (σ : St) (v1 : Int32) : Nat → Int32 → Int32 → Option Int32
  | 0, _, _ => none
  | n + 1, v2, v3 => (if (σ.1 0) ≤ v3 then some v2 else bd1 (fM_oscillatorOf N σ v3 v1) (fun r5 => (if 0 < r5 then bd1 (fM_loadOf_L40 N σ v1 v3 N (v2 + 0) 0) (fun y29 => fM_loadOf_L11 N σ v1 n y29 (v3 + 1)) else bd1 (fM_loadOf_L40 N σ v1 v3 N (v2 + 100) 0) (fun y31 => fM_loadOf_L11 N σ v1 n y31 (v3 + 1)))))
set_option maxHeartbeats 4000000 in
set_option maxRecDepth 100000 in
theorem wM_loadOf_L11 {q : Nat → Nat} (C : Cx G p s m args meth c cX7_loadOf 7 (some .int) (Cond.code yX7_loadOf cX7_loadOf 7 (some .int)) RX7 A) (N : Nat) (σ : St) (v1 : Int32) (r : Int32) : ∀ (n : Nat) (v2 : Int32) (v3 : Int32) (H : Heap) (locs : List Loc) (ls : Array Slot), fM_loadOf_L11 N σ v1 n v2 v3 = some r → va_P G.1 vwCl (mW G q σ) H → va_D A (mW G q σ) → va_S A s.heap H locs → lv_has ls 7 [(0, .ref (q 0)), (1, .int v1), (2, .int v2), (3, .int v3)] → W p l e (rmD 2) s m args below meth c H locs 0 0 (QI G below args s A (mW G q σ) r) (F0 m 11 ls []) := by
  obtain ⟨hx, hb, hml, hown, hts, hK, hZ, hA, hlk, hr⟩ := id C
  intro n
  induction n with
  | zero =>
    intro v2 v3 H locs ls h
    cases h
  | succ n ih =>
    intro v2 v3 H locs ls h hP hD hS hl
    rw [fM_loadOf_L11.eq_2] at h
    refine lv_iload_n hx hb dX7_loadOf_11 rfl (lv_at hl 3 rfl) ?_
    refine lv_aload_n hx hb dX7_loadOf_12 rfl (lv_at hl 0 rfl) ?_
    refine gf_RX7_72 C hP dX7_loadOf_13 ?_
    refine lv_icmp_ge (tgt := 169) hx hb dX7_loadOf_16 (by decide) (fun c3 => ?_) (fun c3 => ?_)
    · replace h := ifp c3 h
      refine lv_iload_n hx hb dX7_loadOf_169 rfl (lv_at hl 2 rfl) ?_
      obtain rfl := so1 h
      exact retI C hP hD hS dX7_loadOf_170
    · replace h := ifn c3 h
      refine lv_iload_n hx hb dX7_loadOf_19 rfl (lv_at hl 2 rfl) ?_
      refine lv_aload_n hx hb dX7_loadOf_20 rfl (lv_at hl 0 rfl) ?_
      refine lv_iload_n hx hb dX7_loadOf_21 rfl (lv_at hl 3 rfl) ?_
      refine lv_iload_n hx hb dX7_loadOf_22 rfl (lv_at hl 1 rfl) ?_
      obtain ⟨r5, h4, h⟩ := bd1_some h
      refine goI C hD hS (runV (As := [.int v3, .int v1]) (rest := [.int v2]) (w := (mW G q σ)) C lc_RX7_86 (ctM_oscillatorOf N σ v3 v1 r5 h4 _) hP hD hS (va_recv C.2.2.2.2.2.1 hP (ci := 7) (q0 := 0) rfl rfl) hl.1 rfl rfl (by decide) (by decide) (Nat.le_of_ble_eq_true rfl) dX7_loadOf_23) (fun H locs hP hD hS => ?_)
      refine lv_if_gt (tgt := 34) hx hb dX7_loadOf_26 (by decide) (fun c6 => ?_) (fun c6 => ?_)
      · replace h := ifp c6 h
        refine lv_iconst (v := 0) hx hb dX7_loadOf_34 (by decide) ?_
        refine lv_iadd hx hb dX7_loadOf_35 ?_
        refine lv_istore_n (lv' := [(2, .int (v2 + 0)), (0, .ref (q 0)), (1, .int v1), (3, .int v3)]) hx hb dX7_loadOf_36 rfl hl (by decide) rfl (fun ls hl => ?_)
        refine lv_iconst (v := 0) hx hb dX7_loadOf_37 (by decide) ?_
        refine lv_istore (lv' := [(4, .int 0), (2, .int (v2 + 0)), (0, .ref (q 0)), (1, .int v1), (3, .int v3)]) hx hb dX7_loadOf_38 hl (by decide) rfl (fun ls hl => ?_)
        obtain ⟨y29, h30, h⟩ := bd1_some h
        refine wM_loadOf_L40 C N σ v1 v3 y29 (fun H locs ls hP hD hS hl => ?_) N (v2 + 0) 0 _ _ _ h30 hP hD hS (lv_sub hl [2, 3, 1, 4, 0] rfl)
        refine lv_iinc (v := (v3 + 1)) (lv' := [(3, .int (v3 + 1)), (0, .ref (q 0)), (1, .int v1), (2, .int y29)]) hx hb dX7_loadOf_163 hl (k := 3) rfl (by first | rfl | decide) (by decide) rfl (fun ls hl => ?_)
        refine lv_goto (tgt := 11) hx hb dX7_loadOf_166 (by decide) ?_
        exact ih y29 (v3 + 1) _ _ _ h hP hD hS (lv_sub hl [1, 2, 3, 0] rfl)
      · replace h := ifn c6 h
        refine lv_bipush (v := 100) hx hb dX7_loadOf_29 (by decide) ?_
        refine lv_goto (tgt := 35) hx hb dX7_loadOf_31 (by decide) ?_
        refine lv_iadd hx hb dX7_loadOf_35 ?_
        refine lv_istore_n (lv' := [(2, .int (v2 + 100)), (0, .ref (q 0)), (1, .int v1), (3, .int v3)]) hx hb dX7_loadOf_36 rfl hl (by decide) rfl (fun ls hl => ?_)
        refine lv_iconst (v := 0) hx hb dX7_loadOf_37 (by decide) ?_
        refine lv_istore (lv' := [(4, .int 0), (2, .int (v2 + 100)), (0, .ref (q 0)), (1, .int v1), (3, .int v3)]) hx hb dX7_loadOf_38 hl (by decide) rfl (fun ls hl => ?_)
        obtain ⟨y31, h32, h⟩ := bd1_some h
        refine wM_loadOf_L40 C N σ v1 v3 y31 (fun H locs ls hP hD hS hl => ?_) N (v2 + 100) 0 _ _ _ h32 hP hD hS (lv_sub hl [2, 3, 1, 4, 0] rfl)
        refine lv_iinc (v := (v3 + 1)) (lv' := [(3, .int (v3 + 1)), (0, .ref (q 0)), (1, .int v1), (2, .int y31)]) hx hb dX7_loadOf_163 hl (k := 3) rfl (by first | rfl | decide) (by decide) rfl (fun ls hl => ?_)
        refine lv_goto (tgt := 11) hx hb dX7_loadOf_166 (by decide) ?_
        exact ih y31 (v3 + 1) _ _ _ h hP hD hS (lv_sub hl [1, 2, 3, 0] rfl)

def fM_loadOf (N : Nat) (σ : St) (a1 : Int32) : Option Int32 :=
  bd1 (fM_birdiesOf N σ a1) (fun r2 => fM_loadOf_L11 N σ a1 N (10 * r2) 0)
set_option maxHeartbeats 4000000 in
set_option maxRecDepth 100000 in
theorem ctM_loadOf {G : GP} {l : Launch} {q : Nat → Nat} (N : Nat) (σ : St) (a1 : Int32) (r : Int32) (h : fM_loadOf N σ a1 = some r) : CI G l yX7_loadOf cX7_loadOf 7 (some .int) 2 [.ref (q 0), .int a1] (mW G q σ) (mW G q σ) r := by
  refine enterI (own := RX7) (by decide) rfl (Nat.le_of_ble_eq_true rfl) ?_
  intro p e s m args below meth c A C hP hD hS ls hl
  obtain ⟨hx, hb, hml, hown, hts, hK, hZ, hA, hlk, hr⟩ := id C
  have hl : lv_has ls 7 [(0, .ref (q 0)), (1, .int a1)] := hl
  rw [fM_loadOf.eq_1] at h
  refine lv_bipush (v := 10) hx hb dX7_loadOf_0 (by decide) ?_
  refine lv_aload_n hx hb dX7_loadOf_2 rfl (lv_at hl 0 rfl) ?_
  refine lv_iload_n hx hb dX7_loadOf_3 rfl (lv_at hl 1 rfl) ?_
  obtain ⟨r2, h1, h⟩ := bd1_some h
  refine goI C hD hS (runV (As := [.int a1]) (rest := [.int 10]) (w := (mW G q σ)) C lc_RX7_119 (ctM_birdiesOf N σ a1 r2 h1 _) hP hD hS (va_recv C.2.2.2.2.2.1 hP (ci := 7) (q0 := 0) rfl rfl) hl.1 rfl rfl (by decide) (by decide) (Nat.le_of_ble_eq_true rfl) dX7_loadOf_4) (fun H locs hP hD hS => ?_)
  refine lv_imul hx hb dX7_loadOf_7 ?_
  refine lv_istore_n (lv' := [(2, .int (10 * r2)), (0, .ref (q 0)), (1, .int a1)]) hx hb dX7_loadOf_8 rfl hl (by decide) rfl (fun ls hl => ?_)
  refine lv_iconst (v := 0) hx hb dX7_loadOf_9 (by decide) ?_
  refine lv_istore_n (lv' := [(3, .int 0), (2, .int (10 * r2)), (0, .ref (q 0)), (1, .int a1)]) hx hb dX7_loadOf_10 rfl hl (by decide) rfl (fun ls hl => ?_)
  exact wM_loadOf_L11 C N σ a1 r N (10 * r2) 0 _ _ _ h hP hD hS (lv_sub hl [2, 3, 1, 0] rfl)

def fM_load (N : Nat) (σ : St) (a1 : Int32) : Option Int32 :=
  bd1 (fM_isMiddle N a1) (fun r2 => (if r2 = 0 then some (-1) else bd1 (fM_loadOf N σ a1) (fun r5 => some r5)))
set_option maxHeartbeats 4000000 in
set_option maxRecDepth 100000 in
theorem ctM_load {G : GP} {l : Launch} {q : Nat → Nat} (N : Nat) (σ : St) (a1 : Int32) (r : Int32) (h : fM_load N σ a1 = some r) : CI G l yX7_load cX7_load 2 (some .int) 3 [.ref (q 0), .int a1] (mW G q σ) (mW G q σ) r := by
  refine enterI (own := RX7) (by decide) rfl (Nat.le_of_ble_eq_true rfl) ?_
  intro p e s m args below meth c A C hP hD hS ls hl
  obtain ⟨hx, hb, hml, hown, hts, hK, hZ, hA, hlk, hr⟩ := id C
  have hl : lv_has ls 2 [(0, .ref (q 0)), (1, .int a1)] := hl
  rw [fM_load.eq_1] at h
  refine lv_iload_n hx hb dX7_load_0 rfl (lv_at hl 1 rfl) ?_
  obtain ⟨r2, h1, h⟩ := bd1_some h
  refine goI C hD hS (runS (As := [.int a1]) (rest := []) (w := (mW G q σ)) C lc_RX7_79 (ctM_isMiddle (w := (mW G q σ)) N a1 r2 h1 _) hP hD hS hl.1 rfl rfl (by decide) (by decide) (Nat.le_of_ble_eq_true rfl) dX7_load_1) (fun H locs hP hD hS => ?_)
  refine lv_if_eq (tgt := 15) hx hb dX7_load_4 (by decide) (fun c3 => ?_) (fun c3 => ?_)
  · replace h := ifp c3 h
    refine lv_iconst (v := (-1)) hx hb dX7_load_15 (by decide) ?_
    obtain rfl := so1 h
    exact retI C hP hD hS dX7_load_16
  · replace h := ifn c3 h
    refine lv_aload_n hx hb dX7_load_7 rfl (lv_at hl 0 rfl) ?_
    refine lv_iload_n hx hb dX7_load_8 rfl (lv_at hl 1 rfl) ?_
    obtain ⟨r5, h4, h⟩ := bd1_some h
    refine goI C hD hS (runV (As := [.int a1]) (rest := []) (w := (mW G q σ)) C lc_RX7_122 (ctM_loadOf N σ a1 r5 h4 _) hP hD hS (va_recv C.2.2.2.2.2.1 hP (ci := 7) (q0 := 0) rfl rfl) hl.1 rfl rfl (by decide) (by decide) (Nat.le_of_ble_eq_true rfl) dX7_load_9) (fun H locs hP hD hS => ?_)
    refine lv_goto (tgt := 16) hx hb dX7_load_12 (by decide) ?_
    obtain rfl := so1 h
    exact retI C hP hD hS dX7_load_16

def fM_best_L56 (N : Nat) (σ : St) (v1 : Int32) (v2 : Int32) (v3 : Int32) : Nat → Int32 → Int32 → Int32 → Option Int32
  | 0, _, _, _ => none
  | n + 1, v4, v5, v6 => (if v3 ≤ v6 then some v4 else bd1 (fM_loadOf N σ (v1 + (v2 * v6))) (fun r15 => (if v5 ≤ r15 then fM_best_L56 N σ v1 v2 v3 n v4 v5 (v6 + 1) else fM_best_L56 N σ v1 v2 v3 n (v1 + (v2 * v6)) r15 (v6 + 1))))
set_option maxHeartbeats 4000000 in
set_option maxRecDepth 100000 in
theorem wM_best_L56 {q : Nat → Nat} (C : Cx G p s m args meth c cX7_best 8 (some .int) (Cond.code yX7_best cX7_best 8 (some .int)) RX7 A) (N : Nat) (σ : St) (v1 : Int32) (v2 : Int32) (v3 : Int32) (r : Int32) : ∀ (n : Nat) (v4 : Int32) (v5 : Int32) (v6 : Int32) (H : Heap) (locs : List Loc) (ls : Array Slot), fM_best_L56 N σ v1 v2 v3 n v4 v5 v6 = some r → va_P G.1 vwCl (mW G q σ) H → va_D A (mW G q σ) → va_S A s.heap H locs → lv_has ls 8 [(0, .ref (q 0)), (1, .int v1), (2, .int v2), (3, .int v3), (4, .int v4), (5, .int v5), (6, .int v6)] → W p l e (rmD 3) s m args below meth c H locs 0 0 (QI G below args s A (mW G q σ) r) (F0 m 56 ls []) := by
  obtain ⟨hx, hb, hml, hown, hts, hK, hZ, hA, hlk, hr⟩ := id C
  intro n
  induction n with
  | zero =>
    intro v4 v5 v6 H locs ls h
    cases h
  | succ n ih =>
    intro v4 v5 v6 H locs ls h hP hD hS hl
    rw [fM_best_L56.eq_2] at h
    refine lv_iload hx hb dX7_best_56 (lv_at hl 6 rfl) ?_
    refine lv_iload_n hx hb dX7_best_58 rfl (lv_at hl 3 rfl) ?_
    refine lv_icmp_ge (tgt := 99) hx hb dX7_best_59 (by decide) (fun c13 => ?_) (fun c13 => ?_)
    · replace h := ifp c13 h
      refine lv_iload hx hb dX7_best_99 (lv_at hl 4 rfl) ?_
      obtain rfl := so1 h
      exact retI C hP hD hS dX7_best_101
    · replace h := ifn c13 h
      refine lv_aload_n hx hb dX7_best_62 rfl (lv_at hl 0 rfl) ?_
      refine lv_iload_n hx hb dX7_best_63 rfl (lv_at hl 1 rfl) ?_
      refine lv_iload_n hx hb dX7_best_64 rfl (lv_at hl 2 rfl) ?_
      refine lv_iload hx hb dX7_best_65 (lv_at hl 6 rfl) ?_
      refine lv_imul hx hb dX7_best_67 ?_
      refine lv_iadd hx hb dX7_best_68 ?_
      obtain ⟨r15, h14, h⟩ := bd1_some h
      refine goI C hD hS (runV (As := [.int (v1 + (v2 * v6))]) (rest := []) (w := (mW G q σ)) C lc_RX7_122 (ctM_loadOf N σ (v1 + (v2 * v6)) r15 h14 _) hP hD hS (va_recv C.2.2.2.2.2.1 hP (ci := 7) (q0 := 0) rfl rfl) hl.1 rfl rfl (by decide) (by decide) (Nat.le_of_ble_eq_true rfl) dX7_best_69) (fun H locs hP hD hS => ?_)
      refine lv_istore (lv' := [(7, .int r15), (0, .ref (q 0)), (1, .int v1), (2, .int v2), (3, .int v3), (4, .int v4), (5, .int v5), (6, .int v6)]) hx hb dX7_best_72 hl (by decide) rfl (fun ls hl => ?_)
      refine lv_iload hx hb dX7_best_74 (lv_at hl 0 rfl) ?_
      refine lv_iload hx hb dX7_best_76 (lv_at hl 6 rfl) ?_
      refine lv_icmp_ge (tgt := 93) hx hb dX7_best_78 (by decide) (fun c16 => ?_) (fun c16 => ?_)
      · replace h := ifp c16 h
        refine lv_iinc (v := (v6 + 1)) (lv' := [(6, .int (v6 + 1)), (7, .int r15), (0, .ref (q 0)), (1, .int v1), (2, .int v2), (3, .int v3), (4, .int v4), (5, .int v5)]) hx hb dX7_best_93 hl (k := 7) rfl (by first | rfl | decide) (by decide) rfl (fun ls hl => ?_)
        refine lv_goto (tgt := 56) hx hb dX7_best_96 (by decide) ?_
        exact ih v4 v5 (v6 + 1) _ _ _ h hP hD hS (lv_sub hl [2, 3, 4, 5, 6, 7, 0] rfl)
      · replace h := ifn c16 h
        refine lv_iload_n hx hb dX7_best_81 rfl (lv_at hl 2 rfl) ?_
        refine lv_iload_n hx hb dX7_best_82 rfl (lv_at hl 3 rfl) ?_
        refine lv_iload hx hb dX7_best_83 (lv_at hl 7 rfl) ?_
        refine lv_imul hx hb dX7_best_85 ?_
        refine lv_iadd hx hb dX7_best_86 ?_
        refine lv_istore (lv' := [(4, .int (v1 + (v2 * v6))), (7, .int r15), (0, .ref (q 0)), (1, .int v1), (2, .int v2), (3, .int v3), (5, .int v5), (6, .int v6)]) hx hb dX7_best_87 hl (by decide) rfl (fun ls hl => ?_)
        refine lv_iload hx hb dX7_best_89 (lv_at hl 1 rfl) ?_
        refine lv_istore (lv' := [(5, .int r15), (4, .int (v1 + (v2 * v6))), (7, .int r15), (0, .ref (q 0)), (1, .int v1), (2, .int v2), (3, .int v3), (6, .int v6)]) hx hb dX7_best_91 hl (by decide) rfl (fun ls hl => ?_)
        refine lv_iinc (v := (v6 + 1)) (lv' := [(6, .int (v6 + 1)), (5, .int r15), (4, .int (v1 + (v2 * v6))), (7, .int r15), (0, .ref (q 0)), (1, .int v1), (2, .int v2), (3, .int v3)]) hx hb dX7_best_93 hl (k := 7) rfl (by first | rfl | decide) (by decide) rfl (fun ls hl => ?_)
        refine lv_goto (tgt := 56) hx hb dX7_best_96 (by decide) ?_
        exact ih (v1 + (v2 * v6)) r15 (v6 + 1) _ _ _ h hP hD hS (lv_sub hl [4, 5, 6, 7, 2, 1, 0] rfl)

def fM_best (N : Nat) (σ : St) (a1 : Int32) (a2 : Int32) (a3 : Int32) : Option Int32 :=
  bd1 (fM_isMiddle N a1) (fun r2 => (if r2 = 0 then some (-1) else bd1 (fM_within N a2 1 99) (fun r5 => (if r5 = 0 then some (-1) else bd1 (fM_within N a3 1 200) (fun r8 => (if r8 = 0 then some (-1) else (if (a1 + (a2 * (a3 - 1))) ≤ 900 then bd1 (fM_loadOf N σ a1) (fun r12 => fM_best_L56 N σ a1 a2 a3 N a1 r12 1) else some (-1))))))))
set_option maxHeartbeats 4000000 in
set_option maxRecDepth 100000 in
theorem ctM_best {G : GP} {l : Launch} {q : Nat → Nat} (N : Nat) (σ : St) (a1 : Int32) (a2 : Int32) (a3 : Int32) (r : Int32) (h : fM_best N σ a1 a2 a3 = some r) : CI G l yX7_best cX7_best 8 (some .int) 3 [.ref (q 0), .int a1, .int a2, .int a3] (mW G q σ) (mW G q σ) r := by
  refine enterI (own := RX7) (by decide) rfl (Nat.le_of_ble_eq_true rfl) ?_
  intro p e s m args below meth c A C hP hD hS ls hl
  obtain ⟨hx, hb, hml, hown, hts, hK, hZ, hA, hlk, hr⟩ := id C
  have hl : lv_has ls 8 [(0, .ref (q 0)), (1, .int a1), (2, .int a2), (3, .int a3)] := hl
  rw [fM_best.eq_1] at h
  refine lv_iload_n hx hb dX7_best_0 rfl (lv_at hl 1 rfl) ?_
  obtain ⟨r2, h1, h⟩ := bd1_some h
  refine goI C hD hS (runS (As := [.int a1]) (rest := []) (w := (mW G q σ)) C lc_RX7_79 (ctM_isMiddle (w := (mW G q σ)) N a1 r2 h1 _) hP hD hS hl.1 rfl rfl (by decide) (by decide) (Nat.le_of_ble_eq_true rfl) dX7_best_1) (fun H locs hP hD hS => ?_)
  refine lv_if_eq (tgt := 41) hx hb dX7_best_4 (by decide) (fun c3 => ?_) (fun c3 => ?_)
  · replace h := ifp c3 h
    refine lv_iconst (v := (-1)) hx hb dX7_best_41 (by decide) ?_
    obtain rfl := so1 h
    exact retI C hP hD hS dX7_best_42
  · replace h := ifn c3 h
    refine lv_iload_n hx hb dX7_best_7 rfl (lv_at hl 2 rfl) ?_
    refine lv_iconst (v := 1) hx hb dX7_best_8 (by decide) ?_
    refine lv_bipush (v := 99) hx hb dX7_best_9 (by decide) ?_
    obtain ⟨r5, h4, h⟩ := bd1_some h
    refine goI C hD hS (runS (As := [.int a2, .int 1, .int 99]) (rest := []) (w := (mW G q σ)) C lc_RX7_75 (ctM_within (w := (mW G q σ)) N a2 1 99 r5 h4 _) hP hD hS hl.1 rfl rfl (by decide) (by decide) (Nat.le_of_ble_eq_true rfl) dX7_best_11) (fun H locs hP hD hS => ?_)
    refine lv_if_eq (tgt := 41) hx hb dX7_best_14 (by decide) (fun c6 => ?_) (fun c6 => ?_)
    · replace h := ifp c6 h
      refine lv_iconst (v := (-1)) hx hb dX7_best_41 (by decide) ?_
      obtain rfl := so1 h
      exact retI C hP hD hS dX7_best_42
    · replace h := ifn c6 h
      refine lv_iload_n hx hb dX7_best_17 rfl (lv_at hl 3 rfl) ?_
      refine lv_iconst (v := 1) hx hb dX7_best_18 (by decide) ?_
      refine lv_sipush (v := 200) hx hb dX7_best_19 (by decide) ?_
      obtain ⟨r8, h7, h⟩ := bd1_some h
      refine goI C hD hS (runS (As := [.int a3, .int 1, .int 200]) (rest := []) (w := (mW G q σ)) C lc_RX7_75 (ctM_within (w := (mW G q σ)) N a3 1 200 r8 h7 _) hP hD hS hl.1 rfl rfl (by decide) (by decide) (Nat.le_of_ble_eq_true rfl) dX7_best_22) (fun H locs hP hD hS => ?_)
      refine lv_if_eq (tgt := 41) hx hb dX7_best_25 (by decide) (fun c9 => ?_) (fun c9 => ?_)
      · replace h := ifp c9 h
        refine lv_iconst (v := (-1)) hx hb dX7_best_41 (by decide) ?_
        obtain rfl := so1 h
        exact retI C hP hD hS dX7_best_42
      · replace h := ifn c9 h
        refine lv_iload_n hx hb dX7_best_28 rfl (lv_at hl 1 rfl) ?_
        refine lv_iload_n hx hb dX7_best_29 rfl (lv_at hl 2 rfl) ?_
        refine lv_iload_n hx hb dX7_best_30 rfl (lv_at hl 3 rfl) ?_
        refine lv_iconst (v := 1) hx hb dX7_best_31 (by decide) ?_
        refine lv_isub hx hb dX7_best_32 ?_
        refine lv_imul hx hb dX7_best_33 ?_
        refine lv_iadd hx hb dX7_best_34 ?_
        refine lv_sipush (v := 900) hx hb dX7_best_35 (by decide) ?_
        refine lv_icmp_le (tgt := 43) hx hb dX7_best_38 (by decide) (fun c10 => ?_) (fun c10 => ?_)
        · replace h := ifp c10 h
          refine lv_iload_n hx hb dX7_best_43 rfl (lv_at hl 1 rfl) ?_
          refine lv_istore (lv' := [(4, .int a1), (0, .ref (q 0)), (1, .int a1), (2, .int a2), (3, .int a3)]) hx hb dX7_best_44 hl (by decide) rfl (fun ls hl => ?_)
          refine lv_aload_n hx hb dX7_best_46 rfl (lv_at hl 1 rfl) ?_
          refine lv_iload_n hx hb dX7_best_47 rfl (lv_at hl 2 rfl) ?_
          obtain ⟨r12, h11, h⟩ := bd1_some h
          refine goI C hD hS (runV (As := [.int a1]) (rest := []) (w := (mW G q σ)) C lc_RX7_122 (ctM_loadOf N σ a1 r12 h11 _) hP hD hS (va_recv C.2.2.2.2.2.1 hP (ci := 7) (q0 := 0) rfl rfl) hl.1 rfl rfl (by decide) (by decide) (Nat.le_of_ble_eq_true rfl) dX7_best_48) (fun H locs hP hD hS => ?_)
          refine lv_istore (lv' := [(5, .int r12), (4, .int a1), (0, .ref (q 0)), (1, .int a1), (2, .int a2), (3, .int a3)]) hx hb dX7_best_51 hl (by decide) rfl (fun ls hl => ?_)
          refine lv_iconst (v := 1) hx hb dX7_best_53 (by decide) ?_
          refine lv_istore (lv' := [(6, .int 1), (5, .int r12), (4, .int a1), (0, .ref (q 0)), (1, .int a1), (2, .int a2), (3, .int a3)]) hx hb dX7_best_54 hl (by decide) rfl (fun ls hl => ?_)
          exact wM_best_L56 C N σ a1 a2 a3 r N a1 r12 1 _ _ _ h hP hD hS (lv_sub hl [3, 4, 5, 6, 2, 1, 0] rfl)
        · replace h := ifn c10 h
          refine lv_iconst (v := (-1)) hx hb dX7_best_41 (by decide) ?_
          obtain rfl := so1 h
          exact retI C hP hD hS dX7_best_42

def fM_isPlace (N : Nat) (a1 : Int32) : Option Int32 :=
  bd1 (fM_within N a1 0 100) (fun r2 => bz r2 (some r2))
set_option maxHeartbeats 4000000 in
set_option maxRecDepth 100000 in
theorem ctM_isPlace {G : GP} {l : Launch} {w : va_W} (N : Nat) (a1 : Int32) (r : Int32) (h : fM_isPlace N a1 = some r) : CI G l yX7_isPlace cX7_isPlace 1 (some .boolean) 1 [.int a1] w w r := by
  refine enterI (own := RX7) (by decide) rfl (Nat.le_of_ble_eq_true rfl) ?_
  intro p e s m args below meth c A C hP hD hS ls hl
  obtain ⟨hx, hb, hml, hown, hts, hK, hZ, hA, hlk, hr⟩ := id C
  have hl : lv_has ls 1 [(0, .int a1)] := hl
  rw [fM_isPlace.eq_1] at h
  refine lv_iload_n hx hb dX7_isPlace_0 rfl (lv_at hl 0 rfl) ?_
  refine lv_iconst (v := 0) hx hb dX7_isPlace_1 (by decide) ?_
  refine lv_bipush (v := 100) hx hb dX7_isPlace_2 (by decide) ?_
  obtain ⟨r2, h1, h⟩ := bd1_some h
  refine goI C hD hS (runS (As := [.int a1, .int 0, .int 100]) (rest := []) (w := w) C lc_RX7_75 (ctM_within (w := w) N a1 0 100 r2 h1 _) hP hD hS hl.1 rfl rfl (by decide) (by decide) (Nat.le_of_ble_eq_true rfl) dX7_isPlace_4) (fun H locs hP hD hS => ?_)
  obtain ⟨b3, h⟩ := bz_some h
  obtain rfl := so1 h
  exact retZ C hP hD hS b3 dX7_isPlace_7

def fM_gang (N : Nat) (σ : St) (a1 : Int32) (a2 : Int32) : Option (Int32 × St) :=
  bd1 (fM_within N a1 10 999) (fun r2 => (if r2 = 0 then some ((-1), σ) else bd1 (fM_within N a2 10 999) (fun r5 => (if r5 = 0 then some ((-1), σ) else some (1, (s1 (s1 σ 5 a1) 6 a2))))))
set_option maxHeartbeats 4000000 in
set_option maxRecDepth 100000 in
theorem ctM_gang {G : GP} {l : Launch} {q : Nat → Nat} (N : Nat) (σ σ' : St) (a1 : Int32) (a2 : Int32) (r : Int32) (h : fM_gang N σ a1 a2 = some (r, σ')) : CI G l yX7_gang cX7_gang 3 (some .int) 1 [.ref (q 0), .int a1, .int a2] (mW G q σ) (mW G q (σ')) r := by
  refine enterI (own := RX7) (by decide) rfl (Nat.le_of_ble_eq_true rfl) ?_
  intro p e s m args below meth c A C hP hD hS ls hl
  obtain ⟨hx, hb, hml, hown, hts, hK, hZ, hA, hlk, hr⟩ := id C
  have hl : lv_has ls 3 [(0, .ref (q 0)), (1, .int a1), (2, .int a2)] := hl
  rw [fM_gang.eq_1] at h
  refine lv_iload_n hx hb dX7_gang_0 rfl (lv_at hl 1 rfl) ?_
  refine lv_bipush (v := 10) hx hb dX7_gang_1 (by decide) ?_
  refine lv_sipush (v := 999) hx hb dX7_gang_3 (by decide) ?_
  obtain ⟨r2, h1, h⟩ := bd1_some h
  refine goI C hD hS (runS (As := [.int a1, .int 10, .int 999]) (rest := []) (w := (mW G q σ)) C lc_RX7_75 (ctM_within (w := (mW G q σ)) N a1 10 999 r2 h1 _) hP hD hS hl.1 rfl rfl (by decide) (by decide) (Nat.le_of_ble_eq_true rfl) dX7_gang_6) (fun H locs hP hD hS => ?_)
  refine lv_if_eq (tgt := 24) hx hb dX7_gang_9 (by decide) (fun c3 => ?_) (fun c3 => ?_)
  · replace h := ifp c3 h
    refine lv_iconst (v := (-1)) hx hb dX7_gang_24 (by decide) ?_
    obtain ⟨rfl, rfl⟩ := so2 h
    exact retI C hP hD hS dX7_gang_25
  · replace h := ifn c3 h
    refine lv_iload_n hx hb dX7_gang_12 rfl (lv_at hl 2 rfl) ?_
    refine lv_bipush (v := 10) hx hb dX7_gang_13 (by decide) ?_
    refine lv_sipush (v := 999) hx hb dX7_gang_15 (by decide) ?_
    obtain ⟨r5, h4, h⟩ := bd1_some h
    refine goI C hD hS (runS (As := [.int a2, .int 10, .int 999]) (rest := []) (w := (mW G q σ)) C lc_RX7_75 (ctM_within (w := (mW G q σ)) N a2 10 999 r5 h4 _) hP hD hS hl.1 rfl rfl (by decide) (by decide) (Nat.le_of_ble_eq_true rfl) dX7_gang_18) (fun H locs hP hD hS => ?_)
    refine lv_if_ne (tgt := 26) hx hb dX7_gang_21 (by decide) (fun c6 => ?_) (fun c6 => ?_)
    · replace h := ifn c6 h
      refine lv_aload_n hx hb dX7_gang_26 rfl (lv_at hl 0 rfl) ?_
      refine lv_iload_n hx hb dX7_gang_27 rfl (lv_at hl 1 rfl) ?_
      refine pf_RX7_29 C hP hD hS dX7_gang_28 (fun H locs hP hD hS => ?_)
      refine lv_aload_n hx hb dX7_gang_31 rfl (lv_at hl 0 rfl) ?_
      refine lv_iload_n hx hb dX7_gang_32 rfl (lv_at hl 2 rfl) ?_
      refine pf_RX7_32 C hP hD hS dX7_gang_33 (fun H locs hP hD hS => ?_)
      refine lv_iconst (v := 1) hx hb dX7_gang_36 (by decide) ?_
      obtain ⟨rfl, rfl⟩ := so2 h
      exact retI C hP hD hS dX7_gang_37
    · replace h := ifp c6 h
      refine lv_iconst (v := (-1)) hx hb dX7_gang_24 (by decide) ?_
      obtain ⟨rfl, rfl⟩ := so2 h
      exact retI C hP hD hS dX7_gang_25

def fM_isPart (N : Nat) (a1 : Int32) (a2 : Int32) : Option Int32 :=
  bd1 (fM_within N a1 0 1) (fun r2 => (if r2 = 0 then bd1 (fM_within N a1 2 4) (fun r5 => (if r5 = 0 then some 0 else bd1 (fM_within N a2 1 9999) (fun r8 => (if r8 = 0 then some 0 else some 1)))) else bd1 (fM_within N a2 0 99) (fun r11 => (if r11 = 0 then bd1 (fM_within N a1 2 4) (fun r14 => (if r14 = 0 then some 0 else bd1 (fM_within N a2 1 9999) (fun r17 => (if r17 = 0 then some 0 else some 1)))) else some 1))))
set_option maxHeartbeats 4000000 in
set_option maxRecDepth 100000 in
theorem ctM_isPart {G : GP} {l : Launch} {w : va_W} (N : Nat) (a1 : Int32) (a2 : Int32) (r : Int32) (h : fM_isPart N a1 a2 = some r) : CI G l yX7_isPart cX7_isPart 2 (some .boolean) 1 [.int a1, .int a2] w w r := by
  refine enterI (own := RX7) (by decide) rfl (Nat.le_of_ble_eq_true rfl) ?_
  intro p e s m args below meth c A C hP hD hS ls hl
  obtain ⟨hx, hb, hml, hown, hts, hK, hZ, hA, hlk, hr⟩ := id C
  have hl : lv_has ls 2 [(0, .int a1), (1, .int a2)] := hl
  rw [fM_isPart.eq_1] at h
  refine lv_iload_n hx hb dX7_isPart_0 rfl (lv_at hl 0 rfl) ?_
  refine lv_iconst (v := 0) hx hb dX7_isPart_1 (by decide) ?_
  refine lv_iconst (v := 1) hx hb dX7_isPart_2 (by decide) ?_
  obtain ⟨r2, h1, h⟩ := bd1_some h
  refine goI C hD hS (runS (As := [.int a1, .int 0, .int 1]) (rest := []) (w := w) C lc_RX7_75 (ctM_within (w := w) N a1 0 1 r2 h1 _) hP hD hS hl.1 rfl rfl (by decide) (by decide) (Nat.le_of_ble_eq_true rfl) dX7_isPart_3) (fun H locs hP hD hS => ?_)
  refine lv_if_eq (tgt := 19) hx hb dX7_isPart_6 (by decide) (fun c3 => ?_) (fun c3 => ?_)
  · replace h := ifp c3 h
    refine lv_iload_n hx hb dX7_isPart_19 rfl (lv_at hl 0 rfl) ?_
    refine lv_iconst (v := 2) hx hb dX7_isPart_20 (by decide) ?_
    refine lv_iconst (v := 4) hx hb dX7_isPart_21 (by decide) ?_
    obtain ⟨r5, h4, h⟩ := bd1_some h
    refine goI C hD hS (runS (As := [.int a1, .int 2, .int 4]) (rest := []) (w := w) C lc_RX7_75 (ctM_within (w := w) N a1 2 4 r5 h4 _) hP hD hS hl.1 rfl rfl (by decide) (by decide) (Nat.le_of_ble_eq_true rfl) dX7_isPart_22) (fun H locs hP hD hS => ?_)
    refine lv_if_eq (tgt := 43) hx hb dX7_isPart_25 (by decide) (fun c6 => ?_) (fun c6 => ?_)
    · replace h := ifp c6 h
      refine lv_iconst (v := 0) hx hb dX7_isPart_43 (by decide) ?_
      obtain rfl := so1 h
      exact retZ C hP hD hS (by decide) dX7_isPart_44
    · replace h := ifn c6 h
      refine lv_iload_n hx hb dX7_isPart_28 rfl (lv_at hl 1 rfl) ?_
      refine lv_iconst (v := 1) hx hb dX7_isPart_29 (by decide) ?_
      refine lv_sipush (v := 9999) hx hb dX7_isPart_30 (by decide) ?_
      obtain ⟨r8, h7, h⟩ := bd1_some h
      refine goI C hD hS (runS (As := [.int a2, .int 1, .int 9999]) (rest := []) (w := w) C lc_RX7_75 (ctM_within (w := w) N a2 1 9999 r8 h7 _) hP hD hS hl.1 rfl rfl (by decide) (by decide) (Nat.le_of_ble_eq_true rfl) dX7_isPart_33) (fun H locs hP hD hS => ?_)
      refine lv_if_eq (tgt := 43) hx hb dX7_isPart_36 (by decide) (fun c9 => ?_) (fun c9 => ?_)
      · replace h := ifp c9 h
        refine lv_iconst (v := 0) hx hb dX7_isPart_43 (by decide) ?_
        obtain rfl := so1 h
        exact retZ C hP hD hS (by decide) dX7_isPart_44
      · replace h := ifn c9 h
        refine lv_iconst (v := 1) hx hb dX7_isPart_39 (by decide) ?_
        refine lv_goto (tgt := 44) hx hb dX7_isPart_40 (by decide) ?_
        obtain rfl := so1 h
        exact retZ C hP hD hS (by decide) dX7_isPart_44
  · replace h := ifn c3 h
    refine lv_iload_n hx hb dX7_isPart_9 rfl (lv_at hl 1 rfl) ?_
    refine lv_iconst (v := 0) hx hb dX7_isPart_10 (by decide) ?_
    refine lv_bipush (v := 99) hx hb dX7_isPart_11 (by decide) ?_
    obtain ⟨r11, h10, h⟩ := bd1_some h
    refine goI C hD hS (runS (As := [.int a2, .int 0, .int 99]) (rest := []) (w := w) C lc_RX7_75 (ctM_within (w := w) N a2 0 99 r11 h10 _) hP hD hS hl.1 rfl rfl (by decide) (by decide) (Nat.le_of_ble_eq_true rfl) dX7_isPart_13) (fun H locs hP hD hS => ?_)
    refine lv_if_ne (tgt := 39) hx hb dX7_isPart_16 (by decide) (fun c12 => ?_) (fun c12 => ?_)
    · replace h := ifn c12 h
      refine lv_iconst (v := 1) hx hb dX7_isPart_39 (by decide) ?_
      refine lv_goto (tgt := 44) hx hb dX7_isPart_40 (by decide) ?_
      obtain rfl := so1 h
      exact retZ C hP hD hS (by decide) dX7_isPart_44
    · replace h := ifp c12 h
      refine lv_iload_n hx hb dX7_isPart_19 rfl (lv_at hl 0 rfl) ?_
      refine lv_iconst (v := 2) hx hb dX7_isPart_20 (by decide) ?_
      refine lv_iconst (v := 4) hx hb dX7_isPart_21 (by decide) ?_
      obtain ⟨r14, h13, h⟩ := bd1_some h
      refine goI C hD hS (runS (As := [.int a1, .int 2, .int 4]) (rest := []) (w := w) C lc_RX7_75 (ctM_within (w := w) N a1 2 4 r14 h13 _) hP hD hS hl.1 rfl rfl (by decide) (by decide) (Nat.le_of_ble_eq_true rfl) dX7_isPart_22) (fun H locs hP hD hS => ?_)
      refine lv_if_eq (tgt := 43) hx hb dX7_isPart_25 (by decide) (fun c15 => ?_) (fun c15 => ?_)
      · replace h := ifp c15 h
        refine lv_iconst (v := 0) hx hb dX7_isPart_43 (by decide) ?_
        obtain rfl := so1 h
        exact retZ C hP hD hS (by decide) dX7_isPart_44
      · replace h := ifn c15 h
        refine lv_iload_n hx hb dX7_isPart_28 rfl (lv_at hl 1 rfl) ?_
        refine lv_iconst (v := 1) hx hb dX7_isPart_29 (by decide) ?_
        refine lv_sipush (v := 9999) hx hb dX7_isPart_30 (by decide) ?_
        obtain ⟨r17, h16, h⟩ := bd1_some h
        refine goI C hD hS (runS (As := [.int a2, .int 1, .int 9999]) (rest := []) (w := w) C lc_RX7_75 (ctM_within (w := w) N a2 1 9999 r17 h16 _) hP hD hS hl.1 rfl rfl (by decide) (by decide) (Nat.le_of_ble_eq_true rfl) dX7_isPart_33) (fun H locs hP hD hS => ?_)
        refine lv_if_eq (tgt := 43) hx hb dX7_isPart_36 (by decide) (fun c18 => ?_) (fun c18 => ?_)
        · replace h := ifp c18 h
          refine lv_iconst (v := 0) hx hb dX7_isPart_43 (by decide) ?_
          obtain rfl := so1 h
          exact retZ C hP hD hS (by decide) dX7_isPart_44
        · replace h := ifn c18 h
          refine lv_iconst (v := 1) hx hb dX7_isPart_39 (by decide) ?_
          refine lv_goto (tgt := 44) hx hb dX7_isPart_40 (by decide) ?_
          obtain rfl := so1 h
          exact retZ C hP hD hS (by decide) dX7_isPart_44

def fM_part (N : Nat) (σ : St) (a1 : Int32) (a2 : Int32) : Option (Int32 × St) :=
  bd1 (fM_isPart N a1 a2) (fun r2 => (if r2 = 0 then some ((-1), σ) else gi a1 5 (gi a1 5 (some ((σ.2 2 a1.toNatClampNeg), (sA σ 2 a1.toNatClampNeg a2))))))
set_option maxHeartbeats 4000000 in
set_option maxRecDepth 100000 in
theorem ctM_part {G : GP} {l : Launch} {q : Nat → Nat} (N : Nat) (σ σ' : St) (a1 : Int32) (a2 : Int32) (r : Int32) (h : fM_part N σ a1 a2 = some (r, σ')) : CI G l yX7_part cX7_part 4 (some .int) 2 [.ref (q 0), .int a1, .int a2] (mW G q σ) (mW G q (σ')) r := by
  refine enterI (own := RX7) (by decide) rfl (Nat.le_of_ble_eq_true rfl) ?_
  intro p e s m args below meth c A C hP hD hS ls hl
  obtain ⟨hx, hb, hml, hown, hts, hK, hZ, hA, hlk, hr⟩ := id C
  have hl : lv_has ls 4 [(0, .ref (q 0)), (1, .int a1), (2, .int a2)] := hl
  rw [fM_part.eq_1] at h
  refine lv_iload_n hx hb dX7_part_0 rfl (lv_at hl 1 rfl) ?_
  refine lv_iload_n hx hb dX7_part_1 rfl (lv_at hl 2 rfl) ?_
  obtain ⟨r2, h1, h⟩ := bd1_some h
  refine goI C hD hS (runS (As := [.int a1, .int a2]) (rest := []) (w := (mW G q σ)) C lc_RX7_125 (ctM_isPart (w := (mW G q σ)) N a1 a2 r2 h1 _) hP hD hS hl.1 rfl rfl (by decide) (by decide) (Nat.le_of_ble_eq_true rfl) dX7_part_2) (fun H locs hP hD hS => ?_)
  refine lv_if_ne (tgt := 10) hx hb dX7_part_5 (by decide) (fun c3 => ?_) (fun c3 => ?_)
  · replace h := ifn c3 h
    refine lv_aload_n hx hb dX7_part_10 rfl (lv_at hl 0 rfl) ?_
    refine gf_RX7_35 C hP dX7_part_11 ?_
    refine lv_iload_n hx hb dX7_part_14 rfl (lv_at hl 1 rfl) ?_
    obtain ⟨i4, h⟩ := gi_some h
    refine ldM_2 C hP i4 dX7_part_15 ?_
    refine lv_istore_n (lv' := [(3, .int (σ.2 2 a1.toNatClampNeg)), (0, .ref (q 0)), (1, .int a1), (2, .int a2)]) hx hb dX7_part_16 rfl hl (by decide) rfl (fun ls hl => ?_)
    refine lv_aload_n hx hb dX7_part_17 rfl (lv_at hl 1 rfl) ?_
    refine gf_RX7_35 C hP dX7_part_18 ?_
    refine lv_iload_n hx hb dX7_part_21 rfl (lv_at hl 2 rfl) ?_
    refine lv_iload_n hx hb dX7_part_22 rfl (lv_at hl 3 rfl) ?_
    obtain ⟨i5, h⟩ := gi_some h
    refine stM_2 C hP hD hS i5 dX7_part_23 (fun H locs hP hD hS => ?_)
    refine lv_iload_n hx hb dX7_part_24 rfl (lv_at hl 0 rfl) ?_
    obtain ⟨rfl, rfl⟩ := so2 h
    exact retI C hP hD hS dX7_part_25
  · replace h := ifp c3 h
    refine lv_iconst (v := (-1)) hx hb dX7_part_8 (by decide) ?_
    obtain ⟨rfl, rfl⟩ := so2 h
    exact retI C hP hD hS dX7_part_9

def fM_gangAt (N : Nat) (σ : St) (a1 : Int32) : Option Int32 :=
  some ((σ.1 5) + ((((σ.1 6) - (σ.1 5)) * a1) / 100))
set_option maxHeartbeats 4000000 in
set_option maxRecDepth 100000 in
theorem ctM_gangAt {G : GP} {l : Launch} {q : Nat → Nat} (N : Nat) (σ : St) (a1 : Int32) (r : Int32) (h : fM_gangAt N σ a1 = some r) : CI G l yX7_gangAt cX7_gangAt 2 (some .int) 0 [.ref (q 0), .int a1] (mW G q σ) (mW G q σ) r := by
  refine enterI (own := RX7) (by decide) rfl (Nat.le_of_ble_eq_true rfl) ?_
  intro p e s m args below meth c A C hP hD hS ls hl
  obtain ⟨hx, hb, hml, hown, hts, hK, hZ, hA, hlk, hr⟩ := id C
  have hl : lv_has ls 2 [(0, .ref (q 0)), (1, .int a1)] := hl
  rw [fM_gangAt.eq_1] at h
  refine lv_aload_n hx hb dX7_gangAt_0 rfl (lv_at hl 0 rfl) ?_
  refine gf_RX7_29 C hP dX7_gangAt_1 ?_
  refine lv_aload_n hx hb dX7_gangAt_4 rfl (lv_at hl 0 rfl) ?_
  refine gf_RX7_32 C hP dX7_gangAt_5 ?_
  refine lv_aload_n hx hb dX7_gangAt_8 rfl (lv_at hl 0 rfl) ?_
  refine gf_RX7_29 C hP dX7_gangAt_9 ?_
  refine lv_isub hx hb dX7_gangAt_12 ?_
  refine lv_iload_n hx hb dX7_gangAt_13 rfl (lv_at hl 1 rfl) ?_
  refine lv_imul hx hb dX7_gangAt_14 ?_
  refine lv_bipush (v := 100) hx hb dX7_gangAt_15 (by decide) ?_
  refine lv_idiv hx hb dX7_gangAt_17 (by decide) ?_
  refine lv_iadd hx hb dX7_gangAt_18 ?_
  obtain rfl := so1 h
  exact retI C hP hD hS dX7_gangAt_19

def fM_root_L7 (N : Nat) (v0 : Int64) : Nat → Int64 → Int64 → Option Int32
  | 0, _, _ => none
  | n + 1, v2, v4 => (if 0 ≤ (lg_cmp v2 v4) then some ((v2 : Int64).toInt32) else (if 0 < (lg_cmp ((((v2 + v4) + 1) / 2) * (((v2 + v4) + 1) / 2)) v0) then fM_root_L7 N v0 n v2 ((((v2 + v4) + 1) / 2) - 1) else fM_root_L7 N v0 n (((v2 + v4) + 1) / 2) v4))
set_option maxHeartbeats 4000000 in
set_option maxRecDepth 100000 in
theorem wM_root_L7 {w : va_W} (C : Cx G p s m args meth c cX7_root 8 (some .int) (Cond.code yX7_root cX7_root 8 (some .int)) RX7 A) (N : Nat) (v0 : Int64) (r : Int32) : ∀ (n : Nat) (v2 : Int64) (v4 : Int64) (H : Heap) (locs : List Loc) (ls : Array Slot), fM_root_L7 N v0 n v2 v4 = some r → va_P G.1 vwCl w H → va_D A w → va_S A s.heap H locs → lv_has ls 8 [(0, .long v0), (2, .long v2), (4, .long v4)] → W p l e (rmD 0) s m args below meth c H locs 0 0 (QI G below args s A w r) (F0 m 7 ls []) := by
  obtain ⟨hx, hb, hml, hown, hts, hK, hZ, hA, hlk, hr⟩ := id C
  intro n
  induction n with
  | zero =>
    intro v2 v4 H locs ls h
    cases h
  | succ n ih =>
    intro v2 v4 H locs ls h hP hD hS hl
    rw [fM_root_L7.eq_2] at h
    refine lv_lload_n hx hb dX7_root_7 rfl (lv_at hl 1 rfl) ?_
    refine lv_lload hx hb dX7_root_8 (lv_at hl 2 rfl) ?_
    refine W.lcmp hx hb dX7_root_10 ?_
    refine lv_if_ge (tgt := 51) hx hb dX7_root_11 (by decide) (fun c1 => ?_) (fun c1 => ?_)
    · replace h := ifp c1 h
      refine lv_lload_n hx hb dX7_root_51 rfl (lv_at hl 1 rfl) ?_
      refine lv_l2i hx hb dX7_root_52 rfl ?_
      obtain rfl := so1 h
      exact retI C hP hD hS dX7_root_53
    · replace h := ifn c1 h
      refine lv_lload_n hx hb dX7_root_14 rfl (lv_at hl 1 rfl) ?_
      refine lv_lload hx hb dX7_root_15 (lv_at hl 2 rfl) ?_
      refine lv_ladd hx hb dX7_root_17 ?_
      refine lv_lconst (v := 1) hx hb dX7_root_18 (by decide) ?_
      refine lv_ladd hx hb dX7_root_19 ?_
      refine lv_ldc2 hx hb hown (hts _ (List.mem_cons_of_mem _ kc_RX7_131)) dX7_root_20 ?_
      refine lv_ldiv hx hb dX7_root_23 (by decide) ?_
      refine lv_lstore (lv' := [(6, .long (((v2 + v4) + 1) / 2)), (0, .long v0), (2, .long v2), (4, .long v4)]) hx hb dX7_root_24 hl (by decide) rfl (fun ls hl => ?_)
      refine lv_lload hx hb dX7_root_26 (lv_at hl 0 rfl) ?_
      refine lv_lload hx hb dX7_root_28 (lv_at hl 0 rfl) ?_
      refine lv_lmul hx hb dX7_root_30 ?_
      refine lv_lload_n hx hb dX7_root_31 rfl (lv_at hl 1 rfl) ?_
      refine W.lcmp hx hb dX7_root_32 ?_
      refine lv_if_gt (tgt := 42) hx hb dX7_root_33 (by decide) (fun c2 => ?_) (fun c2 => ?_)
      · replace h := ifp c2 h
        refine lv_lload hx hb dX7_root_42 (lv_at hl 0 rfl) ?_
        refine lv_lconst (v := 1) hx hb dX7_root_44 (by decide) ?_
        refine lv_lsub hx hb dX7_root_45 ?_
        refine lv_lstore (lv' := [(4, .long ((((v2 + v4) + 1) / 2) - 1)), (6, .long (((v2 + v4) + 1) / 2)), (0, .long v0), (2, .long v2)]) hx hb dX7_root_46 hl (by decide) rfl (fun ls hl => ?_)
        refine lv_goto (tgt := 7) hx hb dX7_root_48 (by decide) ?_
        exact ih v2 ((((v2 + v4) + 1) / 2) - 1) _ _ _ h hP hD hS (lv_sub hl [2, 3, 0] rfl)
      · replace h := ifn c2 h
        refine lv_lload hx hb dX7_root_36 (lv_at hl 0 rfl) ?_
        refine lv_lstore_n (lv' := [(2, .long (((v2 + v4) + 1) / 2)), (6, .long (((v2 + v4) + 1) / 2)), (0, .long v0), (4, .long v4)]) hx hb dX7_root_38 rfl hl (by decide) rfl (fun ls hl => ?_)
        refine lv_goto (tgt := 48) hx hb dX7_root_39 (by decide) ?_
        refine lv_goto (tgt := 7) hx hb dX7_root_48 (by decide) ?_
        exact ih (((v2 + v4) + 1) / 2) v4 _ _ _ h hP hD hS (lv_sub hl [2, 0, 3] rfl)

def fM_root (N : Nat) (a1 : Int64) : Option Int32 :=
  fM_root_L7 N a1 N 0 200000
set_option maxHeartbeats 4000000 in
set_option maxRecDepth 100000 in
theorem ctM_root {G : GP} {l : Launch} {w : va_W} (N : Nat) (a1 : Int64) (r : Int32) (h : fM_root N a1 = some r) : CI G l yX7_root cX7_root 8 (some .int) 0 [.long a1] w w r := by
  refine enterI (own := RX7) (by decide) rfl (Nat.le_of_ble_eq_true rfl) ?_
  intro p e s m args below meth c A C hP hD hS ls hl
  obtain ⟨hx, hb, hml, hown, hts, hK, hZ, hA, hlk, hr⟩ := id C
  have hl : lv_has ls 8 [(0, .long a1)] := hl
  rw [fM_root.eq_1] at h
  refine lv_lconst (v := 0) hx hb dX7_root_0 (by decide) ?_
  refine lv_lstore_n (lv' := [(2, .long 0), (0, .long a1)]) hx hb dX7_root_1 rfl hl (by decide) rfl (fun ls hl => ?_)
  refine lv_ldc2 hx hb hown (hts _ (List.mem_cons_of_mem _ kc_RX7_129)) dX7_root_2 ?_
  refine lv_lstore (lv' := [(4, .long 200000), (2, .long 0), (0, .long a1)]) hx hb dX7_root_5 hl (by decide) rfl (fun ls hl => ?_)
  exact wM_root_L7 C N a1 r N 0 200000 _ _ _ h hP hD hS (lv_sub hl [2, 1, 0] rfl)

def fM_tunedTo (N : Nat) (a1 : Int32) (a2 : Int32) : Option Int32 :=
  nzl ((a1 : Int32).toInt64 * (a2 : Int32).toInt64) (bd1 (fM_root N (25330296000 / ((a1 : Int32).toInt64 * (a2 : Int32).toInt64))) (fun r3 => some r3))
set_option maxHeartbeats 4000000 in
set_option maxRecDepth 100000 in
theorem ctM_tunedTo {G : GP} {l : Launch} {w : va_W} (N : Nat) (a1 : Int32) (a2 : Int32) (r : Int32) (h : fM_tunedTo N a1 a2 = some r) : CI G l yX7_tunedTo cX7_tunedTo 2 (some .int) 1 [.int a1, .int a2] w w r := by
  refine enterI (own := RX7) (by decide) rfl (Nat.le_of_ble_eq_true rfl) ?_
  intro p e s m args below meth c A C hP hD hS ls hl
  obtain ⟨hx, hb, hml, hown, hts, hK, hZ, hA, hlk, hr⟩ := id C
  have hl : lv_has ls 2 [(0, .int a1), (1, .int a2)] := hl
  rw [fM_tunedTo.eq_1] at h
  refine lv_ldc2 hx hb hown (hts _ (List.mem_cons_of_mem _ kc_RX7_133)) dX7_tunedTo_0 ?_
  refine lv_iload_n hx hb dX7_tunedTo_3 rfl (lv_at hl 0 rfl) ?_
  refine lv_i2l hx hb dX7_tunedTo_4 rfl ?_
  refine lv_iload_n hx hb dX7_tunedTo_5 rfl (lv_at hl 1 rfl) ?_
  refine lv_i2l hx hb dX7_tunedTo_6 rfl ?_
  refine lv_lmul hx hb dX7_tunedTo_7 ?_
  obtain ⟨n1, h⟩ := nzl_some h
  refine lv_ldiv hx hb dX7_tunedTo_8 n1 ?_
  obtain ⟨r3, h2, h⟩ := bd1_some h
  refine goI C hD hS (runS (As := [.long (25330296000 / ((a1 : Int32).toInt64 * (a2 : Int32).toInt64))]) (rest := []) (w := w) C lc_RX7_135 (ctM_root (w := w) N (25330296000 / ((a1 : Int32).toInt64 * (a2 : Int32).toInt64)) r3 h2 _) hP hD hS hl.1 rfl rfl (by decide) (by decide) (Nat.le_of_ble_eq_true rfl) dX7_tunedTo_9) (fun H locs hP hD hS => ?_)
  obtain rfl := so1 h
  exact retI C hP hD hS dX7_tunedTo_12

def fM_signalAt (N : Nat) (σ : St) (a1 : Int32) (a2 : Int32) (a3 : Int32) : Option Int32 :=
  bd1 (fM_gangAt N σ a1) (fun r2 => bd1 (fM_tunedTo N a3 (r2 + a2)) (fun r4 => some r4))
set_option maxHeartbeats 4000000 in
set_option maxRecDepth 100000 in
theorem ctM_signalAt {G : GP} {l : Launch} {q : Nat → Nat} (N : Nat) (σ : St) (a1 : Int32) (a2 : Int32) (a3 : Int32) (r : Int32) (h : fM_signalAt N σ a1 a2 a3 = some r) : CI G l yX7_signalAt cX7_signalAt 4 (some .int) 2 [.ref (q 0), .int a1, .int a2, .int a3] (mW G q σ) (mW G q σ) r := by
  refine enterI (own := RX7) (by decide) rfl (Nat.le_of_ble_eq_true rfl) ?_
  intro p e s m args below meth c A C hP hD hS ls hl
  obtain ⟨hx, hb, hml, hown, hts, hK, hZ, hA, hlk, hr⟩ := id C
  have hl : lv_has ls 4 [(0, .ref (q 0)), (1, .int a1), (2, .int a2), (3, .int a3)] := hl
  rw [fM_signalAt.eq_1] at h
  refine lv_iload_n hx hb dX7_signalAt_0 rfl (lv_at hl 3 rfl) ?_
  refine lv_aload_n hx hb dX7_signalAt_1 rfl (lv_at hl 0 rfl) ?_
  refine lv_iload_n hx hb dX7_signalAt_2 rfl (lv_at hl 1 rfl) ?_
  obtain ⟨r2, h1, h⟩ := bd1_some h
  refine goI C hD hS (runV (As := [.int a1]) (rest := [.int a3]) (w := (mW G q σ)) C lc_RX7_139 (ctM_gangAt N σ a1 r2 h1 _) hP hD hS (va_recv C.2.2.2.2.2.1 hP (ci := 7) (q0 := 0) rfl rfl) hl.1 rfl rfl (by decide) (by decide) (Nat.le_of_ble_eq_true rfl) dX7_signalAt_3) (fun H locs hP hD hS => ?_)
  refine lv_iload_n hx hb dX7_signalAt_6 rfl (lv_at hl 2 rfl) ?_
  refine lv_iadd hx hb dX7_signalAt_7 ?_
  obtain ⟨r4, h3, h⟩ := bd1_some h
  refine goI C hD hS (runS (As := [.int a3, .int (r2 + a2)]) (rest := []) (w := (mW G q σ)) C lc_RX7_142 (ctM_tunedTo (w := (mW G q σ)) N a3 (r2 + a2) r4 h3 _) hP hD hS hl.1 rfl rfl (by decide) (by decide) (Nat.le_of_ble_eq_true rfl) dX7_signalAt_8) (fun H locs hP hD hS => ?_)
  obtain rfl := so1 h
  exact retI C hP hD hS dX7_signalAt_11

def fM_oscillatorAt (N : Nat) (σ : St) (a1 : Int32) (a2 : Int32) (a3 : Int32) (a4 : Int32) : Option Int32 :=
  bd1 (fM_gangAt N σ a1) (fun r2 => nzl (((a3 + (r2 + a2)) : Int32).toInt64) ((if 1 ≤ ((((a3 : Int32).toInt64 * ((r2 + a2) : Int32).toInt64) / ((a3 + (r2 + a2)) : Int32).toInt64) : Int64).toInt32 then bd1 (fM_tunedTo N a4 (((((a3 : Int32).toInt64 * ((r2 + a2) : Int32).toInt64) / ((a3 + (r2 + a2)) : Int32).toInt64) : Int64).toInt32)) (fun r6 => some r6) else bd1 (fM_tunedTo N a4 1) (fun r8 => some r8))))
set_option maxHeartbeats 4000000 in
set_option maxRecDepth 100000 in
theorem ctM_oscillatorAt {G : GP} {l : Launch} {q : Nat → Nat} (N : Nat) (σ : St) (a1 : Int32) (a2 : Int32) (a3 : Int32) (a4 : Int32) (r : Int32) (h : fM_oscillatorAt N σ a1 a2 a3 a4 = some r) : CI G l yX7_oscillatorAt cX7_oscillatorAt 7 (some .int) 2 [.ref (q 0), .int a1, .int a2, .int a3, .int a4] (mW G q σ) (mW G q σ) r := by
  refine enterI (own := RX7) (by decide) rfl (Nat.le_of_ble_eq_true rfl) ?_
  intro p e s m args below meth c A C hP hD hS ls hl
  obtain ⟨hx, hb, hml, hown, hts, hK, hZ, hA, hlk, hr⟩ := id C
  have hl : lv_has ls 7 [(0, .ref (q 0)), (1, .int a1), (2, .int a2), (3, .int a3), (4, .int a4)] := hl
  rw [fM_oscillatorAt.eq_1] at h
  refine lv_aload_n hx hb dX7_oscillatorAt_0 rfl (lv_at hl 0 rfl) ?_
  refine lv_iload_n hx hb dX7_oscillatorAt_1 rfl (lv_at hl 1 rfl) ?_
  obtain ⟨r2, h1, h⟩ := bd1_some h
  refine goI C hD hS (runV (As := [.int a1]) (rest := []) (w := (mW G q σ)) C lc_RX7_139 (ctM_gangAt N σ a1 r2 h1 _) hP hD hS (va_recv C.2.2.2.2.2.1 hP (ci := 7) (q0 := 0) rfl rfl) hl.1 rfl rfl (by decide) (by decide) (Nat.le_of_ble_eq_true rfl) dX7_oscillatorAt_2) (fun H locs hP hD hS => ?_)
  refine lv_iload_n hx hb dX7_oscillatorAt_5 rfl (lv_at hl 2 rfl) ?_
  refine lv_iadd hx hb dX7_oscillatorAt_6 ?_
  refine lv_istore (lv' := [(5, .int (r2 + a2)), (0, .ref (q 0)), (1, .int a1), (2, .int a2), (3, .int a3), (4, .int a4)]) hx hb dX7_oscillatorAt_7 hl (by decide) rfl (fun ls hl => ?_)
  refine lv_iload_n hx hb dX7_oscillatorAt_9 rfl (lv_at hl 4 rfl) ?_
  refine lv_i2l hx hb dX7_oscillatorAt_10 rfl ?_
  refine lv_iload hx hb dX7_oscillatorAt_11 (lv_at hl 0 rfl) ?_
  refine lv_i2l hx hb dX7_oscillatorAt_13 rfl ?_
  refine lv_lmul hx hb dX7_oscillatorAt_14 ?_
  refine lv_iload_n hx hb dX7_oscillatorAt_15 rfl (lv_at hl 4 rfl) ?_
  refine lv_iload hx hb dX7_oscillatorAt_16 (lv_at hl 0 rfl) ?_
  refine lv_iadd hx hb dX7_oscillatorAt_18 ?_
  refine lv_i2l hx hb dX7_oscillatorAt_19 rfl ?_
  obtain ⟨n3, h⟩ := nzl_some h
  refine lv_ldiv hx hb dX7_oscillatorAt_20 n3 ?_
  refine lv_l2i hx hb dX7_oscillatorAt_21 rfl ?_
  refine lv_istore (lv' := [(6, .int (((((a3 : Int32).toInt64 * ((r2 + a2) : Int32).toInt64) / ((a3 + (r2 + a2)) : Int32).toInt64) : Int64).toInt32)), (5, .int (r2 + a2)), (0, .ref (q 0)), (1, .int a1), (2, .int a2), (3, .int a3), (4, .int a4)]) hx hb dX7_oscillatorAt_22 hl (by decide) rfl (fun ls hl => ?_)
  refine lv_iload hx hb dX7_oscillatorAt_24 (lv_at hl 6 rfl) ?_
  refine lv_iload hx hb dX7_oscillatorAt_26 (lv_at hl 0 rfl) ?_
  refine lv_iconst (v := 1) hx hb dX7_oscillatorAt_28 (by decide) ?_
  refine lv_icmp_ge (tgt := 36) hx hb dX7_oscillatorAt_29 (by decide) (fun c4 => ?_) (fun c4 => ?_)
  · replace h := ifp c4 h
    refine lv_iload hx hb dX7_oscillatorAt_36 (lv_at hl 0 rfl) ?_
    obtain ⟨r6, h5, h⟩ := bd1_some h
    refine goI C hD hS (runS (As := [.int a4, .int (((((a3 : Int32).toInt64 * ((r2 + a2) : Int32).toInt64) / ((a3 + (r2 + a2)) : Int32).toInt64) : Int64).toInt32)]) (rest := []) (w := (mW G q σ)) C lc_RX7_142 (ctM_tunedTo (w := (mW G q σ)) N a4 (((((a3 : Int32).toInt64 * ((r2 + a2) : Int32).toInt64) / ((a3 + (r2 + a2)) : Int32).toInt64) : Int64).toInt32) r6 h5 _) hP hD hS hl.1 rfl rfl (by decide) (by decide) (Nat.le_of_ble_eq_true rfl) dX7_oscillatorAt_38) (fun H locs hP hD hS => ?_)
    obtain rfl := so1 h
    exact retI C hP hD hS dX7_oscillatorAt_41
  · replace h := ifn c4 h
    refine lv_iconst (v := 1) hx hb dX7_oscillatorAt_32 (by decide) ?_
    refine lv_goto (tgt := 38) hx hb dX7_oscillatorAt_33 (by decide) ?_
    obtain ⟨r8, h7, h⟩ := bd1_some h
    refine goI C hD hS (runS (As := [.int a4, .int 1]) (rest := []) (w := (mW G q σ)) C lc_RX7_142 (ctM_tunedTo (w := (mW G q σ)) N a4 1 r8 h7 _) hP hD hS hl.1 rfl rfl (by decide) (by decide) (Nat.le_of_ble_eq_true rfl) dX7_oscillatorAt_38) (fun H locs hP hD hS => ?_)
    obtain rfl := so1 h
    exact retI C hP hD hS dX7_oscillatorAt_41

def fM_errorBy (N : Nat) (σ : St) (a1 : Int32) (a2 : Int32) (a3 : Int32) : Option Int32 :=
  (if (σ.1 2) = 1 then some ((a2 - a1) - a3) else some ((a1 - a2) - a3))
set_option maxHeartbeats 4000000 in
set_option maxRecDepth 100000 in
theorem ctM_errorBy {G : GP} {l : Launch} {q : Nat → Nat} (N : Nat) (σ : St) (a1 : Int32) (a2 : Int32) (a3 : Int32) (r : Int32) (h : fM_errorBy N σ a1 a2 a3 = some r) : CI G l yX7_errorBy cX7_errorBy 4 (some .int) 0 [.ref (q 0), .int a1, .int a2, .int a3] (mW G q σ) (mW G q σ) r := by
  refine enterI (own := RX7) (by decide) rfl (Nat.le_of_ble_eq_true rfl) ?_
  intro p e s m args below meth c A C hP hD hS ls hl
  obtain ⟨hx, hb, hml, hown, hts, hK, hZ, hA, hlk, hr⟩ := id C
  have hl : lv_has ls 4 [(0, .ref (q 0)), (1, .int a1), (2, .int a2), (3, .int a3)] := hl
  rw [fM_errorBy.eq_1] at h
  refine lv_aload_n hx hb dX7_errorBy_0 rfl (lv_at hl 0 rfl) ?_
  refine gf_RX7_20 C hP dX7_errorBy_1 ?_
  refine lv_iconst (v := 1) hx hb dX7_errorBy_4 (by decide) ?_
  refine lv_icmp_ne (tgt := 16) hx hb dX7_errorBy_5 (by decide) (fun c1 => ?_) (fun c1 => ?_)
  · replace h := ifn c1 h
    refine lv_iload_n hx hb dX7_errorBy_16 rfl (lv_at hl 1 rfl) ?_
    refine lv_iload_n hx hb dX7_errorBy_17 rfl (lv_at hl 2 rfl) ?_
    refine lv_isub hx hb dX7_errorBy_18 ?_
    refine lv_iload_n hx hb dX7_errorBy_19 rfl (lv_at hl 3 rfl) ?_
    refine lv_isub hx hb dX7_errorBy_20 ?_
    obtain rfl := so1 h
    exact retI C hP hD hS dX7_errorBy_21
  · replace h := ifp c1 h
    refine lv_iload_n hx hb dX7_errorBy_8 rfl (lv_at hl 2 rfl) ?_
    refine lv_iload_n hx hb dX7_errorBy_9 rfl (lv_at hl 1 rfl) ?_
    refine lv_isub hx hb dX7_errorBy_10 ?_
    refine lv_iload_n hx hb dX7_errorBy_11 rfl (lv_at hl 3 rfl) ?_
    refine lv_isub hx hb dX7_errorBy_12 ?_
    refine lv_goto (tgt := 21) hx hb dX7_errorBy_13 (by decide) ?_
    obtain rfl := so1 h
    exact retI C hP hD hS dX7_errorBy_21

def fM_errorAt (N : Nat) (σ : St) (a1 : Int32) (a2 : Int32) (a3 : Int32) (a4 : Int32) (a5 : Int32) (a6 : Int32) (a7 : Int32) : Option Int32 :=
  bd1 (fM_signalAt N σ a1 a2 a5) (fun r2 => bd1 (fM_oscillatorAt N σ a1 a3 a4 a6) (fun r4 => bd1 (fM_errorBy N σ r2 r4 a7) (fun r6 => some r6)))
set_option maxHeartbeats 4000000 in
set_option maxRecDepth 100000 in
theorem ctM_errorAt {G : GP} {l : Launch} {q : Nat → Nat} (N : Nat) (σ : St) (a1 : Int32) (a2 : Int32) (a3 : Int32) (a4 : Int32) (a5 : Int32) (a6 : Int32) (a7 : Int32) (r : Int32) (h : fM_errorAt N σ a1 a2 a3 a4 a5 a6 a7 = some r) : CI G l yX7_errorAt cX7_errorAt 8 (some .int) 3 [.ref (q 0), .int a1, .int a2, .int a3, .int a4, .int a5, .int a6, .int a7] (mW G q σ) (mW G q σ) r := by
  refine enterI (own := RX7) (by decide) rfl (Nat.le_of_ble_eq_true rfl) ?_
  intro p e s m args below meth c A C hP hD hS ls hl
  obtain ⟨hx, hb, hml, hown, hts, hK, hZ, hA, hlk, hr⟩ := id C
  have hl : lv_has ls 8 [(0, .ref (q 0)), (1, .int a1), (2, .int a2), (3, .int a3), (4, .int a4), (5, .int a5), (6, .int a6), (7, .int a7)] := hl
  rw [fM_errorAt.eq_1] at h
  refine lv_aload_n hx hb dX7_errorAt_0 rfl (lv_at hl 0 rfl) ?_
  refine lv_aload_n hx hb dX7_errorAt_1 rfl (lv_at hl 0 rfl) ?_
  refine lv_iload_n hx hb dX7_errorAt_2 rfl (lv_at hl 1 rfl) ?_
  refine lv_iload_n hx hb dX7_errorAt_3 rfl (lv_at hl 2 rfl) ?_
  refine lv_iload hx hb dX7_errorAt_4 (lv_at hl 5 rfl) ?_
  obtain ⟨r2, h1, h⟩ := bd1_some h
  refine goI C hD hS (runV (As := [.int a1, .int a2, .int a5]) (rest := [.ref (q 0)]) (w := (mW G q σ)) C lc_RX7_145 (ctM_signalAt N σ a1 a2 a5 r2 h1 _) hP hD hS (va_recv C.2.2.2.2.2.1 hP (ci := 7) (q0 := 0) rfl rfl) hl.1 rfl rfl (by decide) (by decide) (Nat.le_of_ble_eq_true rfl) dX7_errorAt_6) (fun H locs hP hD hS => ?_)
  refine lv_aload_n hx hb dX7_errorAt_9 rfl (lv_at hl 0 rfl) ?_
  refine lv_iload_n hx hb dX7_errorAt_10 rfl (lv_at hl 1 rfl) ?_
  refine lv_iload_n hx hb dX7_errorAt_11 rfl (lv_at hl 3 rfl) ?_
  refine lv_iload hx hb dX7_errorAt_12 (lv_at hl 4 rfl) ?_
  refine lv_iload hx hb dX7_errorAt_14 (lv_at hl 6 rfl) ?_
  obtain ⟨r4, h3, h⟩ := bd1_some h
  refine goI C hD hS (runV (As := [.int a1, .int a3, .int a4, .int a6]) (rest := [.int r2, .ref (q 0)]) (w := (mW G q σ)) C lc_RX7_148 (ctM_oscillatorAt N σ a1 a3 a4 a6 r4 h3 _) hP hD hS (va_recv C.2.2.2.2.2.1 hP (ci := 7) (q0 := 0) rfl rfl) hl.1 rfl rfl (by decide) (by decide) (Nat.le_of_ble_eq_true rfl) dX7_errorAt_16) (fun H locs hP hD hS => ?_)
  refine lv_iload hx hb dX7_errorAt_19 (lv_at hl 7 rfl) ?_
  obtain ⟨r6, h5, h⟩ := bd1_some h
  refine goI C hD hS (runV (As := [.int r2, .int r4, .int a7]) (rest := []) (w := (mW G q σ)) C lc_RX7_152 (ctM_errorBy N σ r2 r4 a7 r6 h5 _) hP hD hS (va_recv C.2.2.2.2.2.1 hP (ci := 7) (q0 := 0) rfl rfl) hl.1 rfl rfl (by decide) (by decide) (Nat.le_of_ble_eq_true rfl) dX7_errorAt_21) (fun H locs hP hD hS => ?_)
  obtain rfl := so1 h
  exact retI C hP hD hS dX7_errorAt_24

def fM_tuned (N : Nat) (σ : St) (a1 : Int32) (a2 : Int32) : Option Int32 :=
  bd1 (fM_isPlace N a1) (fun r2 => (if r2 = 0 then some (-1) else bd1 (fM_within N a2 0 2) (fun r5 => (if r5 = 0 then some (-1) else (if a2 = 0 then bd1 (fM_signalAt N σ a1 (σ.2 2 (0 : Int32).toNatClampNeg) (σ.2 2 (3 : Int32).toNatClampNeg)) (fun r14 => some r14) else (if a2 = 1 then bd1 (fM_oscillatorAt N σ a1 (σ.2 2 (1 : Int32).toNatClampNeg) (σ.2 2 (2 : Int32).toNatClampNeg) (σ.2 2 (4 : Int32).toNatClampNeg)) (fun r12 => some r12) else bd1 (fM_gangAt N σ a1) (fun r10 => some r10)))))))
set_option maxHeartbeats 4000000 in
set_option maxRecDepth 100000 in
theorem ctM_tuned {G : GP} {l : Launch} {q : Nat → Nat} (N : Nat) (σ : St) (a1 : Int32) (a2 : Int32) (r : Int32) (h : fM_tuned N σ a1 a2 = some r) : CI G l yX7_tuned cX7_tuned 3 (some .int) 3 [.ref (q 0), .int a1, .int a2] (mW G q σ) (mW G q σ) r := by
  refine enterI (own := RX7) (by decide) rfl (Nat.le_of_ble_eq_true rfl) ?_
  intro p e s m args below meth c A C hP hD hS ls hl
  obtain ⟨hx, hb, hml, hown, hts, hK, hZ, hA, hlk, hr⟩ := id C
  have hl : lv_has ls 3 [(0, .ref (q 0)), (1, .int a1), (2, .int a2)] := hl
  rw [fM_tuned.eq_1] at h
  refine lv_iload_n hx hb dX7_tuned_0 rfl (lv_at hl 1 rfl) ?_
  obtain ⟨r2, h1, h⟩ := bd1_some h
  refine goI C hD hS (runS (As := [.int a1]) (rest := []) (w := (mW G q σ)) C lc_RX7_155 (ctM_isPlace (w := (mW G q σ)) N a1 r2 h1 _) hP hD hS hl.1 rfl rfl (by decide) (by decide) (Nat.le_of_ble_eq_true rfl) dX7_tuned_1) (fun H locs hP hD hS => ?_)
  refine lv_if_eq (tgt := 16) hx hb dX7_tuned_4 (by decide) (fun c3 => ?_) (fun c3 => ?_)
  · replace h := ifp c3 h
    refine lv_iconst (v := (-1)) hx hb dX7_tuned_16 (by decide) ?_
    obtain rfl := so1 h
    exact retI C hP hD hS dX7_tuned_17
  · replace h := ifn c3 h
    refine lv_iload_n hx hb dX7_tuned_7 rfl (lv_at hl 2 rfl) ?_
    refine lv_iconst (v := 0) hx hb dX7_tuned_8 (by decide) ?_
    refine lv_iconst (v := 2) hx hb dX7_tuned_9 (by decide) ?_
    obtain ⟨r5, h4, h⟩ := bd1_some h
    refine goI C hD hS (runS (As := [.int a2, .int 0, .int 2]) (rest := []) (w := (mW G q σ)) C lc_RX7_75 (ctM_within (w := (mW G q σ)) N a2 0 2 r5 h4 _) hP hD hS hl.1 rfl rfl (by decide) (by decide) (Nat.le_of_ble_eq_true rfl) dX7_tuned_10) (fun H locs hP hD hS => ?_)
    refine lv_if_ne (tgt := 18) hx hb dX7_tuned_13 (by decide) (fun c6 => ?_) (fun c6 => ?_)
    · replace h := ifn c6 h
      refine lv_iload_n hx hb dX7_tuned_18 rfl (lv_at hl 2 rfl) ?_
      refine lv_if_ne (tgt := 42) hx hb dX7_tuned_19 (by decide) (fun c7 => ?_) (fun c7 => ?_)
      · replace h := ifn c7 h
        refine lv_iload_n hx hb dX7_tuned_42 rfl (lv_at hl 2 rfl) ?_
        refine lv_iconst (v := 1) hx hb dX7_tuned_43 (by decide) ?_
        refine lv_icmp_ne (tgt := 73) hx hb dX7_tuned_44 (by decide) (fun c8 => ?_) (fun c8 => ?_)
        · replace h := ifn c8 h
          refine lv_aload_n hx hb dX7_tuned_73 rfl (lv_at hl 0 rfl) ?_
          refine lv_iload_n hx hb dX7_tuned_74 rfl (lv_at hl 1 rfl) ?_
          obtain ⟨r10, h9, h⟩ := bd1_some h
          refine goI C hD hS (runV (As := [.int a1]) (rest := []) (w := (mW G q σ)) C lc_RX7_139 (ctM_gangAt N σ a1 r10 h9 _) hP hD hS (va_recv C.2.2.2.2.2.1 hP (ci := 7) (q0 := 0) rfl rfl) hl.1 rfl rfl (by decide) (by decide) (Nat.le_of_ble_eq_true rfl) dX7_tuned_75) (fun H locs hP hD hS => ?_)
          obtain rfl := so1 h
          exact retI C hP hD hS dX7_tuned_78
        · replace h := ifp c8 h
          refine lv_aload_n hx hb dX7_tuned_47 rfl (lv_at hl 0 rfl) ?_
          refine lv_iload_n hx hb dX7_tuned_48 rfl (lv_at hl 1 rfl) ?_
          refine lv_aload_n hx hb dX7_tuned_49 rfl (lv_at hl 0 rfl) ?_
          refine gf_RX7_35 C hP dX7_tuned_50 ?_
          refine lv_iconst (v := 1) hx hb dX7_tuned_53 (by decide) ?_
          refine ldM_2 C hP (vin (by decide)) dX7_tuned_54 ?_
          refine lv_aload_n hx hb dX7_tuned_55 rfl (lv_at hl 0 rfl) ?_
          refine gf_RX7_35 C hP dX7_tuned_56 ?_
          refine lv_iconst (v := 2) hx hb dX7_tuned_59 (by decide) ?_
          refine ldM_2 C hP (vin (by decide)) dX7_tuned_60 ?_
          refine lv_aload_n hx hb dX7_tuned_61 rfl (lv_at hl 0 rfl) ?_
          refine gf_RX7_35 C hP dX7_tuned_62 ?_
          refine lv_iconst (v := 4) hx hb dX7_tuned_65 (by decide) ?_
          refine ldM_2 C hP (vin (by decide)) dX7_tuned_66 ?_
          obtain ⟨r12, h11, h⟩ := bd1_some h
          refine goI C hD hS (runV (As := [.int a1, .int (σ.2 2 (1 : Int32).toNatClampNeg), .int (σ.2 2 (2 : Int32).toNatClampNeg), .int (σ.2 2 (4 : Int32).toNatClampNeg)]) (rest := []) (w := (mW G q σ)) C lc_RX7_148 (ctM_oscillatorAt N σ a1 (σ.2 2 (1 : Int32).toNatClampNeg) (σ.2 2 (2 : Int32).toNatClampNeg) (σ.2 2 (4 : Int32).toNatClampNeg) r12 h11 _) hP hD hS (va_recv C.2.2.2.2.2.1 hP (ci := 7) (q0 := 0) rfl rfl) hl.1 rfl rfl (by decide) (by decide) (Nat.le_of_ble_eq_true rfl) dX7_tuned_67) (fun H locs hP hD hS => ?_)
          refine lv_goto (tgt := 78) hx hb dX7_tuned_70 (by decide) ?_
          obtain rfl := so1 h
          exact retI C hP hD hS dX7_tuned_78
      · replace h := ifp c7 h
        refine lv_aload_n hx hb dX7_tuned_22 rfl (lv_at hl 0 rfl) ?_
        refine lv_iload_n hx hb dX7_tuned_23 rfl (lv_at hl 1 rfl) ?_
        refine lv_aload_n hx hb dX7_tuned_24 rfl (lv_at hl 0 rfl) ?_
        refine gf_RX7_35 C hP dX7_tuned_25 ?_
        refine lv_iconst (v := 0) hx hb dX7_tuned_28 (by decide) ?_
        refine ldM_2 C hP (vin (by decide)) dX7_tuned_29 ?_
        refine lv_aload_n hx hb dX7_tuned_30 rfl (lv_at hl 0 rfl) ?_
        refine gf_RX7_35 C hP dX7_tuned_31 ?_
        refine lv_iconst (v := 3) hx hb dX7_tuned_34 (by decide) ?_
        refine ldM_2 C hP (vin (by decide)) dX7_tuned_35 ?_
        obtain ⟨r14, h13, h⟩ := bd1_some h
        refine goI C hD hS (runV (As := [.int a1, .int (σ.2 2 (0 : Int32).toNatClampNeg), .int (σ.2 2 (3 : Int32).toNatClampNeg)]) (rest := []) (w := (mW G q σ)) C lc_RX7_145 (ctM_signalAt N σ a1 (σ.2 2 (0 : Int32).toNatClampNeg) (σ.2 2 (3 : Int32).toNatClampNeg) r14 h13 _) hP hD hS (va_recv C.2.2.2.2.2.1 hP (ci := 7) (q0 := 0) rfl rfl) hl.1 rfl rfl (by decide) (by decide) (Nat.le_of_ble_eq_true rfl) dX7_tuned_36) (fun H locs hP hD hS => ?_)
        refine lv_goto (tgt := 78) hx hb dX7_tuned_39 (by decide) ?_
        obtain rfl := so1 h
        exact retI C hP hD hS dX7_tuned_78
    · replace h := ifp c6 h
      refine lv_iconst (v := (-1)) hx hb dX7_tuned_16 (by decide) ?_
      obtain rfl := so1 h
      exact retI C hP hD hS dX7_tuned_17

def fM_error (N : Nat) (σ : St) (a1 : Int32) : Option Int32 :=
  bd1 (fM_isPlace N a1) (fun r2 => (if r2 = 0 then some (-2000000000) else bd1 (fM_errorAt N σ a1 (σ.2 2 (0 : Int32).toNatClampNeg) (σ.2 2 (1 : Int32).toNatClampNeg) (σ.2 2 (2 : Int32).toNatClampNeg) (σ.2 2 (3 : Int32).toNatClampNeg) (σ.2 2 (4 : Int32).toNatClampNeg) (σ.1 1)) (fun r5 => some r5)))
set_option maxHeartbeats 4000000 in
set_option maxRecDepth 100000 in
theorem ctM_error {G : GP} {l : Launch} {q : Nat → Nat} (N : Nat) (σ : St) (a1 : Int32) (r : Int32) (h : fM_error N σ a1 = some r) : CI G l yX7_error cX7_error 2 (some .int) 4 [.ref (q 0), .int a1] (mW G q σ) (mW G q σ) r := by
  refine enterI (own := RX7) (by decide) rfl (Nat.le_of_ble_eq_true rfl) ?_
  intro p e s m args below meth c A C hP hD hS ls hl
  obtain ⟨hx, hb, hml, hown, hts, hK, hZ, hA, hlk, hr⟩ := id C
  have hl : lv_has ls 2 [(0, .ref (q 0)), (1, .int a1)] := hl
  rw [fM_error.eq_1] at h
  refine lv_iload_n hx hb dX7_error_0 rfl (lv_at hl 1 rfl) ?_
  obtain ⟨r2, h1, h⟩ := bd1_some h
  refine goI C hD hS (runS (As := [.int a1]) (rest := []) (w := (mW G q σ)) C lc_RX7_155 (ctM_isPlace (w := (mW G q σ)) N a1 r2 h1 _) hP hD hS hl.1 rfl rfl (by decide) (by decide) (Nat.le_of_ble_eq_true rfl) dX7_error_1) (fun H locs hP hD hS => ?_)
  refine lv_if_eq (tgt := 49) hx hb dX7_error_4 (by decide) (fun c3 => ?_) (fun c3 => ?_)
  · replace h := ifp c3 h
    refine lv_ldc hx hb hown (hts _ (List.mem_cons_of_mem _ kc_RX7_90)) dX7_error_49 ?_
    obtain rfl := so1 h
    exact retI C hP hD hS dX7_error_51
  · replace h := ifn c3 h
    refine lv_aload_n hx hb dX7_error_7 rfl (lv_at hl 0 rfl) ?_
    refine lv_iload_n hx hb dX7_error_8 rfl (lv_at hl 1 rfl) ?_
    refine lv_aload_n hx hb dX7_error_9 rfl (lv_at hl 0 rfl) ?_
    refine gf_RX7_35 C hP dX7_error_10 ?_
    refine lv_iconst (v := 0) hx hb dX7_error_13 (by decide) ?_
    refine ldM_2 C hP (vin (by decide)) dX7_error_14 ?_
    refine lv_aload_n hx hb dX7_error_15 rfl (lv_at hl 0 rfl) ?_
    refine gf_RX7_35 C hP dX7_error_16 ?_
    refine lv_iconst (v := 1) hx hb dX7_error_19 (by decide) ?_
    refine ldM_2 C hP (vin (by decide)) dX7_error_20 ?_
    refine lv_aload_n hx hb dX7_error_21 rfl (lv_at hl 0 rfl) ?_
    refine gf_RX7_35 C hP dX7_error_22 ?_
    refine lv_iconst (v := 2) hx hb dX7_error_25 (by decide) ?_
    refine ldM_2 C hP (vin (by decide)) dX7_error_26 ?_
    refine lv_aload_n hx hb dX7_error_27 rfl (lv_at hl 0 rfl) ?_
    refine gf_RX7_35 C hP dX7_error_28 ?_
    refine lv_iconst (v := 3) hx hb dX7_error_31 (by decide) ?_
    refine ldM_2 C hP (vin (by decide)) dX7_error_32 ?_
    refine lv_aload_n hx hb dX7_error_33 rfl (lv_at hl 0 rfl) ?_
    refine gf_RX7_35 C hP dX7_error_34 ?_
    refine lv_iconst (v := 4) hx hb dX7_error_37 (by decide) ?_
    refine ldM_2 C hP (vin (by decide)) dX7_error_38 ?_
    refine lv_aload_n hx hb dX7_error_39 rfl (lv_at hl 0 rfl) ?_
    refine gf_RX7_16 C hP dX7_error_40 ?_
    obtain ⟨r5, h4, h⟩ := bd1_some h
    refine goI C hD hS (runV (As := [.int a1, .int (σ.2 2 (0 : Int32).toNatClampNeg), .int (σ.2 2 (1 : Int32).toNatClampNeg), .int (σ.2 2 (2 : Int32).toNatClampNeg), .int (σ.2 2 (3 : Int32).toNatClampNeg), .int (σ.2 2 (4 : Int32).toNatClampNeg), .int (σ.1 1)]) (rest := []) (w := (mW G q σ)) C lc_RX7_158 (ctM_errorAt N σ a1 (σ.2 2 (0 : Int32).toNatClampNeg) (σ.2 2 (1 : Int32).toNatClampNeg) (σ.2 2 (2 : Int32).toNatClampNeg) (σ.2 2 (3 : Int32).toNatClampNeg) (σ.2 2 (4 : Int32).toNatClampNeg) (σ.1 1) r5 h4 _) hP hD hS (va_recv C.2.2.2.2.2.1 hP (ci := 7) (q0 := 0) rfl rfl) hl.1 rfl rfl (by decide) (by decide) (Nat.le_of_ble_eq_true rfl) dX7_error_43) (fun H locs hP hD hS => ?_)
    refine lv_goto (tgt := 51) hx hb dX7_error_46 (by decide) ?_
    obtain rfl := so1 h
    exact retI C hP hD hS dX7_error_51

def fM_point_L23 (N : Nat) (v1 : Int32) (v2 : Int32) : Nat → Int32 → Int32 → St → Option (Int32 × St)
  | 0, _, _, _ => none
  | n + 1, v3, v4, σ => (if (σ.1 7) ≤ v4 then (if v2 = 1 then (if 0 ≤ v3 then (if v2 = 0 then (if v3 < 0 then (if 0 ≤ v3 then some (1, σ) else some (0, σ)) else gi ((σ.1 7) - 1) 5 (gi v3 5 ((if 0 ≤ v3 then some (1, (sA (s1 σ 7 ((σ.1 7) - 1)) 3 v3.toNatClampNeg (σ.2 3 ((σ.1 7) - 1).toNatClampNeg))) else some (0, (sA (s1 σ 7 ((σ.1 7) - 1)) 3 v3.toNatClampNeg (σ.2 3 ((σ.1 7) - 1).toNatClampNeg))))))) else (if 0 ≤ v3 then some (1, σ) else some (0, σ))) else (if (σ.1 7) = 5 then some ((-2), σ) else gi (σ.1 7) 5 ((if v2 = 0 then (if v3 < 0 then (if 0 ≤ v3 then some (1, (s1 (sA σ 3 (σ.1 7).toNatClampNeg v1) 7 ((σ.1 7) + 1))) else some (0, (s1 (sA σ 3 (σ.1 7).toNatClampNeg v1) 7 ((σ.1 7) + 1)))) else gi (((σ.1 7) + 1) - 1) 5 (gi v3 5 ((if 0 ≤ v3 then some (1, (sA (s1 (s1 (sA σ 3 (σ.1 7).toNatClampNeg v1) 7 ((σ.1 7) + 1)) 7 (((σ.1 7) + 1) - 1)) 3 v3.toNatClampNeg ((sA σ 3 (σ.1 7).toNatClampNeg v1).2 3 (((σ.1 7) + 1) - 1).toNatClampNeg))) else some (0, (sA (s1 (s1 (sA σ 3 (σ.1 7).toNatClampNeg v1) 7 ((σ.1 7) + 1)) 7 (((σ.1 7) + 1) - 1)) 3 v3.toNatClampNeg ((sA σ 3 (σ.1 7).toNatClampNeg v1).2 3 (((σ.1 7) + 1) - 1).toNatClampNeg))))))) else (if 0 ≤ v3 then some (1, (s1 (sA σ 3 (σ.1 7).toNatClampNeg v1) 7 ((σ.1 7) + 1))) else some (0, (s1 (sA σ 3 (σ.1 7).toNatClampNeg v1) 7 ((σ.1 7) + 1)))))))) else (if v2 = 0 then (if v3 < 0 then (if 0 ≤ v3 then some (1, σ) else some (0, σ)) else gi ((σ.1 7) - 1) 5 (gi v3 5 ((if 0 ≤ v3 then some (1, (sA (s1 σ 7 ((σ.1 7) - 1)) 3 v3.toNatClampNeg (σ.2 3 ((σ.1 7) - 1).toNatClampNeg))) else some (0, (sA (s1 σ 7 ((σ.1 7) - 1)) 3 v3.toNatClampNeg (σ.2 3 ((σ.1 7) - 1).toNatClampNeg))))))) else (if 0 ≤ v3 then some (1, σ) else some (0, σ)))) else gi v4 5 ((if (σ.2 3 v4.toNatClampNeg) = v1 then fM_point_L23 N v1 v2 n v4 (v4 + 1) σ else fM_point_L23 N v1 v2 n v3 (v4 + 1) σ)))
set_option maxHeartbeats 4000000 in
set_option maxRecDepth 100000 in
theorem wM_point_L23 {q : Nat → Nat} (C : Cx G p s m args meth c cX7_point 5 (some .int) (Cond.code yX7_point cX7_point 5 (some .int)) RX7 A) (N : Nat) (v1 : Int32) (v2 : Int32) (r : Int32) (σ' : St) : ∀ (n : Nat) (v3 : Int32) (v4 : Int32) (σ : St) (H : Heap) (locs : List Loc) (ls : Array Slot), fM_point_L23 N v1 v2 n v3 v4 σ = some (r, σ') → va_P G.1 vwCl (mW G q σ) H → va_D A (mW G q σ) → va_S A s.heap H locs → lv_has ls 5 [(0, .ref (q 0)), (1, .int v1), (2, .int v2), (3, .int v3), (4, .int v4)] → W p l e (rmD 2) s m args below meth c H locs 0 0 (QI G below args s A (mW G q (σ')) r) (F0 m 23 ls []) := by
  obtain ⟨hx, hb, hml, hown, hts, hK, hZ, hA, hlk, hr⟩ := id C
  intro n
  induction n with
  | zero =>
    intro v3 v4 σ H locs ls h
    cases h
  | succ n ih =>
    intro v3 v4 σ H locs ls h hP hD hS hl
    rw [fM_point_L23.eq_2] at h
    refine lv_iload hx hb dX7_point_23 (lv_at hl 4 rfl) ?_
    refine lv_aload_n hx hb dX7_point_25 rfl (lv_at hl 0 rfl) ?_
    refine gf_RX7_162 C hP dX7_point_26 ?_
    refine lv_icmp_ge (tgt := 56) hx hb dX7_point_29 (by decide) (fun c7 => ?_) (fun c7 => ?_)
    · replace h := ifp c7 h
      refine lv_iload_n hx hb dX7_point_56 rfl (lv_at hl 2 rfl) ?_
      refine lv_iconst (v := 1) hx hb dX7_point_57 (by decide) ?_
      refine lv_icmp_ne (tgt := 96) hx hb dX7_point_58 (by decide) (fun c8 => ?_) (fun c8 => ?_)
      · replace h := ifn c8 h
        refine lv_iload_n hx hb dX7_point_96 rfl (lv_at hl 2 rfl) ?_
        refine lv_if_ne (tgt := 129) hx hb dX7_point_97 (by decide) (fun c9 => ?_) (fun c9 => ?_)
        · replace h := ifn c9 h
          refine lv_iload_n hx hb dX7_point_129 rfl (lv_at hl 3 rfl) ?_
          refine lv_if_ge (tgt := 137) hx hb dX7_point_130 (by decide) (fun c10 => ?_) (fun c10 => ?_)
          · replace h := ifp c10 h
            refine lv_iconst (v := 1) hx hb dX7_point_137 (by decide) ?_
            obtain ⟨rfl, rfl⟩ := so2 h
            exact retI C hP hD hS dX7_point_138
          · replace h := ifn c10 h
            refine lv_iconst (v := 0) hx hb dX7_point_133 (by decide) ?_
            refine lv_goto (tgt := 138) hx hb dX7_point_134 (by decide) ?_
            obtain ⟨rfl, rfl⟩ := so2 h
            exact retI C hP hD hS dX7_point_138
        · replace h := ifp c9 h
          refine lv_iload_n hx hb dX7_point_100 rfl (lv_at hl 3 rfl) ?_
          refine lv_if_lt (tgt := 129) hx hb dX7_point_101 (by decide) (fun c11 => ?_) (fun c11 => ?_)
          · replace h := ifp c11 h
            refine lv_iload_n hx hb dX7_point_129 rfl (lv_at hl 3 rfl) ?_
            refine lv_if_ge (tgt := 137) hx hb dX7_point_130 (by decide) (fun c12 => ?_) (fun c12 => ?_)
            · replace h := ifp c12 h
              refine lv_iconst (v := 1) hx hb dX7_point_137 (by decide) ?_
              obtain ⟨rfl, rfl⟩ := so2 h
              exact retI C hP hD hS dX7_point_138
            · replace h := ifn c12 h
              refine lv_iconst (v := 0) hx hb dX7_point_133 (by decide) ?_
              refine lv_goto (tgt := 138) hx hb dX7_point_134 (by decide) ?_
              obtain ⟨rfl, rfl⟩ := so2 h
              exact retI C hP hD hS dX7_point_138
          · replace h := ifn c11 h
            refine lv_aload_n hx hb dX7_point_104 rfl (lv_at hl 0 rfl) ?_
            refine lv_dup hx hb dX7_point_105 rfl ?_
            refine gf_RX7_162 C hP dX7_point_106 ?_
            refine lv_iconst (v := 1) hx hb dX7_point_109 (by decide) ?_
            refine lv_isub hx hb dX7_point_110 ?_
            refine pf_RX7_162 C hP hD hS dX7_point_111 (fun H locs hP hD hS => ?_)
            refine lv_aload_n hx hb dX7_point_114 rfl (lv_at hl 0 rfl) ?_
            refine gf_RX7_38 C hP dX7_point_115 ?_
            refine lv_iload_n hx hb dX7_point_118 rfl (lv_at hl 3 rfl) ?_
            refine lv_aload_n hx hb dX7_point_119 rfl (lv_at hl 0 rfl) ?_
            refine gf_RX7_38 C hP dX7_point_120 ?_
            refine lv_aload_n hx hb dX7_point_123 rfl (lv_at hl 0 rfl) ?_
            refine gf_RX7_162 C hP dX7_point_124 ?_
            refine lv_cv (y := ((σ.1 7) - 1)) rfl ?_
            obtain ⟨i13, h⟩ := gi_some h
            refine ldM_3 C hP i13 dX7_point_127 ?_
            refine lv_cv (y := (σ.2 3 ((σ.1 7) - 1).toNatClampNeg)) rfl ?_
            obtain ⟨i14, h⟩ := gi_some h
            refine stM_3 C hP hD hS i14 dX7_point_128 (fun H locs hP hD hS => ?_)
            refine lv_iload_n hx hb dX7_point_129 rfl (lv_at hl 3 rfl) ?_
            refine lv_if_ge (tgt := 137) hx hb dX7_point_130 (by decide) (fun c15 => ?_) (fun c15 => ?_)
            · replace h := ifp c15 h
              refine lv_iconst (v := 1) hx hb dX7_point_137 (by decide) ?_
              obtain ⟨rfl, rfl⟩ := so2 h
              exact retI C hP hD hS dX7_point_138
            · replace h := ifn c15 h
              refine lv_iconst (v := 0) hx hb dX7_point_133 (by decide) ?_
              refine lv_goto (tgt := 138) hx hb dX7_point_134 (by decide) ?_
              obtain ⟨rfl, rfl⟩ := so2 h
              exact retI C hP hD hS dX7_point_138
      · replace h := ifp c8 h
        refine lv_iload_n hx hb dX7_point_61 rfl (lv_at hl 3 rfl) ?_
        refine lv_if_ge (tgt := 96) hx hb dX7_point_62 (by decide) (fun c16 => ?_) (fun c16 => ?_)
        · replace h := ifp c16 h
          refine lv_iload_n hx hb dX7_point_96 rfl (lv_at hl 2 rfl) ?_
          refine lv_if_ne (tgt := 129) hx hb dX7_point_97 (by decide) (fun c17 => ?_) (fun c17 => ?_)
          · replace h := ifn c17 h
            refine lv_iload_n hx hb dX7_point_129 rfl (lv_at hl 3 rfl) ?_
            refine lv_if_ge (tgt := 137) hx hb dX7_point_130 (by decide) (fun c18 => ?_) (fun c18 => ?_)
            · replace h := ifp c18 h
              refine lv_iconst (v := 1) hx hb dX7_point_137 (by decide) ?_
              obtain ⟨rfl, rfl⟩ := so2 h
              exact retI C hP hD hS dX7_point_138
            · replace h := ifn c18 h
              refine lv_iconst (v := 0) hx hb dX7_point_133 (by decide) ?_
              refine lv_goto (tgt := 138) hx hb dX7_point_134 (by decide) ?_
              obtain ⟨rfl, rfl⟩ := so2 h
              exact retI C hP hD hS dX7_point_138
          · replace h := ifp c17 h
            refine lv_iload_n hx hb dX7_point_100 rfl (lv_at hl 3 rfl) ?_
            refine lv_if_lt (tgt := 129) hx hb dX7_point_101 (by decide) (fun c19 => ?_) (fun c19 => ?_)
            · replace h := ifp c19 h
              refine lv_iload_n hx hb dX7_point_129 rfl (lv_at hl 3 rfl) ?_
              refine lv_if_ge (tgt := 137) hx hb dX7_point_130 (by decide) (fun c20 => ?_) (fun c20 => ?_)
              · replace h := ifp c20 h
                refine lv_iconst (v := 1) hx hb dX7_point_137 (by decide) ?_
                obtain ⟨rfl, rfl⟩ := so2 h
                exact retI C hP hD hS dX7_point_138
              · replace h := ifn c20 h
                refine lv_iconst (v := 0) hx hb dX7_point_133 (by decide) ?_
                refine lv_goto (tgt := 138) hx hb dX7_point_134 (by decide) ?_
                obtain ⟨rfl, rfl⟩ := so2 h
                exact retI C hP hD hS dX7_point_138
            · replace h := ifn c19 h
              refine lv_aload_n hx hb dX7_point_104 rfl (lv_at hl 0 rfl) ?_
              refine lv_dup hx hb dX7_point_105 rfl ?_
              refine gf_RX7_162 C hP dX7_point_106 ?_
              refine lv_iconst (v := 1) hx hb dX7_point_109 (by decide) ?_
              refine lv_isub hx hb dX7_point_110 ?_
              refine pf_RX7_162 C hP hD hS dX7_point_111 (fun H locs hP hD hS => ?_)
              refine lv_aload_n hx hb dX7_point_114 rfl (lv_at hl 0 rfl) ?_
              refine gf_RX7_38 C hP dX7_point_115 ?_
              refine lv_iload_n hx hb dX7_point_118 rfl (lv_at hl 3 rfl) ?_
              refine lv_aload_n hx hb dX7_point_119 rfl (lv_at hl 0 rfl) ?_
              refine gf_RX7_38 C hP dX7_point_120 ?_
              refine lv_aload_n hx hb dX7_point_123 rfl (lv_at hl 0 rfl) ?_
              refine gf_RX7_162 C hP dX7_point_124 ?_
              refine lv_cv (y := ((σ.1 7) - 1)) rfl ?_
              obtain ⟨i21, h⟩ := gi_some h
              refine ldM_3 C hP i21 dX7_point_127 ?_
              refine lv_cv (y := (σ.2 3 ((σ.1 7) - 1).toNatClampNeg)) rfl ?_
              obtain ⟨i22, h⟩ := gi_some h
              refine stM_3 C hP hD hS i22 dX7_point_128 (fun H locs hP hD hS => ?_)
              refine lv_iload_n hx hb dX7_point_129 rfl (lv_at hl 3 rfl) ?_
              refine lv_if_ge (tgt := 137) hx hb dX7_point_130 (by decide) (fun c23 => ?_) (fun c23 => ?_)
              · replace h := ifp c23 h
                refine lv_iconst (v := 1) hx hb dX7_point_137 (by decide) ?_
                obtain ⟨rfl, rfl⟩ := so2 h
                exact retI C hP hD hS dX7_point_138
              · replace h := ifn c23 h
                refine lv_iconst (v := 0) hx hb dX7_point_133 (by decide) ?_
                refine lv_goto (tgt := 138) hx hb dX7_point_134 (by decide) ?_
                obtain ⟨rfl, rfl⟩ := so2 h
                exact retI C hP hD hS dX7_point_138
        · replace h := ifn c16 h
          refine lv_aload_n hx hb dX7_point_65 rfl (lv_at hl 0 rfl) ?_
          refine gf_RX7_162 C hP dX7_point_66 ?_
          refine lv_iconst (v := 5) hx hb dX7_point_69 (by decide) ?_
          refine lv_icmp_ne (tgt := 76) hx hb dX7_point_70 (by decide) (fun c24 => ?_) (fun c24 => ?_)
          · replace h := ifn c24 h
            refine lv_aload_n hx hb dX7_point_76 rfl (lv_at hl 0 rfl) ?_
            refine gf_RX7_38 C hP dX7_point_77 ?_
            refine lv_aload_n hx hb dX7_point_80 rfl (lv_at hl 0 rfl) ?_
            refine gf_RX7_162 C hP dX7_point_81 ?_
            refine lv_iload_n hx hb dX7_point_84 rfl (lv_at hl 1 rfl) ?_
            obtain ⟨i25, h⟩ := gi_some h
            refine stM_3 C hP hD hS i25 dX7_point_85 (fun H locs hP hD hS => ?_)
            refine lv_aload_n hx hb dX7_point_86 rfl (lv_at hl 0 rfl) ?_
            refine lv_dup hx hb dX7_point_87 rfl ?_
            refine gf_RX7_162 C hP dX7_point_88 ?_
            refine lv_cv (y := (σ.1 7)) rfl ?_
            refine lv_iconst (v := 1) hx hb dX7_point_91 (by decide) ?_
            refine lv_iadd hx hb dX7_point_92 ?_
            refine pf_RX7_162 C hP hD hS dX7_point_93 (fun H locs hP hD hS => ?_)
            refine lv_iload_n hx hb dX7_point_96 rfl (lv_at hl 2 rfl) ?_
            refine lv_if_ne (tgt := 129) hx hb dX7_point_97 (by decide) (fun c26 => ?_) (fun c26 => ?_)
            · replace h := ifn c26 h
              refine lv_iload_n hx hb dX7_point_129 rfl (lv_at hl 3 rfl) ?_
              refine lv_if_ge (tgt := 137) hx hb dX7_point_130 (by decide) (fun c27 => ?_) (fun c27 => ?_)
              · replace h := ifp c27 h
                refine lv_iconst (v := 1) hx hb dX7_point_137 (by decide) ?_
                obtain ⟨rfl, rfl⟩ := so2 h
                exact retI C hP hD hS dX7_point_138
              · replace h := ifn c27 h
                refine lv_iconst (v := 0) hx hb dX7_point_133 (by decide) ?_
                refine lv_goto (tgt := 138) hx hb dX7_point_134 (by decide) ?_
                obtain ⟨rfl, rfl⟩ := so2 h
                exact retI C hP hD hS dX7_point_138
            · replace h := ifp c26 h
              refine lv_iload_n hx hb dX7_point_100 rfl (lv_at hl 3 rfl) ?_
              refine lv_if_lt (tgt := 129) hx hb dX7_point_101 (by decide) (fun c28 => ?_) (fun c28 => ?_)
              · replace h := ifp c28 h
                refine lv_iload_n hx hb dX7_point_129 rfl (lv_at hl 3 rfl) ?_
                refine lv_if_ge (tgt := 137) hx hb dX7_point_130 (by decide) (fun c29 => ?_) (fun c29 => ?_)
                · replace h := ifp c29 h
                  refine lv_iconst (v := 1) hx hb dX7_point_137 (by decide) ?_
                  obtain ⟨rfl, rfl⟩ := so2 h
                  exact retI C hP hD hS dX7_point_138
                · replace h := ifn c29 h
                  refine lv_iconst (v := 0) hx hb dX7_point_133 (by decide) ?_
                  refine lv_goto (tgt := 138) hx hb dX7_point_134 (by decide) ?_
                  obtain ⟨rfl, rfl⟩ := so2 h
                  exact retI C hP hD hS dX7_point_138
              · replace h := ifn c28 h
                refine lv_aload_n hx hb dX7_point_104 rfl (lv_at hl 0 rfl) ?_
                refine lv_dup hx hb dX7_point_105 rfl ?_
                refine gf_RX7_162 C hP dX7_point_106 ?_
                refine lv_cv (y := ((σ.1 7) + 1)) rfl ?_
                refine lv_iconst (v := 1) hx hb dX7_point_109 (by decide) ?_
                refine lv_isub hx hb dX7_point_110 ?_
                refine pf_RX7_162 C hP hD hS dX7_point_111 (fun H locs hP hD hS => ?_)
                refine lv_aload_n hx hb dX7_point_114 rfl (lv_at hl 0 rfl) ?_
                refine gf_RX7_38 C hP dX7_point_115 ?_
                refine lv_iload_n hx hb dX7_point_118 rfl (lv_at hl 3 rfl) ?_
                refine lv_aload_n hx hb dX7_point_119 rfl (lv_at hl 0 rfl) ?_
                refine gf_RX7_38 C hP dX7_point_120 ?_
                refine lv_aload_n hx hb dX7_point_123 rfl (lv_at hl 0 rfl) ?_
                refine gf_RX7_162 C hP dX7_point_124 ?_
                refine lv_cv (y := (((σ.1 7) + 1) - 1)) rfl ?_
                obtain ⟨i30, h⟩ := gi_some h
                refine ldM_3 C hP i30 dX7_point_127 ?_
                refine lv_cv (y := ((sA σ 3 (σ.1 7).toNatClampNeg v1).2 3 (((σ.1 7) + 1) - 1).toNatClampNeg)) rfl ?_
                obtain ⟨i31, h⟩ := gi_some h
                refine stM_3 C hP hD hS i31 dX7_point_128 (fun H locs hP hD hS => ?_)
                refine lv_iload_n hx hb dX7_point_129 rfl (lv_at hl 3 rfl) ?_
                refine lv_if_ge (tgt := 137) hx hb dX7_point_130 (by decide) (fun c32 => ?_) (fun c32 => ?_)
                · replace h := ifp c32 h
                  refine lv_iconst (v := 1) hx hb dX7_point_137 (by decide) ?_
                  obtain ⟨rfl, rfl⟩ := so2 h
                  exact retI C hP hD hS dX7_point_138
                · replace h := ifn c32 h
                  refine lv_iconst (v := 0) hx hb dX7_point_133 (by decide) ?_
                  refine lv_goto (tgt := 138) hx hb dX7_point_134 (by decide) ?_
                  obtain ⟨rfl, rfl⟩ := so2 h
                  exact retI C hP hD hS dX7_point_138
          · replace h := ifp c24 h
            refine lv_bipush (v := (-2)) hx hb dX7_point_73 (by decide) ?_
            obtain ⟨rfl, rfl⟩ := so2 h
            exact retI C hP hD hS dX7_point_75
    · replace h := ifn c7 h
      refine lv_aload_n hx hb dX7_point_32 rfl (lv_at hl 0 rfl) ?_
      refine gf_RX7_38 C hP dX7_point_33 ?_
      refine lv_iload hx hb dX7_point_36 (lv_at hl 4 rfl) ?_
      obtain ⟨i33, h⟩ := gi_some h
      refine ldM_3 C hP i33 dX7_point_38 ?_
      refine lv_iload_n hx hb dX7_point_39 rfl (lv_at hl 1 rfl) ?_
      refine lv_icmp_ne (tgt := 48) hx hb dX7_point_40 (by decide) (fun c34 => ?_) (fun c34 => ?_)
      · replace h := ifn c34 h
        refine lv_iload_n hx hb dX7_point_48 rfl (lv_at hl 3 rfl) ?_
        refine lv_istore_n (lv' := [(3, .int v3), (0, .ref (q 0)), (1, .int v1), (2, .int v2), (4, .int v4)]) hx hb dX7_point_49 rfl hl (by decide) rfl (fun ls hl => ?_)
        refine lv_iinc (v := (v4 + 1)) (lv' := [(4, .int (v4 + 1)), (3, .int v3), (0, .ref (q 0)), (1, .int v1), (2, .int v2)]) hx hb dX7_point_50 hl (k := 4) rfl (by first | rfl | decide) (by decide) rfl (fun ls hl => ?_)
        refine lv_goto (tgt := 23) hx hb dX7_point_53 (by decide) ?_
        exact ih v3 (v4 + 1) σ _ _ _ h hP hD hS (lv_sub hl [2, 3, 4, 1, 0] rfl)
      · replace h := ifp c34 h
        refine lv_iload hx hb dX7_point_43 (lv_at hl 4 rfl) ?_
        refine lv_goto (tgt := 49) hx hb dX7_point_45 (by decide) ?_
        refine lv_istore_n (lv' := [(3, .int v4), (0, .ref (q 0)), (1, .int v1), (2, .int v2), (4, .int v4)]) hx hb dX7_point_49 rfl hl (by decide) rfl (fun ls hl => ?_)
        refine lv_iinc (v := (v4 + 1)) (lv' := [(4, .int (v4 + 1)), (3, .int v4), (0, .ref (q 0)), (1, .int v1), (2, .int v2)]) hx hb dX7_point_50 hl (k := 4) rfl (by first | rfl | decide) (by decide) rfl (fun ls hl => ?_)
        refine lv_goto (tgt := 23) hx hb dX7_point_53 (by decide) ?_
        exact ih v4 (v4 + 1) σ _ _ _ h hP hD hS (lv_sub hl [2, 3, 4, 1, 0] rfl)

def fM_point (N : Nat) (σ : St) (a1 : Int32) (a2 : Int32) : Option (Int32 × St) :=
  bd1 (fM_isPlace N a1) (fun r2 => (if r2 = 0 then some ((-1), σ) else bd1 (fM_within N a2 0 1) (fun r5 => (if r5 = 0 then some ((-1), σ) else fM_point_L23 N a1 a2 N (-1) 0 σ))))
set_option maxHeartbeats 4000000 in
set_option maxRecDepth 100000 in
theorem ctM_point {G : GP} {l : Launch} {q : Nat → Nat} (N : Nat) (σ σ' : St) (a1 : Int32) (a2 : Int32) (r : Int32) (h : fM_point N σ a1 a2 = some (r, σ')) : CI G l yX7_point cX7_point 5 (some .int) 2 [.ref (q 0), .int a1, .int a2] (mW G q σ) (mW G q (σ')) r := by
  refine enterI (own := RX7) (by decide) rfl (Nat.le_of_ble_eq_true rfl) ?_
  intro p e s m args below meth c A C hP hD hS ls hl
  obtain ⟨hx, hb, hml, hown, hts, hK, hZ, hA, hlk, hr⟩ := id C
  have hl : lv_has ls 5 [(0, .ref (q 0)), (1, .int a1), (2, .int a2)] := hl
  rw [fM_point.eq_1] at h
  refine lv_iload_n hx hb dX7_point_0 rfl (lv_at hl 1 rfl) ?_
  obtain ⟨r2, h1, h⟩ := bd1_some h
  refine goI C hD hS (runS (As := [.int a1]) (rest := []) (w := (mW G q σ)) C lc_RX7_155 (ctM_isPlace (w := (mW G q σ)) N a1 r2 h1 _) hP hD hS hl.1 rfl rfl (by decide) (by decide) (Nat.le_of_ble_eq_true rfl) dX7_point_1) (fun H locs hP hD hS => ?_)
  refine lv_if_eq (tgt := 16) hx hb dX7_point_4 (by decide) (fun c3 => ?_) (fun c3 => ?_)
  · replace h := ifp c3 h
    refine lv_iconst (v := (-1)) hx hb dX7_point_16 (by decide) ?_
    obtain ⟨rfl, rfl⟩ := so2 h
    exact retI C hP hD hS dX7_point_17
  · replace h := ifn c3 h
    refine lv_iload_n hx hb dX7_point_7 rfl (lv_at hl 2 rfl) ?_
    refine lv_iconst (v := 0) hx hb dX7_point_8 (by decide) ?_
    refine lv_iconst (v := 1) hx hb dX7_point_9 (by decide) ?_
    obtain ⟨r5, h4, h⟩ := bd1_some h
    refine goI C hD hS (runS (As := [.int a2, .int 0, .int 1]) (rest := []) (w := (mW G q σ)) C lc_RX7_75 (ctM_within (w := (mW G q σ)) N a2 0 1 r5 h4 _) hP hD hS hl.1 rfl rfl (by decide) (by decide) (Nat.le_of_ble_eq_true rfl) dX7_point_10) (fun H locs hP hD hS => ?_)
    refine lv_if_ne (tgt := 18) hx hb dX7_point_13 (by decide) (fun c6 => ?_) (fun c6 => ?_)
    · replace h := ifn c6 h
      refine lv_iconst (v := (-1)) hx hb dX7_point_18 (by decide) ?_
      refine lv_istore_n (lv' := [(3, .int (-1)), (0, .ref (q 0)), (1, .int a1), (2, .int a2)]) hx hb dX7_point_19 rfl hl (by decide) rfl (fun ls hl => ?_)
      refine lv_iconst (v := 0) hx hb dX7_point_20 (by decide) ?_
      refine lv_istore (lv' := [(4, .int 0), (3, .int (-1)), (0, .ref (q 0)), (1, .int a1), (2, .int a2)]) hx hb dX7_point_21 hl (by decide) rfl (fun ls hl => ?_)
      exact wM_point_L23 C N a1 a2 r σ' N (-1) 0 σ _ _ _ h hP hD hS (lv_sub hl [2, 3, 4, 1, 0] rfl)
    · replace h := ifp c6 h
      refine lv_iconst (v := (-1)) hx hb dX7_point_16 (by decide) ?_
      obtain ⟨rfl, rfl⟩ := so2 h
      exact retI C hP hD hS dX7_point_17

def fM_offWith_L6 (N : Nat) (σ : St) (v1 : Int32) (v2 : Int32) (v3 : Int32) (v4 : Int32) (v5 : Int32) (v6 : Int32) : Nat → Int32 → Int32 → Option Int32
  | 0, _, _ => none
  | n + 1, v7, v8 => (if (σ.1 7) ≤ v8 then some v7 else gi v8 5 (bd1 (fM_errorAt N σ (σ.2 3 v8.toNatClampNeg) v1 v2 v3 v4 v5 v6) (fun r4 => bd1 (fM_size N r4) (fun r6 => fM_offWith_L6 N σ v1 v2 v3 v4 v5 v6 n (v7 + r6) (v8 + 1)))))
set_option maxHeartbeats 4000000 in
set_option maxRecDepth 100000 in
theorem wM_offWith_L6 {q : Nat → Nat} (C : Cx G p s m args meth c cX7_offWith 9 (some .int) (Cond.code yX7_offWith cX7_offWith 9 (some .int)) RX7 A) (N : Nat) (σ : St) (v1 : Int32) (v2 : Int32) (v3 : Int32) (v4 : Int32) (v5 : Int32) (v6 : Int32) (r : Int32) : ∀ (n : Nat) (v7 : Int32) (v8 : Int32) (H : Heap) (locs : List Loc) (ls : Array Slot), fM_offWith_L6 N σ v1 v2 v3 v4 v5 v6 n v7 v8 = some r → va_P G.1 vwCl (mW G q σ) H → va_D A (mW G q σ) → va_S A s.heap H locs → lv_has ls 9 [(0, .ref (q 0)), (1, .int v1), (2, .int v2), (3, .int v3), (4, .int v4), (5, .int v5), (6, .int v6), (7, .int v7), (8, .int v8)] → W p l e (rmD 4) s m args below meth c H locs 0 0 (QI G below args s A (mW G q σ) r) (F0 m 6 ls []) := by
  obtain ⟨hx, hb, hml, hown, hts, hK, hZ, hA, hlk, hr⟩ := id C
  intro n
  induction n with
  | zero =>
    intro v7 v8 H locs ls h
    cases h
  | succ n ih =>
    intro v7 v8 H locs ls h hP hD hS hl
    rw [fM_offWith_L6.eq_2] at h
    refine lv_iload hx hb dX7_offWith_6 (lv_at hl 8 rfl) ?_
    refine lv_aload_n hx hb dX7_offWith_8 rfl (lv_at hl 0 rfl) ?_
    refine gf_RX7_162 C hP dX7_offWith_9 ?_
    refine lv_icmp_ge (tgt := 49) hx hb dX7_offWith_12 (by decide) (fun c1 => ?_) (fun c1 => ?_)
    · replace h := ifp c1 h
      refine lv_iload hx hb dX7_offWith_49 (lv_at hl 7 rfl) ?_
      obtain rfl := so1 h
      exact retI C hP hD hS dX7_offWith_51
    · replace h := ifn c1 h
      refine lv_iload hx hb dX7_offWith_15 (lv_at hl 7 rfl) ?_
      refine lv_aload_n hx hb dX7_offWith_17 rfl (lv_at hl 0 rfl) ?_
      refine lv_aload_n hx hb dX7_offWith_18 rfl (lv_at hl 0 rfl) ?_
      refine gf_RX7_38 C hP dX7_offWith_19 ?_
      refine lv_iload hx hb dX7_offWith_22 (lv_at hl 8 rfl) ?_
      obtain ⟨i2, h⟩ := gi_some h
      refine ldM_3 C hP i2 dX7_offWith_24 ?_
      refine lv_iload_n hx hb dX7_offWith_25 rfl (lv_at hl 1 rfl) ?_
      refine lv_iload_n hx hb dX7_offWith_26 rfl (lv_at hl 2 rfl) ?_
      refine lv_iload_n hx hb dX7_offWith_27 rfl (lv_at hl 3 rfl) ?_
      refine lv_iload hx hb dX7_offWith_28 (lv_at hl 4 rfl) ?_
      refine lv_iload hx hb dX7_offWith_30 (lv_at hl 5 rfl) ?_
      refine lv_iload hx hb dX7_offWith_32 (lv_at hl 6 rfl) ?_
      obtain ⟨r4, h3, h⟩ := bd1_some h
      refine goI C hD hS (runV (As := [.int (σ.2 3 v8.toNatClampNeg), .int v1, .int v2, .int v3, .int v4, .int v5, .int v6]) (rest := [.int v7]) (w := (mW G q σ)) C lc_RX7_158 (ctM_errorAt N σ (σ.2 3 v8.toNatClampNeg) v1 v2 v3 v4 v5 v6 r4 h3 _) hP hD hS (va_recv C.2.2.2.2.2.1 hP (ci := 7) (q0 := 0) rfl rfl) hl.1 rfl rfl (by decide) (by decide) (Nat.le_of_ble_eq_true rfl) dX7_offWith_34) (fun H locs hP hD hS => ?_)
      obtain ⟨r6, h5, h⟩ := bd1_some h
      refine goI C hD hS (runS (As := [.int r4]) (rest := [.int v7]) (w := (mW G q σ)) C lc_RX7_91 (ctM_size (w := (mW G q σ)) N r4 r6 h5 _) hP hD hS hl.1 rfl rfl (by decide) (by decide) (Nat.le_of_ble_eq_true rfl) dX7_offWith_37) (fun H locs hP hD hS => ?_)
      refine lv_iadd hx hb dX7_offWith_40 ?_
      refine lv_istore (lv' := [(7, .int (v7 + r6)), (0, .ref (q 0)), (1, .int v1), (2, .int v2), (3, .int v3), (4, .int v4), (5, .int v5), (6, .int v6), (8, .int v8)]) hx hb dX7_offWith_41 hl (by decide) rfl (fun ls hl => ?_)
      refine lv_iinc (v := (v8 + 1)) (lv' := [(8, .int (v8 + 1)), (7, .int (v7 + r6)), (0, .ref (q 0)), (1, .int v1), (2, .int v2), (3, .int v3), (4, .int v4), (5, .int v5), (6, .int v6)]) hx hb dX7_offWith_43 hl (k := 8) rfl (by first | rfl | decide) (by decide) rfl (fun ls hl => ?_)
      refine lv_goto (tgt := 6) hx hb dX7_offWith_46 (by decide) ?_
      exact ih (v7 + r6) (v8 + 1) _ _ _ h hP hD hS (lv_sub hl [2, 3, 4, 5, 6, 7, 8, 1, 0] rfl)

def fM_offWith (N : Nat) (σ : St) (a1 : Int32) (a2 : Int32) (a3 : Int32) (a4 : Int32) (a5 : Int32) (a6 : Int32) : Option Int32 :=
  fM_offWith_L6 N σ a1 a2 a3 a4 a5 a6 N 0 0
set_option maxHeartbeats 4000000 in
set_option maxRecDepth 100000 in
theorem ctM_offWith {G : GP} {l : Launch} {q : Nat → Nat} (N : Nat) (σ : St) (a1 : Int32) (a2 : Int32) (a3 : Int32) (a4 : Int32) (a5 : Int32) (a6 : Int32) (r : Int32) (h : fM_offWith N σ a1 a2 a3 a4 a5 a6 = some r) : CI G l yX7_offWith cX7_offWith 9 (some .int) 4 [.ref (q 0), .int a1, .int a2, .int a3, .int a4, .int a5, .int a6] (mW G q σ) (mW G q σ) r := by
  refine enterI (own := RX7) (by decide) rfl (Nat.le_of_ble_eq_true rfl) ?_
  intro p e s m args below meth c A C hP hD hS ls hl
  obtain ⟨hx, hb, hml, hown, hts, hK, hZ, hA, hlk, hr⟩ := id C
  have hl : lv_has ls 9 [(0, .ref (q 0)), (1, .int a1), (2, .int a2), (3, .int a3), (4, .int a4), (5, .int a5), (6, .int a6)] := hl
  rw [fM_offWith.eq_1] at h
  refine lv_iconst (v := 0) hx hb dX7_offWith_0 (by decide) ?_
  refine lv_istore (lv' := [(7, .int 0), (0, .ref (q 0)), (1, .int a1), (2, .int a2), (3, .int a3), (4, .int a4), (5, .int a5), (6, .int a6)]) hx hb dX7_offWith_1 hl (by decide) rfl (fun ls hl => ?_)
  refine lv_iconst (v := 0) hx hb dX7_offWith_3 (by decide) ?_
  refine lv_istore (lv' := [(8, .int 0), (7, .int 0), (0, .ref (q 0)), (1, .int a1), (2, .int a2), (3, .int a3), (4, .int a4), (5, .int a5), (6, .int a6)]) hx hb dX7_offWith_4 hl (by decide) rfl (fun ls hl => ?_)
  exact wM_offWith_L6 C N σ a1 a2 a3 a4 a5 a6 r N 0 0 _ _ _ h hP hD hS (lv_sub hl [2, 3, 4, 5, 6, 7, 8, 1, 0] rfl)

def fM_off (N : Nat) (σ : St) : Option Int32 :=
  bd1 (fM_offWith N σ (σ.2 2 (0 : Int32).toNatClampNeg) (σ.2 2 (1 : Int32).toNatClampNeg) (σ.2 2 (2 : Int32).toNatClampNeg) (σ.2 2 (3 : Int32).toNatClampNeg) (σ.2 2 (4 : Int32).toNatClampNeg) (σ.1 1)) (fun r2 => some r2)
set_option maxHeartbeats 4000000 in
set_option maxRecDepth 100000 in
theorem ctM_off {G : GP} {l : Launch} {q : Nat → Nat} (N : Nat) (σ : St) (r : Int32) (h : fM_off N σ = some r) : CI G l yX7_off cX7_off 1 (some .int) 5 [.ref (q 0)] (mW G q σ) (mW G q σ) r := by
  refine enterI (own := RX7) (by decide) rfl (Nat.le_of_ble_eq_true rfl) ?_
  intro p e s m args below meth c A C hP hD hS ls hl
  obtain ⟨hx, hb, hml, hown, hts, hK, hZ, hA, hlk, hr⟩ := id C
  have hl : lv_has ls 1 [(0, .ref (q 0))] := hl
  rw [fM_off.eq_1] at h
  refine lv_aload_n hx hb dX7_off_0 rfl (lv_at hl 0 rfl) ?_
  refine lv_aload_n hx hb dX7_off_1 rfl (lv_at hl 0 rfl) ?_
  refine gf_RX7_35 C hP dX7_off_2 ?_
  refine lv_iconst (v := 0) hx hb dX7_off_5 (by decide) ?_
  refine ldM_2 C hP (vin (by decide)) dX7_off_6 ?_
  refine lv_aload_n hx hb dX7_off_7 rfl (lv_at hl 0 rfl) ?_
  refine gf_RX7_35 C hP dX7_off_8 ?_
  refine lv_iconst (v := 1) hx hb dX7_off_11 (by decide) ?_
  refine ldM_2 C hP (vin (by decide)) dX7_off_12 ?_
  refine lv_aload_n hx hb dX7_off_13 rfl (lv_at hl 0 rfl) ?_
  refine gf_RX7_35 C hP dX7_off_14 ?_
  refine lv_iconst (v := 2) hx hb dX7_off_17 (by decide) ?_
  refine ldM_2 C hP (vin (by decide)) dX7_off_18 ?_
  refine lv_aload_n hx hb dX7_off_19 rfl (lv_at hl 0 rfl) ?_
  refine gf_RX7_35 C hP dX7_off_20 ?_
  refine lv_iconst (v := 3) hx hb dX7_off_23 (by decide) ?_
  refine ldM_2 C hP (vin (by decide)) dX7_off_24 ?_
  refine lv_aload_n hx hb dX7_off_25 rfl (lv_at hl 0 rfl) ?_
  refine gf_RX7_35 C hP dX7_off_26 ?_
  refine lv_iconst (v := 4) hx hb dX7_off_29 (by decide) ?_
  refine ldM_2 C hP (vin (by decide)) dX7_off_30 ?_
  refine lv_aload_n hx hb dX7_off_31 rfl (lv_at hl 0 rfl) ?_
  refine gf_RX7_16 C hP dX7_off_32 ?_
  obtain ⟨r2, h1, h⟩ := bd1_some h
  refine goI C hD hS (runV (As := [.int (σ.2 2 (0 : Int32).toNatClampNeg), .int (σ.2 2 (1 : Int32).toNatClampNeg), .int (σ.2 2 (2 : Int32).toNatClampNeg), .int (σ.2 2 (3 : Int32).toNatClampNeg), .int (σ.2 2 (4 : Int32).toNatClampNeg), .int (σ.1 1)]) (rest := []) (w := (mW G q σ)) C lc_RX7_165 (ctM_offWith N σ (σ.2 2 (0 : Int32).toNatClampNeg) (σ.2 2 (1 : Int32).toNatClampNeg) (σ.2 2 (2 : Int32).toNatClampNeg) (σ.2 2 (3 : Int32).toNatClampNeg) (σ.2 2 (4 : Int32).toNatClampNeg) (σ.1 1) r2 h1 _) hP hD hS (va_recv C.2.2.2.2.2.1 hP (ci := 7) (q0 := 0) rfl rfl) hl.1 rfl rfl (by decide) (by decide) (Nat.le_of_ble_eq_true rfl) dX7_off_35) (fun H locs hP hD hS => ?_)
  obtain rfl := so1 h
  exact retI C hP hD hS dX7_off_38

def fM_trimmed_L74 (N : Nat) (σ : St) (v2 : Int32) (v3 : Int32) (v4 : Int32) (v5 : Int32) (v6 : Int32) (v7 : Int32) : Nat → Int32 → Int32 → Int32 → Option (Int32 × Int32)
  | 0, _, _, _ => none
  | n + 1, v8, v9, v10 => (if (σ.1 7) ≤ v10 then some (v8, v9) else gi v10 5 (bd1 (fM_errorAt N σ (σ.2 3 v10.toNatClampNeg) (σ.2 2 (0 : Int32).toNatClampNeg) v7 v6 (σ.2 2 (3 : Int32).toNatClampNeg) (σ.2 2 (4 : Int32).toNatClampNeg) (σ.1 1)) (fun r11 => bd1 (fM_size N r11) (fun r13 => (if r13 ≤ v8 then fM_trimmed_L74 N σ v2 v3 v4 v5 v6 v7 n v8 (v9 + r13) (v10 + 1) else fM_trimmed_L74 N σ v2 v3 v4 v5 v6 v7 n r13 (v9 + r13) (v10 + 1))))))
set_option maxHeartbeats 4000000 in
set_option maxRecDepth 100000 in
theorem wM_trimmed_L74 {q : Nat → Nat} (C : Cx G p s m args meth c cX7_trimmed 12 (some .int) (Cond.code yX7_trimmed cX7_trimmed 12 (some .int)) RX7 A) (N : Nat) (σ : St) (v2 : Int32) (v3 : Int32) (v4 : Int32) (v5 : Int32) (v6 : Int32) (v7 : Int32) (v8' : Int32) (v9' : Int32) (K : ∀ H locs ls, va_P G.1 vwCl (mW G q σ) H → va_D A (mW G q σ) → va_S A s.heap H locs → lv_has ls 12 [(0, .ref (q 0)), (2, .int v2), (3, .int v3), (4, .int v4), (5, .int v5), (6, .int v6), (7, .int v7), (8, .int (v8')), (9, .int (v9'))] → W p l e (rmD 4) s m args below meth c H locs 0 0 Q (F0 m 154 ls [])) : ∀ (n : Nat) (v8 : Int32) (v9 : Int32) (v10 : Int32) (H : Heap) (locs : List Loc) (ls : Array Slot), fM_trimmed_L74 N σ v2 v3 v4 v5 v6 v7 n v8 v9 v10 = some (v8', v9') → va_P G.1 vwCl (mW G q σ) H → va_D A (mW G q σ) → va_S A s.heap H locs → lv_has ls 12 [(0, .ref (q 0)), (2, .int v2), (3, .int v3), (4, .int v4), (5, .int v5), (6, .int v6), (7, .int v7), (8, .int v8), (9, .int v9), (10, .int v10)] → W p l e (rmD 4) s m args below meth c H locs 0 0 Q (F0 m 74 ls []) := by
  obtain ⟨hx, hb, hml, hown, hts, hK, hZ, hA, hlk, hr⟩ := id C
  intro n
  induction n with
  | zero =>
    intro v8 v9 v10 H locs ls h
    cases h
  | succ n ih =>
    intro v8 v9 v10 H locs ls h hP hD hS hl
    rw [fM_trimmed_L74.eq_2] at h
    refine lv_iload hx hb dX7_trimmed_74 (lv_at hl 9 rfl) ?_
    refine lv_aload_n hx hb dX7_trimmed_76 rfl (lv_at hl 0 rfl) ?_
    refine gf_RX7_162 C hP dX7_trimmed_77 ?_
    refine lv_icmp_ge (tgt := 154) hx hb dX7_trimmed_80 (by decide) (fun c8 => ?_) (fun c8 => ?_)
    · replace h := ifp c8 h
      obtain ⟨rfl, rfl⟩ := so2 h
      exact K _ _ _ hP hD hS (lv_sub hl [0, 1, 2, 3, 4, 5, 6, 7, 8] rfl)
    · replace h := ifn c8 h
      refine lv_aload_n hx hb dX7_trimmed_83 rfl (lv_at hl 0 rfl) ?_
      refine lv_aload_n hx hb dX7_trimmed_84 rfl (lv_at hl 0 rfl) ?_
      refine gf_RX7_38 C hP dX7_trimmed_85 ?_
      refine lv_iload hx hb dX7_trimmed_88 (lv_at hl 9 rfl) ?_
      obtain ⟨i9, h⟩ := gi_some h
      refine ldM_3 C hP i9 dX7_trimmed_90 ?_
      refine lv_aload_n hx hb dX7_trimmed_91 rfl (lv_at hl 0 rfl) ?_
      refine gf_RX7_35 C hP dX7_trimmed_92 ?_
      refine lv_iconst (v := 0) hx hb dX7_trimmed_95 (by decide) ?_
      refine ldM_2 C hP (vin (by decide)) dX7_trimmed_96 ?_
      refine lv_iload hx hb dX7_trimmed_97 (lv_at hl 6 rfl) ?_
      refine lv_iload hx hb dX7_trimmed_99 (lv_at hl 5 rfl) ?_
      refine lv_aload_n hx hb dX7_trimmed_101 rfl (lv_at hl 0 rfl) ?_
      refine gf_RX7_35 C hP dX7_trimmed_102 ?_
      refine lv_iconst (v := 3) hx hb dX7_trimmed_105 (by decide) ?_
      refine ldM_2 C hP (vin (by decide)) dX7_trimmed_106 ?_
      refine lv_aload_n hx hb dX7_trimmed_107 rfl (lv_at hl 0 rfl) ?_
      refine gf_RX7_35 C hP dX7_trimmed_108 ?_
      refine lv_iconst (v := 4) hx hb dX7_trimmed_111 (by decide) ?_
      refine ldM_2 C hP (vin (by decide)) dX7_trimmed_112 ?_
      refine lv_aload_n hx hb dX7_trimmed_113 rfl (lv_at hl 0 rfl) ?_
      refine gf_RX7_16 C hP dX7_trimmed_114 ?_
      obtain ⟨r11, h10, h⟩ := bd1_some h
      refine goI C hD hS (runV (As := [.int (σ.2 3 v10.toNatClampNeg), .int (σ.2 2 (0 : Int32).toNatClampNeg), .int v7, .int v6, .int (σ.2 2 (3 : Int32).toNatClampNeg), .int (σ.2 2 (4 : Int32).toNatClampNeg), .int (σ.1 1)]) (rest := []) (w := (mW G q σ)) C lc_RX7_158 (ctM_errorAt N σ (σ.2 3 v10.toNatClampNeg) (σ.2 2 (0 : Int32).toNatClampNeg) v7 v6 (σ.2 2 (3 : Int32).toNatClampNeg) (σ.2 2 (4 : Int32).toNatClampNeg) (σ.1 1) r11 h10 _) hP hD hS (va_recv C.2.2.2.2.2.1 hP (ci := 7) (q0 := 0) rfl rfl) hl.1 rfl rfl (by decide) (by decide) (Nat.le_of_ble_eq_true rfl) dX7_trimmed_117) (fun H locs hP hD hS => ?_)
      obtain ⟨r13, h12, h⟩ := bd1_some h
      refine goI C hD hS (runS (As := [.int r11]) (rest := []) (w := (mW G q σ)) C lc_RX7_91 (ctM_size (w := (mW G q σ)) N r11 r13 h12 _) hP hD hS hl.1 rfl rfl (by decide) (by decide) (Nat.le_of_ble_eq_true rfl) dX7_trimmed_120) (fun H locs hP hD hS => ?_)
      refine lv_istore (lv' := [(11, .int r13), (0, .ref (q 0)), (2, .int v2), (3, .int v3), (4, .int v4), (5, .int v5), (6, .int v6), (7, .int v7), (8, .int v8), (9, .int v9), (10, .int v10)]) hx hb dX7_trimmed_123 hl (by decide) rfl (fun ls hl => ?_)
      refine lv_iload hx hb dX7_trimmed_125 (lv_at hl 0 rfl) ?_
      refine lv_iload hx hb dX7_trimmed_127 (lv_at hl 8 rfl) ?_
      refine lv_icmp_le (tgt := 137) hx hb dX7_trimmed_129 (by decide) (fun c14 => ?_) (fun c14 => ?_)
      · replace h := ifp c14 h
        refine lv_iload hx hb dX7_trimmed_137 (lv_at hl 8 rfl) ?_
        refine lv_istore (lv' := [(8, .int v8), (11, .int r13), (0, .ref (q 0)), (2, .int v2), (3, .int v3), (4, .int v4), (5, .int v5), (6, .int v6), (7, .int v7), (9, .int v9), (10, .int v10)]) hx hb dX7_trimmed_139 hl (by decide) rfl (fun ls hl => ?_)
        refine lv_iload hx hb dX7_trimmed_141 (lv_at hl 9 rfl) ?_
        refine lv_iload hx hb dX7_trimmed_143 (lv_at hl 1 rfl) ?_
        refine lv_iadd hx hb dX7_trimmed_145 ?_
        refine lv_istore (lv' := [(9, .int (v9 + r13)), (8, .int v8), (11, .int r13), (0, .ref (q 0)), (2, .int v2), (3, .int v3), (4, .int v4), (5, .int v5), (6, .int v6), (7, .int v7), (10, .int v10)]) hx hb dX7_trimmed_146 hl (by decide) rfl (fun ls hl => ?_)
        refine lv_iinc (v := (v10 + 1)) (lv' := [(10, .int (v10 + 1)), (9, .int (v9 + r13)), (8, .int v8), (11, .int r13), (0, .ref (q 0)), (2, .int v2), (3, .int v3), (4, .int v4), (5, .int v5), (6, .int v6), (7, .int v7)]) hx hb dX7_trimmed_148 hl (k := 10) rfl (by first | rfl | decide) (by decide) rfl (fun ls hl => ?_)
        refine lv_goto (tgt := 74) hx hb dX7_trimmed_151 (by decide) ?_
        exact ih v8 (v9 + r13) (v10 + 1) _ _ _ h hP hD hS (lv_sub hl [4, 5, 6, 7, 8, 9, 10, 2, 1, 0] rfl)
      · replace h := ifn c14 h
        refine lv_iload hx hb dX7_trimmed_132 (lv_at hl 0 rfl) ?_
        refine lv_goto (tgt := 139) hx hb dX7_trimmed_134 (by decide) ?_
        refine lv_istore (lv' := [(8, .int r13), (11, .int r13), (0, .ref (q 0)), (2, .int v2), (3, .int v3), (4, .int v4), (5, .int v5), (6, .int v6), (7, .int v7), (9, .int v9), (10, .int v10)]) hx hb dX7_trimmed_139 hl (by decide) rfl (fun ls hl => ?_)
        refine lv_iload hx hb dX7_trimmed_141 (lv_at hl 9 rfl) ?_
        refine lv_iload hx hb dX7_trimmed_143 (lv_at hl 1 rfl) ?_
        refine lv_iadd hx hb dX7_trimmed_145 ?_
        refine lv_istore (lv' := [(9, .int (v9 + r13)), (8, .int r13), (11, .int r13), (0, .ref (q 0)), (2, .int v2), (3, .int v3), (4, .int v4), (5, .int v5), (6, .int v6), (7, .int v7), (10, .int v10)]) hx hb dX7_trimmed_146 hl (by decide) rfl (fun ls hl => ?_)
        refine lv_iinc (v := (v10 + 1)) (lv' := [(10, .int (v10 + 1)), (9, .int (v9 + r13)), (8, .int r13), (11, .int r13), (0, .ref (q 0)), (2, .int v2), (3, .int v3), (4, .int v4), (5, .int v5), (6, .int v6), (7, .int v7)]) hx hb dX7_trimmed_148 hl (k := 10) rfl (by first | rfl | decide) (by decide) rfl (fun ls hl => ?_)
        refine lv_goto (tgt := 74) hx hb dX7_trimmed_151 (by decide) ?_
        exact ih r13 (v9 + r13) (v10 + 1) _ _ _ h hP hD hS (lv_sub hl [4, 5, 6, 7, 8, 9, 10, 2, 1, 0] rfl)

def fM_trimmed_L58 (N : Nat) (σ : St) (v2 : Int32) (v6 : Int32) : Nat → Int32 → Int32 → Int32 → Int32 → Option (Int32 × Int32 × Int32)
  | 0, _, _, _, _ => none
  | n + 1, v3, v4, v5, v7 => (if 100 ≤ v7 then some (v3, v4, v5) else bd2 (fM_trimmed_L74 N σ v2 v3 v4 v5 v6 v7 N 0 0 0) (fun y15 y16 => (if v3 < 0 then fM_trimmed_L58 N σ v2 v6 n ((100 * v6) + v7) y15 y16 (v7 + 1) else (if y15 < v4 then fM_trimmed_L58 N σ v2 v6 n ((100 * v6) + v7) y15 y16 (v7 + 1) else (if y15 = v4 then (if v5 ≤ y16 then fM_trimmed_L58 N σ v2 v6 n v3 v4 v5 (v7 + 1) else fM_trimmed_L58 N σ v2 v6 n ((100 * v6) + v7) y15 y16 (v7 + 1)) else fM_trimmed_L58 N σ v2 v6 n v3 v4 v5 (v7 + 1))))))
set_option maxHeartbeats 4000000 in
set_option maxRecDepth 100000 in
theorem wM_trimmed_L58 {q : Nat → Nat} (C : Cx G p s m args meth c cX7_trimmed 12 (some .int) (Cond.code yX7_trimmed cX7_trimmed 12 (some .int)) RX7 A) (N : Nat) (σ : St) (v2 : Int32) (v6 : Int32) (v3' : Int32) (v4' : Int32) (v5' : Int32) (K : ∀ H locs ls, va_P G.1 vwCl (mW G q σ) H → va_D A (mW G q σ) → va_S A s.heap H locs → lv_has ls 12 [(0, .ref (q 0)), (2, .int v2), (3, .int (v3')), (4, .int (v4')), (5, .int (v5')), (6, .int v6)] → W p l e (rmD 4) s m args below meth c H locs 0 0 Q (F0 m 202 ls [])) : ∀ (n : Nat) (v3 : Int32) (v4 : Int32) (v5 : Int32) (v7 : Int32) (H : Heap) (locs : List Loc) (ls : Array Slot), fM_trimmed_L58 N σ v2 v6 n v3 v4 v5 v7 = some (v3', v4', v5') → va_P G.1 vwCl (mW G q σ) H → va_D A (mW G q σ) → va_S A s.heap H locs → lv_has ls 12 [(0, .ref (q 0)), (2, .int v2), (3, .int v3), (4, .int v4), (5, .int v5), (6, .int v6), (7, .int v7)] → W p l e (rmD 4) s m args below meth c H locs 0 0 Q (F0 m 58 ls []) := by
  obtain ⟨hx, hb, hml, hown, hts, hK, hZ, hA, hlk, hr⟩ := id C
  intro n
  induction n with
  | zero =>
    intro v3 v4 v5 v7 H locs ls h
    cases h
  | succ n ih =>
    intro v3 v4 v5 v7 H locs ls h hP hD hS hl
    rw [fM_trimmed_L58.eq_2] at h
    refine lv_iload hx hb dX7_trimmed_58 (lv_at hl 6 rfl) ?_
    refine lv_bipush (v := 100) hx hb dX7_trimmed_60 (by decide) ?_
    refine lv_icmp_ge (tgt := 202) hx hb dX7_trimmed_62 (by decide) (fun c7 => ?_) (fun c7 => ?_)
    · replace h := ifp c7 h
      obtain ⟨rfl, rfl, rfl⟩ := so3 h
      exact K _ _ _ hP hD hS (lv_sub hl [0, 1, 2, 3, 4, 5] rfl)
    · replace h := ifn c7 h
      refine lv_iconst (v := 0) hx hb dX7_trimmed_65 (by decide) ?_
      refine lv_istore (lv' := [(8, .int 0), (0, .ref (q 0)), (2, .int v2), (3, .int v3), (4, .int v4), (5, .int v5), (6, .int v6), (7, .int v7)]) hx hb dX7_trimmed_66 hl (by decide) rfl (fun ls hl => ?_)
      refine lv_iconst (v := 0) hx hb dX7_trimmed_68 (by decide) ?_
      refine lv_istore (lv' := [(9, .int 0), (8, .int 0), (0, .ref (q 0)), (2, .int v2), (3, .int v3), (4, .int v4), (5, .int v5), (6, .int v6), (7, .int v7)]) hx hb dX7_trimmed_69 hl (by decide) rfl (fun ls hl => ?_)
      refine lv_iconst (v := 0) hx hb dX7_trimmed_71 (by decide) ?_
      refine lv_istore (lv' := [(10, .int 0), (9, .int 0), (8, .int 0), (0, .ref (q 0)), (2, .int v2), (3, .int v3), (4, .int v4), (5, .int v5), (6, .int v6), (7, .int v7)]) hx hb dX7_trimmed_72 hl (by decide) rfl (fun ls hl => ?_)
      obtain ⟨y15, y16, h17, h⟩ := bd2_some h
      refine wM_trimmed_L74 C N σ v2 v3 v4 v5 v6 v7 y15 y16 (fun H locs ls hP hD hS hl => ?_) N 0 0 0 _ _ _ h17 hP hD hS (lv_sub hl [3, 4, 5, 6, 7, 8, 9, 2, 1, 0] rfl)
      refine lv_iload_n hx hb dX7_trimmed_154 rfl (lv_at hl 2 rfl) ?_
      refine lv_if_lt (tgt := 179) hx hb dX7_trimmed_155 (by decide) (fun c18 => ?_) (fun c18 => ?_)
      · replace h := ifp c18 h
        refine lv_bipush (v := 100) hx hb dX7_trimmed_179 (by decide) ?_
        refine lv_iload hx hb dX7_trimmed_181 (lv_at hl 5 rfl) ?_
        refine lv_imul hx hb dX7_trimmed_183 ?_
        refine lv_iload hx hb dX7_trimmed_184 (lv_at hl 6 rfl) ?_
        refine lv_iadd hx hb dX7_trimmed_186 ?_
        refine lv_istore_n (lv' := [(3, .int ((100 * v6) + v7)), (0, .ref (q 0)), (2, .int v2), (4, .int v4), (5, .int v5), (6, .int v6), (7, .int v7), (8, .int y15), (9, .int y16)]) hx hb dX7_trimmed_187 rfl hl (by decide) rfl (fun ls hl => ?_)
        refine lv_iload hx hb dX7_trimmed_188 (lv_at hl 7 rfl) ?_
        refine lv_istore (lv' := [(4, .int y15), (3, .int ((100 * v6) + v7)), (0, .ref (q 0)), (2, .int v2), (5, .int v5), (6, .int v6), (7, .int v7), (8, .int y15), (9, .int y16)]) hx hb dX7_trimmed_190 hl (by decide) rfl (fun ls hl => ?_)
        refine lv_iload hx hb dX7_trimmed_192 (lv_at hl 8 rfl) ?_
        refine lv_istore (lv' := [(5, .int y16), (4, .int y15), (3, .int ((100 * v6) + v7)), (0, .ref (q 0)), (2, .int v2), (6, .int v6), (7, .int v7), (8, .int y15), (9, .int y16)]) hx hb dX7_trimmed_194 hl (by decide) rfl (fun ls hl => ?_)
        refine lv_iinc (v := (v7 + 1)) (lv' := [(7, .int (v7 + 1)), (5, .int y16), (4, .int y15), (3, .int ((100 * v6) + v7)), (0, .ref (q 0)), (2, .int v2), (6, .int v6), (8, .int y15), (9, .int y16)]) hx hb dX7_trimmed_196 hl (k := 6) rfl (by first | rfl | decide) (by decide) rfl (fun ls hl => ?_)
        refine lv_goto (tgt := 58) hx hb dX7_trimmed_199 (by decide) ?_
        exact ih ((100 * v6) + v7) y15 y16 (v7 + 1) _ _ _ h hP hD hS (lv_sub hl [4, 5, 3, 2, 1, 6, 0] rfl)
      · replace h := ifn c18 h
        refine lv_iload hx hb dX7_trimmed_158 (lv_at hl 7 rfl) ?_
        refine lv_iload hx hb dX7_trimmed_160 (lv_at hl 3 rfl) ?_
        refine lv_icmp_lt (tgt := 179) hx hb dX7_trimmed_162 (by decide) (fun c19 => ?_) (fun c19 => ?_)
        · replace h := ifp c19 h
          refine lv_bipush (v := 100) hx hb dX7_trimmed_179 (by decide) ?_
          refine lv_iload hx hb dX7_trimmed_181 (lv_at hl 5 rfl) ?_
          refine lv_imul hx hb dX7_trimmed_183 ?_
          refine lv_iload hx hb dX7_trimmed_184 (lv_at hl 6 rfl) ?_
          refine lv_iadd hx hb dX7_trimmed_186 ?_
          refine lv_istore_n (lv' := [(3, .int ((100 * v6) + v7)), (0, .ref (q 0)), (2, .int v2), (4, .int v4), (5, .int v5), (6, .int v6), (7, .int v7), (8, .int y15), (9, .int y16)]) hx hb dX7_trimmed_187 rfl hl (by decide) rfl (fun ls hl => ?_)
          refine lv_iload hx hb dX7_trimmed_188 (lv_at hl 7 rfl) ?_
          refine lv_istore (lv' := [(4, .int y15), (3, .int ((100 * v6) + v7)), (0, .ref (q 0)), (2, .int v2), (5, .int v5), (6, .int v6), (7, .int v7), (8, .int y15), (9, .int y16)]) hx hb dX7_trimmed_190 hl (by decide) rfl (fun ls hl => ?_)
          refine lv_iload hx hb dX7_trimmed_192 (lv_at hl 8 rfl) ?_
          refine lv_istore (lv' := [(5, .int y16), (4, .int y15), (3, .int ((100 * v6) + v7)), (0, .ref (q 0)), (2, .int v2), (6, .int v6), (7, .int v7), (8, .int y15), (9, .int y16)]) hx hb dX7_trimmed_194 hl (by decide) rfl (fun ls hl => ?_)
          refine lv_iinc (v := (v7 + 1)) (lv' := [(7, .int (v7 + 1)), (5, .int y16), (4, .int y15), (3, .int ((100 * v6) + v7)), (0, .ref (q 0)), (2, .int v2), (6, .int v6), (8, .int y15), (9, .int y16)]) hx hb dX7_trimmed_196 hl (k := 6) rfl (by first | rfl | decide) (by decide) rfl (fun ls hl => ?_)
          refine lv_goto (tgt := 58) hx hb dX7_trimmed_199 (by decide) ?_
          exact ih ((100 * v6) + v7) y15 y16 (v7 + 1) _ _ _ h hP hD hS (lv_sub hl [4, 5, 3, 2, 1, 6, 0] rfl)
        · replace h := ifn c19 h
          refine lv_iload hx hb dX7_trimmed_165 (lv_at hl 7 rfl) ?_
          refine lv_iload hx hb dX7_trimmed_167 (lv_at hl 3 rfl) ?_
          refine lv_icmp_ne (tgt := 196) hx hb dX7_trimmed_169 (by decide) (fun c20 => ?_) (fun c20 => ?_)
          · replace h := ifn c20 h
            refine lv_iinc (v := (v7 + 1)) (lv' := [(7, .int (v7 + 1)), (0, .ref (q 0)), (2, .int v2), (3, .int v3), (4, .int v4), (5, .int v5), (6, .int v6), (8, .int y15), (9, .int y16)]) hx hb dX7_trimmed_196 hl (k := 6) rfl (by first | rfl | decide) (by decide) rfl (fun ls hl => ?_)
            refine lv_goto (tgt := 58) hx hb dX7_trimmed_199 (by decide) ?_
            exact ih v3 v4 v5 (v7 + 1) _ _ _ h hP hD hS (lv_sub hl [1, 2, 3, 4, 5, 6, 0] rfl)
          · replace h := ifp c20 h
            refine lv_iload hx hb dX7_trimmed_172 (lv_at hl 8 rfl) ?_
            refine lv_iload hx hb dX7_trimmed_174 (lv_at hl 4 rfl) ?_
            refine lv_icmp_ge (tgt := 196) hx hb dX7_trimmed_176 (by decide) (fun c21 => ?_) (fun c21 => ?_)
            · replace h := ifp c21 h
              refine lv_iinc (v := (v7 + 1)) (lv' := [(7, .int (v7 + 1)), (0, .ref (q 0)), (2, .int v2), (3, .int v3), (4, .int v4), (5, .int v5), (6, .int v6), (8, .int y15), (9, .int y16)]) hx hb dX7_trimmed_196 hl (k := 6) rfl (by first | rfl | decide) (by decide) rfl (fun ls hl => ?_)
              refine lv_goto (tgt := 58) hx hb dX7_trimmed_199 (by decide) ?_
              exact ih v3 v4 v5 (v7 + 1) _ _ _ h hP hD hS (lv_sub hl [1, 2, 3, 4, 5, 6, 0] rfl)
            · replace h := ifn c21 h
              refine lv_bipush (v := 100) hx hb dX7_trimmed_179 (by decide) ?_
              refine lv_iload hx hb dX7_trimmed_181 (lv_at hl 5 rfl) ?_
              refine lv_imul hx hb dX7_trimmed_183 ?_
              refine lv_iload hx hb dX7_trimmed_184 (lv_at hl 6 rfl) ?_
              refine lv_iadd hx hb dX7_trimmed_186 ?_
              refine lv_istore_n (lv' := [(3, .int ((100 * v6) + v7)), (0, .ref (q 0)), (2, .int v2), (4, .int v4), (5, .int v5), (6, .int v6), (7, .int v7), (8, .int y15), (9, .int y16)]) hx hb dX7_trimmed_187 rfl hl (by decide) rfl (fun ls hl => ?_)
              refine lv_iload hx hb dX7_trimmed_188 (lv_at hl 7 rfl) ?_
              refine lv_istore (lv' := [(4, .int y15), (3, .int ((100 * v6) + v7)), (0, .ref (q 0)), (2, .int v2), (5, .int v5), (6, .int v6), (7, .int v7), (8, .int y15), (9, .int y16)]) hx hb dX7_trimmed_190 hl (by decide) rfl (fun ls hl => ?_)
              refine lv_iload hx hb dX7_trimmed_192 (lv_at hl 8 rfl) ?_
              refine lv_istore (lv' := [(5, .int y16), (4, .int y15), (3, .int ((100 * v6) + v7)), (0, .ref (q 0)), (2, .int v2), (6, .int v6), (7, .int v7), (8, .int y15), (9, .int y16)]) hx hb dX7_trimmed_194 hl (by decide) rfl (fun ls hl => ?_)
              refine lv_iinc (v := (v7 + 1)) (lv' := [(7, .int (v7 + 1)), (5, .int y16), (4, .int y15), (3, .int ((100 * v6) + v7)), (0, .ref (q 0)), (2, .int v2), (6, .int v6), (8, .int y15), (9, .int y16)]) hx hb dX7_trimmed_196 hl (k := 6) rfl (by first | rfl | decide) (by decide) rfl (fun ls hl => ?_)
              refine lv_goto (tgt := 58) hx hb dX7_trimmed_199 (by decide) ?_
              exact ih ((100 * v6) + v7) y15 y16 (v7 + 1) _ _ _ h hP hD hS (lv_sub hl [4, 5, 3, 2, 1, 6, 0] rfl)

def fM_trimmed_L49 (N : Nat) (σ : St) (v2 : Int32) : Nat → Int32 → Int32 → Int32 → Int32 → Option Int32
  | 0, _, _, _, _ => none
  | n + 1, v3, v4, v5, v6 => (if v2 < v6 then some v3 else bd3 (fM_trimmed_L58 N σ v2 v6 N v3 v4 v5 0) (fun y22 y23 y24 => fM_trimmed_L49 N σ v2 n y22 y23 y24 (v6 + 1)))
set_option maxHeartbeats 4000000 in
set_option maxRecDepth 100000 in
theorem wM_trimmed_L49 {q : Nat → Nat} (C : Cx G p s m args meth c cX7_trimmed 12 (some .int) (Cond.code yX7_trimmed cX7_trimmed 12 (some .int)) RX7 A) (N : Nat) (σ : St) (v2 : Int32) (r : Int32) : ∀ (n : Nat) (v3 : Int32) (v4 : Int32) (v5 : Int32) (v6 : Int32) (H : Heap) (locs : List Loc) (ls : Array Slot), fM_trimmed_L49 N σ v2 n v3 v4 v5 v6 = some r → va_P G.1 vwCl (mW G q σ) H → va_D A (mW G q σ) → va_S A s.heap H locs → lv_has ls 12 [(0, .ref (q 0)), (2, .int v2), (3, .int v3), (4, .int v4), (5, .int v5), (6, .int v6)] → W p l e (rmD 4) s m args below meth c H locs 0 0 (QI G below args s A (mW G q σ) r) (F0 m 49 ls []) := by
  obtain ⟨hx, hb, hml, hown, hts, hK, hZ, hA, hlk, hr⟩ := id C
  intro n
  induction n with
  | zero =>
    intro v3 v4 v5 v6 H locs ls h
    cases h
  | succ n ih =>
    intro v3 v4 v5 v6 H locs ls h hP hD hS hl
    rw [fM_trimmed_L49.eq_2] at h
    refine lv_iload hx hb dX7_trimmed_49 (lv_at hl 5 rfl) ?_
    refine lv_iload_n hx hb dX7_trimmed_51 rfl (lv_at hl 1 rfl) ?_
    refine lv_icmp_gt (tgt := 208) hx hb dX7_trimmed_52 (by decide) (fun c6 => ?_) (fun c6 => ?_)
    · replace h := ifp c6 h
      refine lv_iload_n hx hb dX7_trimmed_208 rfl (lv_at hl 2 rfl) ?_
      obtain rfl := so1 h
      exact retI C hP hD hS dX7_trimmed_209
    · replace h := ifn c6 h
      refine lv_iconst (v := 0) hx hb dX7_trimmed_55 (by decide) ?_
      refine lv_istore (lv' := [(7, .int 0), (0, .ref (q 0)), (2, .int v2), (3, .int v3), (4, .int v4), (5, .int v5), (6, .int v6)]) hx hb dX7_trimmed_56 hl (by decide) rfl (fun ls hl => ?_)
      obtain ⟨y22, y23, y24, h25, h⟩ := bd3_some h
      refine wM_trimmed_L58 C N σ v2 v6 y22 y23 y24 (fun H locs ls hP hD hS hl => ?_) N v3 v4 v5 0 _ _ _ h25 hP hD hS (lv_sub hl [1, 2, 3, 4, 5, 6, 0] rfl)
      refine lv_iinc (v := (v6 + 1)) (lv' := [(6, .int (v6 + 1)), (0, .ref (q 0)), (2, .int v2), (3, .int y22), (4, .int y23), (5, .int y24)]) hx hb dX7_trimmed_202 hl (k := 5) rfl (by first | rfl | decide) (by decide) rfl (fun ls hl => ?_)
      refine lv_goto (tgt := 49) hx hb dX7_trimmed_205 (by decide) ?_
      exact ih y22 y23 y24 (v6 + 1) _ _ _ h hP hD hS (lv_sub hl [1, 2, 3, 4, 5, 0] rfl)

def fM_trimmed (N : Nat) (σ : St) (a1 : Int32) (a2 : Int32) : Option Int32 :=
  (if a1 < 1 then some (-1) else (if a2 < a1 then some (-1) else (if 9999 < a2 then some (-1) else (if (a2 - a1) ≤ 300 then (if (σ.1 7) = 0 then some (-3) else fM_trimmed_L49 N σ a2 N (-1) 0 0 a1) else some (-1)))))
set_option maxHeartbeats 4000000 in
set_option maxRecDepth 100000 in
theorem ctM_trimmed {G : GP} {l : Launch} {q : Nat → Nat} (N : Nat) (σ : St) (a1 : Int32) (a2 : Int32) (r : Int32) (h : fM_trimmed N σ a1 a2 = some r) : CI G l yX7_trimmed cX7_trimmed 12 (some .int) 4 [.ref (q 0), .int a1, .int a2] (mW G q σ) (mW G q σ) r := by
  refine enterI (own := RX7) (by decide) rfl (Nat.le_of_ble_eq_true rfl) ?_
  intro p e s m args below meth c A C hP hD hS ls hl
  obtain ⟨hx, hb, hml, hown, hts, hK, hZ, hA, hlk, hr⟩ := id C
  have hl : lv_has ls 12 [(0, .ref (q 0)), (1, .int a1), (2, .int a2)] := hl
  rw [fM_trimmed.eq_1] at h
  refine lv_iload_n hx hb dX7_trimmed_0 rfl (lv_at hl 1 rfl) ?_
  refine lv_iconst (v := 1) hx hb dX7_trimmed_1 (by decide) ?_
  refine lv_icmp_lt (tgt := 26) hx hb dX7_trimmed_2 (by decide) (fun c1 => ?_) (fun c1 => ?_)
  · replace h := ifp c1 h
    refine lv_iconst (v := (-1)) hx hb dX7_trimmed_26 (by decide) ?_
    obtain rfl := so1 h
    exact retI C hP hD hS dX7_trimmed_27
  · replace h := ifn c1 h
    refine lv_iload_n hx hb dX7_trimmed_5 rfl (lv_at hl 2 rfl) ?_
    refine lv_iload_n hx hb dX7_trimmed_6 rfl (lv_at hl 1 rfl) ?_
    refine lv_icmp_lt (tgt := 26) hx hb dX7_trimmed_7 (by decide) (fun c2 => ?_) (fun c2 => ?_)
    · replace h := ifp c2 h
      refine lv_iconst (v := (-1)) hx hb dX7_trimmed_26 (by decide) ?_
      obtain rfl := so1 h
      exact retI C hP hD hS dX7_trimmed_27
    · replace h := ifn c2 h
      refine lv_iload_n hx hb dX7_trimmed_10 rfl (lv_at hl 2 rfl) ?_
      refine lv_sipush (v := 9999) hx hb dX7_trimmed_11 (by decide) ?_
      refine lv_icmp_gt (tgt := 26) hx hb dX7_trimmed_14 (by decide) (fun c3 => ?_) (fun c3 => ?_)
      · replace h := ifp c3 h
        refine lv_iconst (v := (-1)) hx hb dX7_trimmed_26 (by decide) ?_
        obtain rfl := so1 h
        exact retI C hP hD hS dX7_trimmed_27
      · replace h := ifn c3 h
        refine lv_iload_n hx hb dX7_trimmed_17 rfl (lv_at hl 2 rfl) ?_
        refine lv_iload_n hx hb dX7_trimmed_18 rfl (lv_at hl 1 rfl) ?_
        refine lv_isub hx hb dX7_trimmed_19 ?_
        refine lv_sipush (v := 300) hx hb dX7_trimmed_20 (by decide) ?_
        refine lv_icmp_le (tgt := 28) hx hb dX7_trimmed_23 (by decide) (fun c4 => ?_) (fun c4 => ?_)
        · replace h := ifp c4 h
          refine lv_aload_n hx hb dX7_trimmed_28 rfl (lv_at hl 0 rfl) ?_
          refine gf_RX7_162 C hP dX7_trimmed_29 ?_
          refine lv_if_ne (tgt := 38) hx hb dX7_trimmed_32 (by decide) (fun c5 => ?_) (fun c5 => ?_)
          · replace h := ifn c5 h
            refine lv_iconst (v := (-1)) hx hb dX7_trimmed_38 (by decide) ?_
            refine lv_istore_n (lv' := [(3, .int (-1)), (0, .ref (q 0)), (1, .int a1), (2, .int a2)]) hx hb dX7_trimmed_39 rfl hl (by decide) rfl (fun ls hl => ?_)
            refine lv_iconst (v := 0) hx hb dX7_trimmed_40 (by decide) ?_
            refine lv_istore (lv' := [(4, .int 0), (3, .int (-1)), (0, .ref (q 0)), (1, .int a1), (2, .int a2)]) hx hb dX7_trimmed_41 hl (by decide) rfl (fun ls hl => ?_)
            refine lv_iconst (v := 0) hx hb dX7_trimmed_43 (by decide) ?_
            refine lv_istore (lv' := [(5, .int 0), (4, .int 0), (3, .int (-1)), (0, .ref (q 0)), (1, .int a1), (2, .int a2)]) hx hb dX7_trimmed_44 hl (by decide) rfl (fun ls hl => ?_)
            refine lv_iload_n hx hb dX7_trimmed_46 rfl (lv_at hl 4 rfl) ?_
            refine lv_istore (lv' := [(6, .int a1), (5, .int 0), (4, .int 0), (3, .int (-1)), (0, .ref (q 0)), (1, .int a1), (2, .int a2)]) hx hb dX7_trimmed_47 hl (by decide) rfl (fun ls hl => ?_)
            exact wM_trimmed_L49 C N σ a2 r N (-1) 0 0 a1 _ _ _ h hP hD hS (lv_sub hl [4, 6, 3, 2, 1, 0] rfl)
          · replace h := ifp c5 h
            refine lv_bipush (v := (-3)) hx hb dX7_trimmed_35 (by decide) ?_
            obtain rfl := so1 h
            exact retI C hP hD hS dX7_trimmed_37
        · replace h := ifn c4 h
          refine lv_iconst (v := (-1)) hx hb dX7_trimmed_26 (by decide) ?_
          obtain rfl := so1 h
          exact retI C hP hD hS dX7_trimmed_27

def fM_mark_L16 (N : Nat) (σ : St) (v1 : Int32) : Nat → Int32 → Int32 → Option Int32
  | 0, _, _ => none
  | n + 1, v2, v3 => (if 100 < v3 then some v2 else bd1 (fM_signalAt N σ v3 (σ.2 2 (0 : Int32).toNatClampNeg) (σ.2 2 (3 : Int32).toNatClampNeg)) (fun r6 => bd1 (fM_size N (r6 - v1)) (fun r8 => bd1 (fM_signalAt N σ v2 (σ.2 2 (0 : Int32).toNatClampNeg) (σ.2 2 (3 : Int32).toNatClampNeg)) (fun r10 => bd1 (fM_size N (r10 - v1)) (fun r12 => (if r12 ≤ r8 then fM_mark_L16 N σ v1 n v2 (v3 + 1) else fM_mark_L16 N σ v1 n v3 (v3 + 1)))))))
set_option maxHeartbeats 4000000 in
set_option maxRecDepth 100000 in
theorem wM_mark_L16 {q : Nat → Nat} (C : Cx G p s m args meth c cX7_mark 4 (some .int) (Cond.code yX7_mark cX7_mark 4 (some .int)) RX7 A) (N : Nat) (σ : St) (v1 : Int32) (r : Int32) : ∀ (n : Nat) (v2 : Int32) (v3 : Int32) (H : Heap) (locs : List Loc) (ls : Array Slot), fM_mark_L16 N σ v1 n v2 v3 = some r → va_P G.1 vwCl (mW G q σ) H → va_D A (mW G q σ) → va_S A s.heap H locs → lv_has ls 4 [(0, .ref (q 0)), (1, .int v1), (2, .int v2), (3, .int v3)] → W p l e (rmD 3) s m args below meth c H locs 0 0 (QI G below args s A (mW G q σ) r) (F0 m 16 ls []) := by
  obtain ⟨hx, hb, hml, hown, hts, hK, hZ, hA, hlk, hr⟩ := id C
  intro n
  induction n with
  | zero =>
    intro v2 v3 H locs ls h
    cases h
  | succ n ih =>
    intro v2 v3 H locs ls h hP hD hS hl
    rw [fM_mark_L16.eq_2] at h
    refine lv_iload_n hx hb dX7_mark_16 rfl (lv_at hl 3 rfl) ?_
    refine lv_bipush (v := 100) hx hb dX7_mark_17 (by decide) ?_
    refine lv_icmp_gt (tgt := 77) hx hb dX7_mark_19 (by decide) (fun c4 => ?_) (fun c4 => ?_)
    · replace h := ifp c4 h
      refine lv_iload_n hx hb dX7_mark_77 rfl (lv_at hl 2 rfl) ?_
      obtain rfl := so1 h
      exact retI C hP hD hS dX7_mark_78
    · replace h := ifn c4 h
      refine lv_aload_n hx hb dX7_mark_22 rfl (lv_at hl 0 rfl) ?_
      refine lv_iload_n hx hb dX7_mark_23 rfl (lv_at hl 3 rfl) ?_
      refine lv_aload_n hx hb dX7_mark_24 rfl (lv_at hl 0 rfl) ?_
      refine gf_RX7_35 C hP dX7_mark_25 ?_
      refine lv_iconst (v := 0) hx hb dX7_mark_28 (by decide) ?_
      refine ldM_2 C hP (vin (by decide)) dX7_mark_29 ?_
      refine lv_aload_n hx hb dX7_mark_30 rfl (lv_at hl 0 rfl) ?_
      refine gf_RX7_35 C hP dX7_mark_31 ?_
      refine lv_iconst (v := 3) hx hb dX7_mark_34 (by decide) ?_
      refine ldM_2 C hP (vin (by decide)) dX7_mark_35 ?_
      obtain ⟨r6, h5, h⟩ := bd1_some h
      refine goI C hD hS (runV (As := [.int v3, .int (σ.2 2 (0 : Int32).toNatClampNeg), .int (σ.2 2 (3 : Int32).toNatClampNeg)]) (rest := []) (w := (mW G q σ)) C lc_RX7_145 (ctM_signalAt N σ v3 (σ.2 2 (0 : Int32).toNatClampNeg) (σ.2 2 (3 : Int32).toNatClampNeg) r6 h5 _) hP hD hS (va_recv C.2.2.2.2.2.1 hP (ci := 7) (q0 := 0) rfl rfl) hl.1 rfl rfl (by decide) (by decide) (Nat.le_of_ble_eq_true rfl) dX7_mark_36) (fun H locs hP hD hS => ?_)
      refine lv_iload_n hx hb dX7_mark_39 rfl (lv_at hl 1 rfl) ?_
      refine lv_isub hx hb dX7_mark_40 ?_
      obtain ⟨r8, h7, h⟩ := bd1_some h
      refine goI C hD hS (runS (As := [.int (r6 - v1)]) (rest := []) (w := (mW G q σ)) C lc_RX7_91 (ctM_size (w := (mW G q σ)) N (r6 - v1) r8 h7 _) hP hD hS hl.1 rfl rfl (by decide) (by decide) (Nat.le_of_ble_eq_true rfl) dX7_mark_41) (fun H locs hP hD hS => ?_)
      refine lv_aload_n hx hb dX7_mark_44 rfl (lv_at hl 0 rfl) ?_
      refine lv_iload_n hx hb dX7_mark_45 rfl (lv_at hl 2 rfl) ?_
      refine lv_aload_n hx hb dX7_mark_46 rfl (lv_at hl 0 rfl) ?_
      refine gf_RX7_35 C hP dX7_mark_47 ?_
      refine lv_iconst (v := 0) hx hb dX7_mark_50 (by decide) ?_
      refine ldM_2 C hP (vin (by decide)) dX7_mark_51 ?_
      refine lv_aload_n hx hb dX7_mark_52 rfl (lv_at hl 0 rfl) ?_
      refine gf_RX7_35 C hP dX7_mark_53 ?_
      refine lv_iconst (v := 3) hx hb dX7_mark_56 (by decide) ?_
      refine ldM_2 C hP (vin (by decide)) dX7_mark_57 ?_
      obtain ⟨r10, h9, h⟩ := bd1_some h
      refine goI C hD hS (runV (As := [.int v2, .int (σ.2 2 (0 : Int32).toNatClampNeg), .int (σ.2 2 (3 : Int32).toNatClampNeg)]) (rest := [.int r8]) (w := (mW G q σ)) C lc_RX7_145 (ctM_signalAt N σ v2 (σ.2 2 (0 : Int32).toNatClampNeg) (σ.2 2 (3 : Int32).toNatClampNeg) r10 h9 _) hP hD hS (va_recv C.2.2.2.2.2.1 hP (ci := 7) (q0 := 0) rfl rfl) hl.1 rfl rfl (by decide) (by decide) (Nat.le_of_ble_eq_true rfl) dX7_mark_58) (fun H locs hP hD hS => ?_)
      refine lv_iload_n hx hb dX7_mark_61 rfl (lv_at hl 1 rfl) ?_
      refine lv_isub hx hb dX7_mark_62 ?_
      obtain ⟨r12, h11, h⟩ := bd1_some h
      refine goI C hD hS (runS (As := [.int (r10 - v1)]) (rest := [.int r8]) (w := (mW G q σ)) C lc_RX7_91 (ctM_size (w := (mW G q σ)) N (r10 - v1) r12 h11 _) hP hD hS hl.1 rfl rfl (by decide) (by decide) (Nat.le_of_ble_eq_true rfl) dX7_mark_63) (fun H locs hP hD hS => ?_)
      refine lv_icmp_ge (tgt := 71) hx hb dX7_mark_66 (by decide) (fun c13 => ?_) (fun c13 => ?_)
      · replace h := ifp c13 h
        refine lv_iinc (v := (v3 + 1)) (lv' := [(3, .int (v3 + 1)), (0, .ref (q 0)), (1, .int v1), (2, .int v2)]) hx hb dX7_mark_71 hl (k := 3) rfl (by first | rfl | decide) (by decide) rfl (fun ls hl => ?_)
        refine lv_goto (tgt := 16) hx hb dX7_mark_74 (by decide) ?_
        exact ih v2 (v3 + 1) _ _ _ h hP hD hS (lv_sub hl [1, 2, 3, 0] rfl)
      · replace h := ifn c13 h
        refine lv_iload_n hx hb dX7_mark_69 rfl (lv_at hl 3 rfl) ?_
        refine lv_istore_n (lv' := [(2, .int v3), (0, .ref (q 0)), (1, .int v1), (3, .int v3)]) hx hb dX7_mark_70 rfl hl (by decide) rfl (fun ls hl => ?_)
        refine lv_iinc (v := (v3 + 1)) (lv' := [(3, .int (v3 + 1)), (2, .int v3), (0, .ref (q 0)), (1, .int v1)]) hx hb dX7_mark_71 hl (k := 3) rfl (by first | rfl | decide) (by decide) rfl (fun ls hl => ?_)
        refine lv_goto (tgt := 16) hx hb dX7_mark_74 (by decide) ?_
        exact ih v3 (v3 + 1) _ _ _ h hP hD hS (lv_sub hl [2, 3, 1, 0] rfl)

def fM_mark (N : Nat) (σ : St) (a1 : Int32) : Option Int32 :=
  bd1 (fM_within N a1 1 99999) (fun r2 => (if r2 = 0 then some (-1) else fM_mark_L16 N σ a1 N 0 1))
set_option maxHeartbeats 4000000 in
set_option maxRecDepth 100000 in
theorem ctM_mark {G : GP} {l : Launch} {q : Nat → Nat} (N : Nat) (σ : St) (a1 : Int32) (r : Int32) (h : fM_mark N σ a1 = some r) : CI G l yX7_mark cX7_mark 4 (some .int) 3 [.ref (q 0), .int a1] (mW G q σ) (mW G q σ) r := by
  refine enterI (own := RX7) (by decide) rfl (Nat.le_of_ble_eq_true rfl) ?_
  intro p e s m args below meth c A C hP hD hS ls hl
  obtain ⟨hx, hb, hml, hown, hts, hK, hZ, hA, hlk, hr⟩ := id C
  have hl : lv_has ls 4 [(0, .ref (q 0)), (1, .int a1)] := hl
  rw [fM_mark.eq_1] at h
  refine lv_iload_n hx hb dX7_mark_0 rfl (lv_at hl 1 rfl) ?_
  refine lv_iconst (v := 1) hx hb dX7_mark_1 (by decide) ?_
  refine lv_ldc hx hb hown (hts _ (List.mem_cons_of_mem _ kc_RX7_169)) dX7_mark_2 ?_
  obtain ⟨r2, h1, h⟩ := bd1_some h
  refine goI C hD hS (runS (As := [.int a1, .int 1, .int 99999]) (rest := []) (w := (mW G q σ)) C lc_RX7_75 (ctM_within (w := (mW G q σ)) N a1 1 99999 r2 h1 _) hP hD hS hl.1 rfl rfl (by decide) (by decide) (Nat.le_of_ble_eq_true rfl) dX7_mark_4) (fun H locs hP hD hS => ?_)
  refine lv_if_ne (tgt := 12) hx hb dX7_mark_7 (by decide) (fun c3 => ?_) (fun c3 => ?_)
  · replace h := ifn c3 h
    refine lv_iconst (v := 0) hx hb dX7_mark_12 (by decide) ?_
    refine lv_istore_n (lv' := [(2, .int 0), (0, .ref (q 0)), (1, .int a1)]) hx hb dX7_mark_13 rfl hl (by decide) rfl (fun ls hl => ?_)
    refine lv_iconst (v := 1) hx hb dX7_mark_14 (by decide) ?_
    refine lv_istore_n (lv' := [(3, .int 1), (2, .int 0), (0, .ref (q 0)), (1, .int a1)]) hx hb dX7_mark_15 rfl hl (by decide) rfl (fun ls hl => ?_)
    exact wM_mark_L16 C N σ a1 r N 0 1 _ _ _ h hP hD hS (lv_sub hl [2, 3, 1, 0] rfl)
  · replace h := ifp c3 h
    refine lv_iconst (v := (-1)) hx hb dX7_mark_10 (by decide) ?_
    obtain rfl := so1 h
    exact retI C hP hD hS dX7_mark_11

def fM_isSet (N : Nat) (σ : St) (a1 : Int32) : Option Int32 :=
  (if a1 < 0 then some 0 else (if (σ.1 8) ≤ a1 then some 0 else some 1))
set_option maxHeartbeats 4000000 in
set_option maxRecDepth 100000 in
theorem ctM_isSet {G : GP} {l : Launch} {q : Nat → Nat} (N : Nat) (σ : St) (a1 : Int32) (r : Int32) (h : fM_isSet N σ a1 = some r) : CI G l yX7_isSet cX7_isSet 2 (some .boolean) 0 [.ref (q 0), .int a1] (mW G q σ) (mW G q σ) r := by
  refine enterI (own := RX7) (by decide) rfl (Nat.le_of_ble_eq_true rfl) ?_
  intro p e s m args below meth c A C hP hD hS ls hl
  obtain ⟨hx, hb, hml, hown, hts, hK, hZ, hA, hlk, hr⟩ := id C
  have hl : lv_has ls 2 [(0, .ref (q 0)), (1, .int a1)] := hl
  rw [fM_isSet.eq_1] at h
  refine lv_iload_n hx hb dX7_isSet_0 rfl (lv_at hl 1 rfl) ?_
  refine lv_if_lt (tgt := 16) hx hb dX7_isSet_1 (by decide) (fun c1 => ?_) (fun c1 => ?_)
  · replace h := ifp c1 h
    refine lv_iconst (v := 0) hx hb dX7_isSet_16 (by decide) ?_
    obtain rfl := so1 h
    exact retZ C hP hD hS (by decide) dX7_isSet_17
  · replace h := ifn c1 h
    refine lv_iload_n hx hb dX7_isSet_4 rfl (lv_at hl 1 rfl) ?_
    refine lv_aload_n hx hb dX7_isSet_5 rfl (lv_at hl 0 rfl) ?_
    refine gf_RX7_170 C hP dX7_isSet_6 ?_
    refine lv_icmp_ge (tgt := 16) hx hb dX7_isSet_9 (by decide) (fun c2 => ?_) (fun c2 => ?_)
    · replace h := ifp c2 h
      refine lv_iconst (v := 0) hx hb dX7_isSet_16 (by decide) ?_
      obtain rfl := so1 h
      exact retZ C hP hD hS (by decide) dX7_isSet_17
    · replace h := ifn c2 h
      refine lv_iconst (v := 1) hx hb dX7_isSet_12 (by decide) ?_
      refine lv_goto (tgt := 17) hx hb dX7_isSet_13 (by decide) ?_
      obtain rfl := so1 h
      exact retZ C hP hD hS (by decide) dX7_isSet_17

def fM_set_L14 (N : Nat) : Nat → Int32 → St → Option (Int32 × St)
  | 0, _, _ => none
  | n + 1, v1, σ => (if 6 ≤ v1 then some ((((σ.1 8) + 1) - 1), (s1 σ 8 ((σ.1 8) + 1))) else (if v1 = 5 then gi ((6 * (σ.1 8)) + v1) 60 (fM_set_L14 N n (v1 + 1) (sA σ 4 ((6 * (σ.1 8)) + v1).toNatClampNeg (σ.1 1))) else gi v1 5 (gi ((6 * (σ.1 8)) + v1) 60 (fM_set_L14 N n (v1 + 1) (sA σ 4 ((6 * (σ.1 8)) + v1).toNatClampNeg (σ.2 2 v1.toNatClampNeg))))))
set_option maxHeartbeats 4000000 in
set_option maxRecDepth 100000 in
theorem wM_set_L14 {q : Nat → Nat} (C : Cx G p s m args meth c cX7_set 2 (some .int) (Cond.code yX7_set cX7_set 2 (some .int)) RX7 A) (N : Nat) (r : Int32) (σ' : St) : ∀ (n : Nat) (v1 : Int32) (σ : St) (H : Heap) (locs : List Loc) (ls : Array Slot), fM_set_L14 N n v1 σ = some (r, σ') → va_P G.1 vwCl (mW G q σ) H → va_D A (mW G q σ) → va_S A s.heap H locs → lv_has ls 2 [(0, .ref (q 0)), (1, .int v1)] → W p l e (rmD 0) s m args below meth c H locs 0 0 (QI G below args s A (mW G q (σ')) r) (F0 m 14 ls []) := by
  obtain ⟨hx, hb, hml, hown, hts, hK, hZ, hA, hlk, hr⟩ := id C
  intro n
  induction n with
  | zero =>
    intro v1 σ H locs ls h
    cases h
  | succ n ih =>
    intro v1 σ H locs ls h hP hD hS hl
    rw [fM_set_L14.eq_2] at h
    refine lv_iload_n hx hb dX7_set_14 rfl (lv_at hl 1 rfl) ?_
    refine lv_bipush (v := 6) hx hb dX7_set_15 (by decide) ?_
    refine lv_icmp_ge (tgt := 58) hx hb dX7_set_17 (by decide) (fun c2 => ?_) (fun c2 => ?_)
    · replace h := ifp c2 h
      refine lv_aload_n hx hb dX7_set_58 rfl (lv_at hl 0 rfl) ?_
      refine lv_dup hx hb dX7_set_59 rfl ?_
      refine gf_RX7_170 C hP dX7_set_60 ?_
      refine lv_iconst (v := 1) hx hb dX7_set_63 (by decide) ?_
      refine lv_iadd hx hb dX7_set_64 ?_
      refine pf_RX7_170 C hP hD hS dX7_set_65 (fun H locs hP hD hS => ?_)
      refine lv_aload_n hx hb dX7_set_68 rfl (lv_at hl 0 rfl) ?_
      refine gf_RX7_170 C hP dX7_set_69 ?_
      refine lv_cv (y := ((σ.1 8) + 1)) rfl ?_
      refine lv_iconst (v := 1) hx hb dX7_set_72 (by decide) ?_
      refine lv_isub hx hb dX7_set_73 ?_
      obtain ⟨rfl, rfl⟩ := so2 h
      exact retI C hP hD hS dX7_set_74
    · replace h := ifn c2 h
      refine lv_aload_n hx hb dX7_set_20 rfl (lv_at hl 0 rfl) ?_
      refine gf_RX7_41 C hP dX7_set_21 ?_
      refine lv_bipush (v := 6) hx hb dX7_set_24 (by decide) ?_
      refine lv_aload_n hx hb dX7_set_26 rfl (lv_at hl 0 rfl) ?_
      refine gf_RX7_170 C hP dX7_set_27 ?_
      refine lv_imul hx hb dX7_set_30 ?_
      refine lv_iload_n hx hb dX7_set_31 rfl (lv_at hl 1 rfl) ?_
      refine lv_iadd hx hb dX7_set_32 ?_
      refine lv_iload_n hx hb dX7_set_33 rfl (lv_at hl 1 rfl) ?_
      refine lv_iconst (v := 5) hx hb dX7_set_34 (by decide) ?_
      refine lv_icmp_ne (tgt := 45) hx hb dX7_set_35 (by decide) (fun c3 => ?_) (fun c3 => ?_)
      · replace h := ifn c3 h
        refine lv_aload_n hx hb dX7_set_45 rfl (lv_at hl 0 rfl) ?_
        refine gf_RX7_35 C hP dX7_set_46 ?_
        refine lv_iload_n hx hb dX7_set_49 rfl (lv_at hl 1 rfl) ?_
        obtain ⟨i4, h⟩ := gi_some h
        refine ldM_2 C hP i4 dX7_set_50 ?_
        obtain ⟨i5, h⟩ := gi_some h
        refine stM_4 C hP hD hS i5 dX7_set_51 (fun H locs hP hD hS => ?_)
        refine lv_iinc (v := (v1 + 1)) (lv' := [(1, .int (v1 + 1)), (0, .ref (q 0))]) hx hb dX7_set_52 hl (k := 1) rfl (by first | rfl | decide) (by decide) rfl (fun ls hl => ?_)
        refine lv_goto (tgt := 14) hx hb dX7_set_55 (by decide) ?_
        exact ih (v1 + 1) (sA σ 4 ((6 * (σ.1 8)) + v1).toNatClampNeg (σ.2 2 v1.toNatClampNeg)) _ _ _ h hP hD hS (lv_sub hl [1, 0] rfl)
      · replace h := ifp c3 h
        refine lv_aload_n hx hb dX7_set_38 rfl (lv_at hl 0 rfl) ?_
        refine gf_RX7_16 C hP dX7_set_39 ?_
        refine lv_goto (tgt := 51) hx hb dX7_set_42 (by decide) ?_
        obtain ⟨i6, h⟩ := gi_some h
        refine stM_4 C hP hD hS i6 dX7_set_51 (fun H locs hP hD hS => ?_)
        refine lv_iinc (v := (v1 + 1)) (lv' := [(1, .int (v1 + 1)), (0, .ref (q 0))]) hx hb dX7_set_52 hl (k := 1) rfl (by first | rfl | decide) (by decide) rfl (fun ls hl => ?_)
        refine lv_goto (tgt := 14) hx hb dX7_set_55 (by decide) ?_
        exact ih (v1 + 1) (sA σ 4 ((6 * (σ.1 8)) + v1).toNatClampNeg (σ.1 1)) _ _ _ h hP hD hS (lv_sub hl [1, 0] rfl)

def fM_set (N : Nat) (σ : St) : Option (Int32 × St) :=
  (if (σ.1 8) = 10 then some ((-2), σ) else fM_set_L14 N N 0 σ)
set_option maxHeartbeats 4000000 in
set_option maxRecDepth 100000 in
theorem ctM_set {G : GP} {l : Launch} {q : Nat → Nat} (N : Nat) (σ σ' : St) (r : Int32) (h : fM_set N σ = some (r, σ')) : CI G l yX7_set cX7_set 2 (some .int) 0 [.ref (q 0)] (mW G q σ) (mW G q (σ')) r := by
  refine enterI (own := RX7) (by decide) rfl (Nat.le_of_ble_eq_true rfl) ?_
  intro p e s m args below meth c A C hP hD hS ls hl
  obtain ⟨hx, hb, hml, hown, hts, hK, hZ, hA, hlk, hr⟩ := id C
  have hl : lv_has ls 2 [(0, .ref (q 0))] := hl
  rw [fM_set.eq_1] at h
  refine lv_aload_n hx hb dX7_set_0 rfl (lv_at hl 0 rfl) ?_
  refine gf_RX7_170 C hP dX7_set_1 ?_
  refine lv_bipush (v := 10) hx hb dX7_set_4 (by decide) ?_
  refine lv_icmp_ne (tgt := 12) hx hb dX7_set_6 (by decide) (fun c1 => ?_) (fun c1 => ?_)
  · replace h := ifn c1 h
    refine lv_iconst (v := 0) hx hb dX7_set_12 (by decide) ?_
    refine lv_istore_n (lv' := [(1, .int 0), (0, .ref (q 0))]) hx hb dX7_set_13 rfl hl (by decide) rfl (fun ls hl => ?_)
    exact wM_set_L14 C N r σ' N 0 σ _ _ _ h hP hD hS (lv_sub hl [1, 0] rfl)
  · replace h := ifp c1 h
    refine lv_bipush (v := (-2)) hx hb dX7_set_9 (by decide) ?_
    obtain ⟨rfl, rfl⟩ := so2 h
    exact retI C hP hD hS dX7_set_11

def fM_offBy (N : Nat) (σ : St) (a1 : Int32) (a2 : Int32) (a3 : Int32) : Option (Int32 × St) :=
  bd1 (fM_isSet N σ a1) (fun r2 => (if r2 = 0 then some ((-2000000000), σ) else bd1 (fM_within N a2 0 5) (fun r5 => (if r5 = 0 then some ((-2000000000), σ) else bd1 (fM_within N a3 (-50) 50) (fun r8 => (if r8 = 0 then some ((-2000000000), σ) else gi ((6 * a1) + a2) 60 (gi ((6 * a1) + a2) 60 (some ((σ.2 5 ((6 * a1) + a2).toNatClampNeg), (sA σ 5 ((6 * a1) + a2).toNatClampNeg a3))))))))))
set_option maxHeartbeats 4000000 in
set_option maxRecDepth 100000 in
theorem ctM_offBy {G : GP} {l : Launch} {q : Nat → Nat} (N : Nat) (σ σ' : St) (a1 : Int32) (a2 : Int32) (a3 : Int32) (r : Int32) (h : fM_offBy N σ a1 a2 a3 = some (r, σ')) : CI G l yX7_offBy cX7_offBy 5 (some .int) 1 [.ref (q 0), .int a1, .int a2, .int a3] (mW G q σ) (mW G q (σ')) r := by
  refine enterI (own := RX7) (by decide) rfl (Nat.le_of_ble_eq_true rfl) ?_
  intro p e s m args below meth c A C hP hD hS ls hl
  obtain ⟨hx, hb, hml, hown, hts, hK, hZ, hA, hlk, hr⟩ := id C
  have hl : lv_has ls 5 [(0, .ref (q 0)), (1, .int a1), (2, .int a2), (3, .int a3)] := hl
  rw [fM_offBy.eq_1] at h
  refine lv_aload_n hx hb dX7_offBy_0 rfl (lv_at hl 0 rfl) ?_
  refine lv_iload_n hx hb dX7_offBy_1 rfl (lv_at hl 1 rfl) ?_
  obtain ⟨r2, h1, h⟩ := bd1_some h
  refine goI C hD hS (runV (As := [.int a1]) (rest := []) (w := (mW G q σ)) C lc_RX7_173 (ctM_isSet N σ a1 r2 h1 _) hP hD hS (va_recv C.2.2.2.2.2.1 hP (ci := 7) (q0 := 0) rfl rfl) hl.1 rfl rfl (by decide) (by decide) (Nat.le_of_ble_eq_true rfl) dX7_offBy_2) (fun H locs hP hD hS => ?_)
  refine lv_if_eq (tgt := 28) hx hb dX7_offBy_5 (by decide) (fun c3 => ?_) (fun c3 => ?_)
  · replace h := ifp c3 h
    refine lv_ldc hx hb hown (hts _ (List.mem_cons_of_mem _ kc_RX7_90)) dX7_offBy_28 ?_
    obtain ⟨rfl, rfl⟩ := so2 h
    exact retI C hP hD hS dX7_offBy_30
  · replace h := ifn c3 h
    refine lv_iload_n hx hb dX7_offBy_8 rfl (lv_at hl 2 rfl) ?_
    refine lv_iconst (v := 0) hx hb dX7_offBy_9 (by decide) ?_
    refine lv_iconst (v := 5) hx hb dX7_offBy_10 (by decide) ?_
    obtain ⟨r5, h4, h⟩ := bd1_some h
    refine goI C hD hS (runS (As := [.int a2, .int 0, .int 5]) (rest := []) (w := (mW G q σ)) C lc_RX7_75 (ctM_within (w := (mW G q σ)) N a2 0 5 r5 h4 _) hP hD hS hl.1 rfl rfl (by decide) (by decide) (Nat.le_of_ble_eq_true rfl) dX7_offBy_11) (fun H locs hP hD hS => ?_)
    refine lv_if_eq (tgt := 28) hx hb dX7_offBy_14 (by decide) (fun c6 => ?_) (fun c6 => ?_)
    · replace h := ifp c6 h
      refine lv_ldc hx hb hown (hts _ (List.mem_cons_of_mem _ kc_RX7_90)) dX7_offBy_28 ?_
      obtain ⟨rfl, rfl⟩ := so2 h
      exact retI C hP hD hS dX7_offBy_30
    · replace h := ifn c6 h
      refine lv_iload_n hx hb dX7_offBy_17 rfl (lv_at hl 3 rfl) ?_
      refine lv_bipush (v := (-50)) hx hb dX7_offBy_18 (by decide) ?_
      refine lv_bipush (v := 50) hx hb dX7_offBy_20 (by decide) ?_
      obtain ⟨r8, h7, h⟩ := bd1_some h
      refine goI C hD hS (runS (As := [.int a3, .int (-50), .int 50]) (rest := []) (w := (mW G q σ)) C lc_RX7_75 (ctM_within (w := (mW G q σ)) N a3 (-50) 50 r8 h7 _) hP hD hS hl.1 rfl rfl (by decide) (by decide) (Nat.le_of_ble_eq_true rfl) dX7_offBy_22) (fun H locs hP hD hS => ?_)
      refine lv_if_ne (tgt := 31) hx hb dX7_offBy_25 (by decide) (fun c9 => ?_) (fun c9 => ?_)
      · replace h := ifn c9 h
        refine lv_aload_n hx hb dX7_offBy_31 rfl (lv_at hl 0 rfl) ?_
        refine gf_RX7_44 C hP dX7_offBy_32 ?_
        refine lv_bipush (v := 6) hx hb dX7_offBy_35 (by decide) ?_
        refine lv_iload_n hx hb dX7_offBy_37 rfl (lv_at hl 1 rfl) ?_
        refine lv_imul hx hb dX7_offBy_38 ?_
        refine lv_iload_n hx hb dX7_offBy_39 rfl (lv_at hl 2 rfl) ?_
        refine lv_iadd hx hb dX7_offBy_40 ?_
        obtain ⟨i10, h⟩ := gi_some h
        refine ldM_5 C hP i10 dX7_offBy_41 ?_
        refine lv_istore (lv' := [(4, .int (σ.2 5 ((6 * a1) + a2).toNatClampNeg)), (0, .ref (q 0)), (1, .int a1), (2, .int a2), (3, .int a3)]) hx hb dX7_offBy_42 hl (by decide) rfl (fun ls hl => ?_)
        refine lv_aload_n hx hb dX7_offBy_44 rfl (lv_at hl 1 rfl) ?_
        refine gf_RX7_44 C hP dX7_offBy_45 ?_
        refine lv_bipush (v := 6) hx hb dX7_offBy_48 (by decide) ?_
        refine lv_iload_n hx hb dX7_offBy_50 rfl (lv_at hl 2 rfl) ?_
        refine lv_imul hx hb dX7_offBy_51 ?_
        refine lv_iload_n hx hb dX7_offBy_52 rfl (lv_at hl 3 rfl) ?_
        refine lv_iadd hx hb dX7_offBy_53 ?_
        refine lv_iload_n hx hb dX7_offBy_54 rfl (lv_at hl 4 rfl) ?_
        obtain ⟨i11, h⟩ := gi_some h
        refine stM_5 C hP hD hS i11 dX7_offBy_55 (fun H locs hP hD hS => ?_)
        refine lv_iload hx hb dX7_offBy_56 (lv_at hl 0 rfl) ?_
        obtain ⟨rfl, rfl⟩ := so2 h
        exact retI C hP hD hS dX7_offBy_58
      · replace h := ifp c9 h
        refine lv_ldc hx hb hown (hts _ (List.mem_cons_of_mem _ kc_RX7_90)) dX7_offBy_28 ?_
        obtain ⟨rfl, rfl⟩ := so2 h
        exact retI C hP hD hS dX7_offBy_30

def fM_valueOf (N : Nat) (σ : St) (a1 : Int32) (a2 : Int32) : Option Int32 :=
  gi ((6 * a1) + a2) 60 (gi ((6 * a1) + a2) 60 (gi ((6 * a1) + a2) 60 ((if 2 ≤ a2 then (if a2 = 5 then (if 2 ≤ a2 then (if a2 = 5 then (if 20 ≤ (((σ.2 4 ((6 * a1) + a2).toNatClampNeg) + (σ.2 5 ((6 * a1) + a2).toNatClampNeg)) + (σ.2 6 ((6 * a1) + a2).toNatClampNeg)) then (if (((σ.2 4 ((6 * a1) + a2).toNatClampNeg) + (σ.2 5 ((6 * a1) + a2).toNatClampNeg)) + (σ.2 6 ((6 * a1) + a2).toNatClampNeg)) ≤ 900 then some (((σ.2 4 ((6 * a1) + a2).toNatClampNeg) + (σ.2 5 ((6 * a1) + a2).toNatClampNeg)) + (σ.2 6 ((6 * a1) + a2).toNatClampNeg)) else some 900) else some 20) else (if 20 ≤ (((σ.2 4 ((6 * a1) + a2).toNatClampNeg) + (σ.2 5 ((6 * a1) + a2).toNatClampNeg)) + (σ.2 6 ((6 * a1) + a2).toNatClampNeg)) then (if (((σ.2 4 ((6 * a1) + a2).toNatClampNeg) + (σ.2 5 ((6 * a1) + a2).toNatClampNeg)) + (σ.2 6 ((6 * a1) + a2).toNatClampNeg)) ≤ 9999 then some (((σ.2 4 ((6 * a1) + a2).toNatClampNeg) + (σ.2 5 ((6 * a1) + a2).toNatClampNeg)) + (σ.2 6 ((6 * a1) + a2).toNatClampNeg)) else some 9999) else some 20)) else (if 20 ≤ (((σ.2 4 ((6 * a1) + a2).toNatClampNeg) + (σ.2 5 ((6 * a1) + a2).toNatClampNeg)) + (σ.2 6 ((6 * a1) + a2).toNatClampNeg)) then (if (((σ.2 4 ((6 * a1) + a2).toNatClampNeg) + (σ.2 5 ((6 * a1) + a2).toNatClampNeg)) + (σ.2 6 ((6 * a1) + a2).toNatClampNeg)) ≤ 99 then some (((σ.2 4 ((6 * a1) + a2).toNatClampNeg) + (σ.2 5 ((6 * a1) + a2).toNatClampNeg)) + (σ.2 6 ((6 * a1) + a2).toNatClampNeg)) else some 99) else some 20)) else (if 2 ≤ a2 then (if a2 = 5 then (if 1 ≤ (((σ.2 4 ((6 * a1) + a2).toNatClampNeg) + (σ.2 5 ((6 * a1) + a2).toNatClampNeg)) + (σ.2 6 ((6 * a1) + a2).toNatClampNeg)) then (if (((σ.2 4 ((6 * a1) + a2).toNatClampNeg) + (σ.2 5 ((6 * a1) + a2).toNatClampNeg)) + (σ.2 6 ((6 * a1) + a2).toNatClampNeg)) ≤ 900 then some (((σ.2 4 ((6 * a1) + a2).toNatClampNeg) + (σ.2 5 ((6 * a1) + a2).toNatClampNeg)) + (σ.2 6 ((6 * a1) + a2).toNatClampNeg)) else some 900) else some 1) else (if 1 ≤ (((σ.2 4 ((6 * a1) + a2).toNatClampNeg) + (σ.2 5 ((6 * a1) + a2).toNatClampNeg)) + (σ.2 6 ((6 * a1) + a2).toNatClampNeg)) then (if (((σ.2 4 ((6 * a1) + a2).toNatClampNeg) + (σ.2 5 ((6 * a1) + a2).toNatClampNeg)) + (σ.2 6 ((6 * a1) + a2).toNatClampNeg)) ≤ 9999 then some (((σ.2 4 ((6 * a1) + a2).toNatClampNeg) + (σ.2 5 ((6 * a1) + a2).toNatClampNeg)) + (σ.2 6 ((6 * a1) + a2).toNatClampNeg)) else some 9999) else some 1)) else (if 1 ≤ (((σ.2 4 ((6 * a1) + a2).toNatClampNeg) + (σ.2 5 ((6 * a1) + a2).toNatClampNeg)) + (σ.2 6 ((6 * a1) + a2).toNatClampNeg)) then (if (((σ.2 4 ((6 * a1) + a2).toNatClampNeg) + (σ.2 5 ((6 * a1) + a2).toNatClampNeg)) + (σ.2 6 ((6 * a1) + a2).toNatClampNeg)) ≤ 99 then some (((σ.2 4 ((6 * a1) + a2).toNatClampNeg) + (σ.2 5 ((6 * a1) + a2).toNatClampNeg)) + (σ.2 6 ((6 * a1) + a2).toNatClampNeg)) else some 99) else some 1))) else (if 2 ≤ a2 then (if a2 = 5 then (if 0 ≤ (((σ.2 4 ((6 * a1) + a2).toNatClampNeg) + (σ.2 5 ((6 * a1) + a2).toNatClampNeg)) + (σ.2 6 ((6 * a1) + a2).toNatClampNeg)) then (if (((σ.2 4 ((6 * a1) + a2).toNatClampNeg) + (σ.2 5 ((6 * a1) + a2).toNatClampNeg)) + (σ.2 6 ((6 * a1) + a2).toNatClampNeg)) ≤ 900 then some (((σ.2 4 ((6 * a1) + a2).toNatClampNeg) + (σ.2 5 ((6 * a1) + a2).toNatClampNeg)) + (σ.2 6 ((6 * a1) + a2).toNatClampNeg)) else some 900) else some 0) else (if 0 ≤ (((σ.2 4 ((6 * a1) + a2).toNatClampNeg) + (σ.2 5 ((6 * a1) + a2).toNatClampNeg)) + (σ.2 6 ((6 * a1) + a2).toNatClampNeg)) then (if (((σ.2 4 ((6 * a1) + a2).toNatClampNeg) + (σ.2 5 ((6 * a1) + a2).toNatClampNeg)) + (σ.2 6 ((6 * a1) + a2).toNatClampNeg)) ≤ 9999 then some (((σ.2 4 ((6 * a1) + a2).toNatClampNeg) + (σ.2 5 ((6 * a1) + a2).toNatClampNeg)) + (σ.2 6 ((6 * a1) + a2).toNatClampNeg)) else some 9999) else some 0)) else (if 0 ≤ (((σ.2 4 ((6 * a1) + a2).toNatClampNeg) + (σ.2 5 ((6 * a1) + a2).toNatClampNeg)) + (σ.2 6 ((6 * a1) + a2).toNatClampNeg)) then (if (((σ.2 4 ((6 * a1) + a2).toNatClampNeg) + (σ.2 5 ((6 * a1) + a2).toNatClampNeg)) + (σ.2 6 ((6 * a1) + a2).toNatClampNeg)) ≤ 99 then some (((σ.2 4 ((6 * a1) + a2).toNatClampNeg) + (σ.2 5 ((6 * a1) + a2).toNatClampNeg)) + (σ.2 6 ((6 * a1) + a2).toNatClampNeg)) else some 99) else some 0))))))
set_option maxHeartbeats 4000000 in
set_option maxRecDepth 100000 in
theorem ctM_valueOf {G : GP} {l : Launch} {q : Nat → Nat} (N : Nat) (σ : St) (a1 : Int32) (a2 : Int32) (r : Int32) (h : fM_valueOf N σ a1 a2 = some r) : CI G l yX7_valueOf cX7_valueOf 6 (some .int) 0 [.ref (q 0), .int a1, .int a2] (mW G q σ) (mW G q σ) r := by
  refine enterI (own := RX7) (by decide) rfl (Nat.le_of_ble_eq_true rfl) ?_
  intro p e s m args below meth c A C hP hD hS ls hl
  obtain ⟨hx, hb, hml, hown, hts, hK, hZ, hA, hlk, hr⟩ := id C
  have hl : lv_has ls 6 [(0, .ref (q 0)), (1, .int a1), (2, .int a2)] := hl
  rw [fM_valueOf.eq_1] at h
  refine lv_aload_n hx hb dX7_valueOf_0 rfl (lv_at hl 0 rfl) ?_
  refine gf_RX7_41 C hP dX7_valueOf_1 ?_
  refine lv_bipush (v := 6) hx hb dX7_valueOf_4 (by decide) ?_
  refine lv_iload_n hx hb dX7_valueOf_6 rfl (lv_at hl 1 rfl) ?_
  refine lv_imul hx hb dX7_valueOf_7 ?_
  refine lv_iload_n hx hb dX7_valueOf_8 rfl (lv_at hl 2 rfl) ?_
  refine lv_iadd hx hb dX7_valueOf_9 ?_
  obtain ⟨i1, h⟩ := gi_some h
  refine ldM_4 C hP i1 dX7_valueOf_10 ?_
  refine lv_aload_n hx hb dX7_valueOf_11 rfl (lv_at hl 0 rfl) ?_
  refine gf_RX7_44 C hP dX7_valueOf_12 ?_
  refine lv_bipush (v := 6) hx hb dX7_valueOf_15 (by decide) ?_
  refine lv_iload_n hx hb dX7_valueOf_17 rfl (lv_at hl 1 rfl) ?_
  refine lv_imul hx hb dX7_valueOf_18 ?_
  refine lv_iload_n hx hb dX7_valueOf_19 rfl (lv_at hl 2 rfl) ?_
  refine lv_iadd hx hb dX7_valueOf_20 ?_
  obtain ⟨i2, h⟩ := gi_some h
  refine ldM_5 C hP i2 dX7_valueOf_21 ?_
  refine lv_iadd hx hb dX7_valueOf_22 ?_
  refine lv_aload_n hx hb dX7_valueOf_23 rfl (lv_at hl 0 rfl) ?_
  refine gf_RX7_47 C hP dX7_valueOf_24 ?_
  refine lv_bipush (v := 6) hx hb dX7_valueOf_27 (by decide) ?_
  refine lv_iload_n hx hb dX7_valueOf_29 rfl (lv_at hl 1 rfl) ?_
  refine lv_imul hx hb dX7_valueOf_30 ?_
  refine lv_iload_n hx hb dX7_valueOf_31 rfl (lv_at hl 2 rfl) ?_
  refine lv_iadd hx hb dX7_valueOf_32 ?_
  obtain ⟨i3, h⟩ := gi_some h
  refine ldM_6 C hP i3 dX7_valueOf_33 ?_
  refine lv_iadd hx hb dX7_valueOf_34 ?_
  refine lv_istore_n (lv' := [(3, .int (((σ.2 4 ((6 * a1) + a2).toNatClampNeg) + (σ.2 5 ((6 * a1) + a2).toNatClampNeg)) + (σ.2 6 ((6 * a1) + a2).toNatClampNeg))), (0, .ref (q 0)), (1, .int a1), (2, .int a2)]) hx hb dX7_valueOf_35 rfl hl (by decide) rfl (fun ls hl => ?_)
  refine lv_iload_n hx hb dX7_valueOf_36 rfl (lv_at hl 3 rfl) ?_
  refine lv_iconst (v := 2) hx hb dX7_valueOf_37 (by decide) ?_
  refine lv_icmp_ge (tgt := 45) hx hb dX7_valueOf_38 (by decide) (fun c4 => ?_) (fun c4 => ?_)
  · replace h := ifp c4 h
    refine lv_iload_n hx hb dX7_valueOf_45 rfl (lv_at hl 3 rfl) ?_
    refine lv_iconst (v := 5) hx hb dX7_valueOf_46 (by decide) ?_
    refine lv_icmp_ne (tgt := 55) hx hb dX7_valueOf_47 (by decide) (fun c5 => ?_) (fun c5 => ?_)
    · replace h := ifn c5 h
      refine lv_iconst (v := 1) hx hb dX7_valueOf_55 (by decide) ?_
      refine lv_istore (lv' := [(4, .int 1), (3, .int (((σ.2 4 ((6 * a1) + a2).toNatClampNeg) + (σ.2 5 ((6 * a1) + a2).toNatClampNeg)) + (σ.2 6 ((6 * a1) + a2).toNatClampNeg))), (0, .ref (q 0)), (1, .int a1), (2, .int a2)]) hx hb dX7_valueOf_56 hl (by decide) rfl (fun ls hl => ?_)
      refine lv_iload_n hx hb dX7_valueOf_58 rfl (lv_at hl 4 rfl) ?_
      refine lv_iconst (v := 2) hx hb dX7_valueOf_59 (by decide) ?_
      refine lv_icmp_ge (tgt := 68) hx hb dX7_valueOf_60 (by decide) (fun c6 => ?_) (fun c6 => ?_)
      · replace h := ifp c6 h
        refine lv_iload_n hx hb dX7_valueOf_68 rfl (lv_at hl 4 rfl) ?_
        refine lv_iconst (v := 5) hx hb dX7_valueOf_69 (by decide) ?_
        refine lv_icmp_ne (tgt := 79) hx hb dX7_valueOf_70 (by decide) (fun c7 => ?_) (fun c7 => ?_)
        · replace h := ifn c7 h
          refine lv_sipush (v := 9999) hx hb dX7_valueOf_79 (by decide) ?_
          refine lv_istore (lv' := [(5, .int 9999), (4, .int 1), (3, .int (((σ.2 4 ((6 * a1) + a2).toNatClampNeg) + (σ.2 5 ((6 * a1) + a2).toNatClampNeg)) + (σ.2 6 ((6 * a1) + a2).toNatClampNeg))), (0, .ref (q 0)), (1, .int a1), (2, .int a2)]) hx hb dX7_valueOf_82 hl (by decide) rfl (fun ls hl => ?_)
          refine lv_iload_n hx hb dX7_valueOf_84 rfl (lv_at hl 2 rfl) ?_
          refine lv_iload hx hb dX7_valueOf_85 (lv_at hl 1 rfl) ?_
          refine lv_icmp_ge (tgt := 95) hx hb dX7_valueOf_87 (by decide) (fun c8 => ?_) (fun c8 => ?_)
          · replace h := ifp c8 h
            refine lv_iload_n hx hb dX7_valueOf_95 rfl (lv_at hl 2 rfl) ?_
            refine lv_iload hx hb dX7_valueOf_96 (lv_at hl 0 rfl) ?_
            refine lv_icmp_le (tgt := 106) hx hb dX7_valueOf_98 (by decide) (fun c9 => ?_) (fun c9 => ?_)
            · replace h := ifp c9 h
              refine lv_iload_n hx hb dX7_valueOf_106 rfl (lv_at hl 2 rfl) ?_
              obtain rfl := so1 h
              exact retI C hP hD hS dX7_valueOf_107
            · replace h := ifn c9 h
              refine lv_iload hx hb dX7_valueOf_101 (lv_at hl 0 rfl) ?_
              refine lv_goto (tgt := 107) hx hb dX7_valueOf_103 (by decide) ?_
              obtain rfl := so1 h
              exact retI C hP hD hS dX7_valueOf_107
          · replace h := ifn c8 h
            refine lv_iload hx hb dX7_valueOf_90 (lv_at hl 1 rfl) ?_
            refine lv_goto (tgt := 107) hx hb dX7_valueOf_92 (by decide) ?_
            obtain rfl := so1 h
            exact retI C hP hD hS dX7_valueOf_107
        · replace h := ifp c7 h
          refine lv_sipush (v := 900) hx hb dX7_valueOf_73 (by decide) ?_
          refine lv_goto (tgt := 82) hx hb dX7_valueOf_76 (by decide) ?_
          refine lv_istore (lv' := [(5, .int 900), (4, .int 1), (3, .int (((σ.2 4 ((6 * a1) + a2).toNatClampNeg) + (σ.2 5 ((6 * a1) + a2).toNatClampNeg)) + (σ.2 6 ((6 * a1) + a2).toNatClampNeg))), (0, .ref (q 0)), (1, .int a1), (2, .int a2)]) hx hb dX7_valueOf_82 hl (by decide) rfl (fun ls hl => ?_)
          refine lv_iload_n hx hb dX7_valueOf_84 rfl (lv_at hl 2 rfl) ?_
          refine lv_iload hx hb dX7_valueOf_85 (lv_at hl 1 rfl) ?_
          refine lv_icmp_ge (tgt := 95) hx hb dX7_valueOf_87 (by decide) (fun c10 => ?_) (fun c10 => ?_)
          · replace h := ifp c10 h
            refine lv_iload_n hx hb dX7_valueOf_95 rfl (lv_at hl 2 rfl) ?_
            refine lv_iload hx hb dX7_valueOf_96 (lv_at hl 0 rfl) ?_
            refine lv_icmp_le (tgt := 106) hx hb dX7_valueOf_98 (by decide) (fun c11 => ?_) (fun c11 => ?_)
            · replace h := ifp c11 h
              refine lv_iload_n hx hb dX7_valueOf_106 rfl (lv_at hl 2 rfl) ?_
              obtain rfl := so1 h
              exact retI C hP hD hS dX7_valueOf_107
            · replace h := ifn c11 h
              refine lv_iload hx hb dX7_valueOf_101 (lv_at hl 0 rfl) ?_
              refine lv_goto (tgt := 107) hx hb dX7_valueOf_103 (by decide) ?_
              obtain rfl := so1 h
              exact retI C hP hD hS dX7_valueOf_107
          · replace h := ifn c10 h
            refine lv_iload hx hb dX7_valueOf_90 (lv_at hl 1 rfl) ?_
            refine lv_goto (tgt := 107) hx hb dX7_valueOf_92 (by decide) ?_
            obtain rfl := so1 h
            exact retI C hP hD hS dX7_valueOf_107
      · replace h := ifn c6 h
        refine lv_bipush (v := 99) hx hb dX7_valueOf_63 (by decide) ?_
        refine lv_goto (tgt := 82) hx hb dX7_valueOf_65 (by decide) ?_
        refine lv_istore (lv' := [(5, .int 99), (4, .int 1), (3, .int (((σ.2 4 ((6 * a1) + a2).toNatClampNeg) + (σ.2 5 ((6 * a1) + a2).toNatClampNeg)) + (σ.2 6 ((6 * a1) + a2).toNatClampNeg))), (0, .ref (q 0)), (1, .int a1), (2, .int a2)]) hx hb dX7_valueOf_82 hl (by decide) rfl (fun ls hl => ?_)
        refine lv_iload_n hx hb dX7_valueOf_84 rfl (lv_at hl 2 rfl) ?_
        refine lv_iload hx hb dX7_valueOf_85 (lv_at hl 1 rfl) ?_
        refine lv_icmp_ge (tgt := 95) hx hb dX7_valueOf_87 (by decide) (fun c12 => ?_) (fun c12 => ?_)
        · replace h := ifp c12 h
          refine lv_iload_n hx hb dX7_valueOf_95 rfl (lv_at hl 2 rfl) ?_
          refine lv_iload hx hb dX7_valueOf_96 (lv_at hl 0 rfl) ?_
          refine lv_icmp_le (tgt := 106) hx hb dX7_valueOf_98 (by decide) (fun c13 => ?_) (fun c13 => ?_)
          · replace h := ifp c13 h
            refine lv_iload_n hx hb dX7_valueOf_106 rfl (lv_at hl 2 rfl) ?_
            obtain rfl := so1 h
            exact retI C hP hD hS dX7_valueOf_107
          · replace h := ifn c13 h
            refine lv_iload hx hb dX7_valueOf_101 (lv_at hl 0 rfl) ?_
            refine lv_goto (tgt := 107) hx hb dX7_valueOf_103 (by decide) ?_
            obtain rfl := so1 h
            exact retI C hP hD hS dX7_valueOf_107
        · replace h := ifn c12 h
          refine lv_iload hx hb dX7_valueOf_90 (lv_at hl 1 rfl) ?_
          refine lv_goto (tgt := 107) hx hb dX7_valueOf_92 (by decide) ?_
          obtain rfl := so1 h
          exact retI C hP hD hS dX7_valueOf_107
    · replace h := ifp c5 h
      refine lv_bipush (v := 20) hx hb dX7_valueOf_50 (by decide) ?_
      refine lv_goto (tgt := 56) hx hb dX7_valueOf_52 (by decide) ?_
      refine lv_istore (lv' := [(4, .int 20), (3, .int (((σ.2 4 ((6 * a1) + a2).toNatClampNeg) + (σ.2 5 ((6 * a1) + a2).toNatClampNeg)) + (σ.2 6 ((6 * a1) + a2).toNatClampNeg))), (0, .ref (q 0)), (1, .int a1), (2, .int a2)]) hx hb dX7_valueOf_56 hl (by decide) rfl (fun ls hl => ?_)
      refine lv_iload_n hx hb dX7_valueOf_58 rfl (lv_at hl 4 rfl) ?_
      refine lv_iconst (v := 2) hx hb dX7_valueOf_59 (by decide) ?_
      refine lv_icmp_ge (tgt := 68) hx hb dX7_valueOf_60 (by decide) (fun c14 => ?_) (fun c14 => ?_)
      · replace h := ifp c14 h
        refine lv_iload_n hx hb dX7_valueOf_68 rfl (lv_at hl 4 rfl) ?_
        refine lv_iconst (v := 5) hx hb dX7_valueOf_69 (by decide) ?_
        refine lv_icmp_ne (tgt := 79) hx hb dX7_valueOf_70 (by decide) (fun c15 => ?_) (fun c15 => ?_)
        · replace h := ifn c15 h
          refine lv_sipush (v := 9999) hx hb dX7_valueOf_79 (by decide) ?_
          refine lv_istore (lv' := [(5, .int 9999), (4, .int 20), (3, .int (((σ.2 4 ((6 * a1) + a2).toNatClampNeg) + (σ.2 5 ((6 * a1) + a2).toNatClampNeg)) + (σ.2 6 ((6 * a1) + a2).toNatClampNeg))), (0, .ref (q 0)), (1, .int a1), (2, .int a2)]) hx hb dX7_valueOf_82 hl (by decide) rfl (fun ls hl => ?_)
          refine lv_iload_n hx hb dX7_valueOf_84 rfl (lv_at hl 2 rfl) ?_
          refine lv_iload hx hb dX7_valueOf_85 (lv_at hl 1 rfl) ?_
          refine lv_icmp_ge (tgt := 95) hx hb dX7_valueOf_87 (by decide) (fun c16 => ?_) (fun c16 => ?_)
          · replace h := ifp c16 h
            refine lv_iload_n hx hb dX7_valueOf_95 rfl (lv_at hl 2 rfl) ?_
            refine lv_iload hx hb dX7_valueOf_96 (lv_at hl 0 rfl) ?_
            refine lv_icmp_le (tgt := 106) hx hb dX7_valueOf_98 (by decide) (fun c17 => ?_) (fun c17 => ?_)
            · replace h := ifp c17 h
              refine lv_iload_n hx hb dX7_valueOf_106 rfl (lv_at hl 2 rfl) ?_
              obtain rfl := so1 h
              exact retI C hP hD hS dX7_valueOf_107
            · replace h := ifn c17 h
              refine lv_iload hx hb dX7_valueOf_101 (lv_at hl 0 rfl) ?_
              refine lv_goto (tgt := 107) hx hb dX7_valueOf_103 (by decide) ?_
              obtain rfl := so1 h
              exact retI C hP hD hS dX7_valueOf_107
          · replace h := ifn c16 h
            refine lv_iload hx hb dX7_valueOf_90 (lv_at hl 1 rfl) ?_
            refine lv_goto (tgt := 107) hx hb dX7_valueOf_92 (by decide) ?_
            obtain rfl := so1 h
            exact retI C hP hD hS dX7_valueOf_107
        · replace h := ifp c15 h
          refine lv_sipush (v := 900) hx hb dX7_valueOf_73 (by decide) ?_
          refine lv_goto (tgt := 82) hx hb dX7_valueOf_76 (by decide) ?_
          refine lv_istore (lv' := [(5, .int 900), (4, .int 20), (3, .int (((σ.2 4 ((6 * a1) + a2).toNatClampNeg) + (σ.2 5 ((6 * a1) + a2).toNatClampNeg)) + (σ.2 6 ((6 * a1) + a2).toNatClampNeg))), (0, .ref (q 0)), (1, .int a1), (2, .int a2)]) hx hb dX7_valueOf_82 hl (by decide) rfl (fun ls hl => ?_)
          refine lv_iload_n hx hb dX7_valueOf_84 rfl (lv_at hl 2 rfl) ?_
          refine lv_iload hx hb dX7_valueOf_85 (lv_at hl 1 rfl) ?_
          refine lv_icmp_ge (tgt := 95) hx hb dX7_valueOf_87 (by decide) (fun c18 => ?_) (fun c18 => ?_)
          · replace h := ifp c18 h
            refine lv_iload_n hx hb dX7_valueOf_95 rfl (lv_at hl 2 rfl) ?_
            refine lv_iload hx hb dX7_valueOf_96 (lv_at hl 0 rfl) ?_
            refine lv_icmp_le (tgt := 106) hx hb dX7_valueOf_98 (by decide) (fun c19 => ?_) (fun c19 => ?_)
            · replace h := ifp c19 h
              refine lv_iload_n hx hb dX7_valueOf_106 rfl (lv_at hl 2 rfl) ?_
              obtain rfl := so1 h
              exact retI C hP hD hS dX7_valueOf_107
            · replace h := ifn c19 h
              refine lv_iload hx hb dX7_valueOf_101 (lv_at hl 0 rfl) ?_
              refine lv_goto (tgt := 107) hx hb dX7_valueOf_103 (by decide) ?_
              obtain rfl := so1 h
              exact retI C hP hD hS dX7_valueOf_107
          · replace h := ifn c18 h
            refine lv_iload hx hb dX7_valueOf_90 (lv_at hl 1 rfl) ?_
            refine lv_goto (tgt := 107) hx hb dX7_valueOf_92 (by decide) ?_
            obtain rfl := so1 h
            exact retI C hP hD hS dX7_valueOf_107
      · replace h := ifn c14 h
        refine lv_bipush (v := 99) hx hb dX7_valueOf_63 (by decide) ?_
        refine lv_goto (tgt := 82) hx hb dX7_valueOf_65 (by decide) ?_
        refine lv_istore (lv' := [(5, .int 99), (4, .int 20), (3, .int (((σ.2 4 ((6 * a1) + a2).toNatClampNeg) + (σ.2 5 ((6 * a1) + a2).toNatClampNeg)) + (σ.2 6 ((6 * a1) + a2).toNatClampNeg))), (0, .ref (q 0)), (1, .int a1), (2, .int a2)]) hx hb dX7_valueOf_82 hl (by decide) rfl (fun ls hl => ?_)
        refine lv_iload_n hx hb dX7_valueOf_84 rfl (lv_at hl 2 rfl) ?_
        refine lv_iload hx hb dX7_valueOf_85 (lv_at hl 1 rfl) ?_
        refine lv_icmp_ge (tgt := 95) hx hb dX7_valueOf_87 (by decide) (fun c20 => ?_) (fun c20 => ?_)
        · replace h := ifp c20 h
          refine lv_iload_n hx hb dX7_valueOf_95 rfl (lv_at hl 2 rfl) ?_
          refine lv_iload hx hb dX7_valueOf_96 (lv_at hl 0 rfl) ?_
          refine lv_icmp_le (tgt := 106) hx hb dX7_valueOf_98 (by decide) (fun c21 => ?_) (fun c21 => ?_)
          · replace h := ifp c21 h
            refine lv_iload_n hx hb dX7_valueOf_106 rfl (lv_at hl 2 rfl) ?_
            obtain rfl := so1 h
            exact retI C hP hD hS dX7_valueOf_107
          · replace h := ifn c21 h
            refine lv_iload hx hb dX7_valueOf_101 (lv_at hl 0 rfl) ?_
            refine lv_goto (tgt := 107) hx hb dX7_valueOf_103 (by decide) ?_
            obtain rfl := so1 h
            exact retI C hP hD hS dX7_valueOf_107
        · replace h := ifn c20 h
          refine lv_iload hx hb dX7_valueOf_90 (lv_at hl 1 rfl) ?_
          refine lv_goto (tgt := 107) hx hb dX7_valueOf_92 (by decide) ?_
          obtain rfl := so1 h
          exact retI C hP hD hS dX7_valueOf_107
  · replace h := ifn c4 h
    refine lv_iconst (v := 0) hx hb dX7_valueOf_41 (by decide) ?_
    refine lv_goto (tgt := 56) hx hb dX7_valueOf_42 (by decide) ?_
    refine lv_istore (lv' := [(4, .int 0), (3, .int (((σ.2 4 ((6 * a1) + a2).toNatClampNeg) + (σ.2 5 ((6 * a1) + a2).toNatClampNeg)) + (σ.2 6 ((6 * a1) + a2).toNatClampNeg))), (0, .ref (q 0)), (1, .int a1), (2, .int a2)]) hx hb dX7_valueOf_56 hl (by decide) rfl (fun ls hl => ?_)
    refine lv_iload_n hx hb dX7_valueOf_58 rfl (lv_at hl 4 rfl) ?_
    refine lv_iconst (v := 2) hx hb dX7_valueOf_59 (by decide) ?_
    refine lv_icmp_ge (tgt := 68) hx hb dX7_valueOf_60 (by decide) (fun c22 => ?_) (fun c22 => ?_)
    · replace h := ifp c22 h
      refine lv_iload_n hx hb dX7_valueOf_68 rfl (lv_at hl 4 rfl) ?_
      refine lv_iconst (v := 5) hx hb dX7_valueOf_69 (by decide) ?_
      refine lv_icmp_ne (tgt := 79) hx hb dX7_valueOf_70 (by decide) (fun c23 => ?_) (fun c23 => ?_)
      · replace h := ifn c23 h
        refine lv_sipush (v := 9999) hx hb dX7_valueOf_79 (by decide) ?_
        refine lv_istore (lv' := [(5, .int 9999), (4, .int 0), (3, .int (((σ.2 4 ((6 * a1) + a2).toNatClampNeg) + (σ.2 5 ((6 * a1) + a2).toNatClampNeg)) + (σ.2 6 ((6 * a1) + a2).toNatClampNeg))), (0, .ref (q 0)), (1, .int a1), (2, .int a2)]) hx hb dX7_valueOf_82 hl (by decide) rfl (fun ls hl => ?_)
        refine lv_iload_n hx hb dX7_valueOf_84 rfl (lv_at hl 2 rfl) ?_
        refine lv_iload hx hb dX7_valueOf_85 (lv_at hl 1 rfl) ?_
        refine lv_icmp_ge (tgt := 95) hx hb dX7_valueOf_87 (by decide) (fun c24 => ?_) (fun c24 => ?_)
        · replace h := ifp c24 h
          refine lv_iload_n hx hb dX7_valueOf_95 rfl (lv_at hl 2 rfl) ?_
          refine lv_iload hx hb dX7_valueOf_96 (lv_at hl 0 rfl) ?_
          refine lv_icmp_le (tgt := 106) hx hb dX7_valueOf_98 (by decide) (fun c25 => ?_) (fun c25 => ?_)
          · replace h := ifp c25 h
            refine lv_iload_n hx hb dX7_valueOf_106 rfl (lv_at hl 2 rfl) ?_
            obtain rfl := so1 h
            exact retI C hP hD hS dX7_valueOf_107
          · replace h := ifn c25 h
            refine lv_iload hx hb dX7_valueOf_101 (lv_at hl 0 rfl) ?_
            refine lv_goto (tgt := 107) hx hb dX7_valueOf_103 (by decide) ?_
            obtain rfl := so1 h
            exact retI C hP hD hS dX7_valueOf_107
        · replace h := ifn c24 h
          refine lv_iload hx hb dX7_valueOf_90 (lv_at hl 1 rfl) ?_
          refine lv_goto (tgt := 107) hx hb dX7_valueOf_92 (by decide) ?_
          obtain rfl := so1 h
          exact retI C hP hD hS dX7_valueOf_107
      · replace h := ifp c23 h
        refine lv_sipush (v := 900) hx hb dX7_valueOf_73 (by decide) ?_
        refine lv_goto (tgt := 82) hx hb dX7_valueOf_76 (by decide) ?_
        refine lv_istore (lv' := [(5, .int 900), (4, .int 0), (3, .int (((σ.2 4 ((6 * a1) + a2).toNatClampNeg) + (σ.2 5 ((6 * a1) + a2).toNatClampNeg)) + (σ.2 6 ((6 * a1) + a2).toNatClampNeg))), (0, .ref (q 0)), (1, .int a1), (2, .int a2)]) hx hb dX7_valueOf_82 hl (by decide) rfl (fun ls hl => ?_)
        refine lv_iload_n hx hb dX7_valueOf_84 rfl (lv_at hl 2 rfl) ?_
        refine lv_iload hx hb dX7_valueOf_85 (lv_at hl 1 rfl) ?_
        refine lv_icmp_ge (tgt := 95) hx hb dX7_valueOf_87 (by decide) (fun c26 => ?_) (fun c26 => ?_)
        · replace h := ifp c26 h
          refine lv_iload_n hx hb dX7_valueOf_95 rfl (lv_at hl 2 rfl) ?_
          refine lv_iload hx hb dX7_valueOf_96 (lv_at hl 0 rfl) ?_
          refine lv_icmp_le (tgt := 106) hx hb dX7_valueOf_98 (by decide) (fun c27 => ?_) (fun c27 => ?_)
          · replace h := ifp c27 h
            refine lv_iload_n hx hb dX7_valueOf_106 rfl (lv_at hl 2 rfl) ?_
            obtain rfl := so1 h
            exact retI C hP hD hS dX7_valueOf_107
          · replace h := ifn c27 h
            refine lv_iload hx hb dX7_valueOf_101 (lv_at hl 0 rfl) ?_
            refine lv_goto (tgt := 107) hx hb dX7_valueOf_103 (by decide) ?_
            obtain rfl := so1 h
            exact retI C hP hD hS dX7_valueOf_107
        · replace h := ifn c26 h
          refine lv_iload hx hb dX7_valueOf_90 (lv_at hl 1 rfl) ?_
          refine lv_goto (tgt := 107) hx hb dX7_valueOf_92 (by decide) ?_
          obtain rfl := so1 h
          exact retI C hP hD hS dX7_valueOf_107
    · replace h := ifn c22 h
      refine lv_bipush (v := 99) hx hb dX7_valueOf_63 (by decide) ?_
      refine lv_goto (tgt := 82) hx hb dX7_valueOf_65 (by decide) ?_
      refine lv_istore (lv' := [(5, .int 99), (4, .int 0), (3, .int (((σ.2 4 ((6 * a1) + a2).toNatClampNeg) + (σ.2 5 ((6 * a1) + a2).toNatClampNeg)) + (σ.2 6 ((6 * a1) + a2).toNatClampNeg))), (0, .ref (q 0)), (1, .int a1), (2, .int a2)]) hx hb dX7_valueOf_82 hl (by decide) rfl (fun ls hl => ?_)
      refine lv_iload_n hx hb dX7_valueOf_84 rfl (lv_at hl 2 rfl) ?_
      refine lv_iload hx hb dX7_valueOf_85 (lv_at hl 1 rfl) ?_
      refine lv_icmp_ge (tgt := 95) hx hb dX7_valueOf_87 (by decide) (fun c28 => ?_) (fun c28 => ?_)
      · replace h := ifp c28 h
        refine lv_iload_n hx hb dX7_valueOf_95 rfl (lv_at hl 2 rfl) ?_
        refine lv_iload hx hb dX7_valueOf_96 (lv_at hl 0 rfl) ?_
        refine lv_icmp_le (tgt := 106) hx hb dX7_valueOf_98 (by decide) (fun c29 => ?_) (fun c29 => ?_)
        · replace h := ifp c29 h
          refine lv_iload_n hx hb dX7_valueOf_106 rfl (lv_at hl 2 rfl) ?_
          obtain rfl := so1 h
          exact retI C hP hD hS dX7_valueOf_107
        · replace h := ifn c29 h
          refine lv_iload hx hb dX7_valueOf_101 (lv_at hl 0 rfl) ?_
          refine lv_goto (tgt := 107) hx hb dX7_valueOf_103 (by decide) ?_
          obtain rfl := so1 h
          exact retI C hP hD hS dX7_valueOf_107
      · replace h := ifn c28 h
        refine lv_iload hx hb dX7_valueOf_90 (lv_at hl 1 rfl) ?_
        refine lv_goto (tgt := 107) hx hb dX7_valueOf_92 (by decide) ?_
        obtain rfl := so1 h
        exact retI C hP hD hS dX7_valueOf_107

def fM_ofSet (N : Nat) (σ : St) (a1 : Int32) (a2 : Int32) (a3 : Int32) : Option Int32 :=
  bd1 (fM_isSet N σ a1) (fun r2 => (if r2 = 0 then some (-2000000000) else bd1 (fM_within N a2 0 5) (fun r5 => (if r5 = 0 then some (-2000000000) else bd1 (fM_within N a3 0 1) (fun r8 => (if r8 = 0 then some (-2000000000) else (if a3 = 0 then bd1 (fM_valueOf N σ a1 a2) (fun r13 => some r13) else gi ((6 * a1) + a2) 60 (some (σ.2 6 ((6 * a1) + a2).toNatClampNeg)))))))))
set_option maxHeartbeats 4000000 in
set_option maxRecDepth 100000 in
theorem ctM_ofSet {G : GP} {l : Launch} {q : Nat → Nat} (N : Nat) (σ : St) (a1 : Int32) (a2 : Int32) (a3 : Int32) (r : Int32) (h : fM_ofSet N σ a1 a2 a3 = some r) : CI G l yX7_ofSet cX7_ofSet 4 (some .int) 1 [.ref (q 0), .int a1, .int a2, .int a3] (mW G q σ) (mW G q σ) r := by
  refine enterI (own := RX7) (by decide) rfl (Nat.le_of_ble_eq_true rfl) ?_
  intro p e s m args below meth c A C hP hD hS ls hl
  obtain ⟨hx, hb, hml, hown, hts, hK, hZ, hA, hlk, hr⟩ := id C
  have hl : lv_has ls 4 [(0, .ref (q 0)), (1, .int a1), (2, .int a2), (3, .int a3)] := hl
  rw [fM_ofSet.eq_1] at h
  refine lv_aload_n hx hb dX7_ofSet_0 rfl (lv_at hl 0 rfl) ?_
  refine lv_iload_n hx hb dX7_ofSet_1 rfl (lv_at hl 1 rfl) ?_
  obtain ⟨r2, h1, h⟩ := bd1_some h
  refine goI C hD hS (runV (As := [.int a1]) (rest := []) (w := (mW G q σ)) C lc_RX7_173 (ctM_isSet N σ a1 r2 h1 _) hP hD hS (va_recv C.2.2.2.2.2.1 hP (ci := 7) (q0 := 0) rfl rfl) hl.1 rfl rfl (by decide) (by decide) (Nat.le_of_ble_eq_true rfl) dX7_ofSet_2) (fun H locs hP hD hS => ?_)
  refine lv_if_eq (tgt := 26) hx hb dX7_ofSet_5 (by decide) (fun c3 => ?_) (fun c3 => ?_)
  · replace h := ifp c3 h
    refine lv_ldc hx hb hown (hts _ (List.mem_cons_of_mem _ kc_RX7_90)) dX7_ofSet_26 ?_
    obtain rfl := so1 h
    exact retI C hP hD hS dX7_ofSet_28
  · replace h := ifn c3 h
    refine lv_iload_n hx hb dX7_ofSet_8 rfl (lv_at hl 2 rfl) ?_
    refine lv_iconst (v := 0) hx hb dX7_ofSet_9 (by decide) ?_
    refine lv_iconst (v := 5) hx hb dX7_ofSet_10 (by decide) ?_
    obtain ⟨r5, h4, h⟩ := bd1_some h
    refine goI C hD hS (runS (As := [.int a2, .int 0, .int 5]) (rest := []) (w := (mW G q σ)) C lc_RX7_75 (ctM_within (w := (mW G q σ)) N a2 0 5 r5 h4 _) hP hD hS hl.1 rfl rfl (by decide) (by decide) (Nat.le_of_ble_eq_true rfl) dX7_ofSet_11) (fun H locs hP hD hS => ?_)
    refine lv_if_eq (tgt := 26) hx hb dX7_ofSet_14 (by decide) (fun c6 => ?_) (fun c6 => ?_)
    · replace h := ifp c6 h
      refine lv_ldc hx hb hown (hts _ (List.mem_cons_of_mem _ kc_RX7_90)) dX7_ofSet_26 ?_
      obtain rfl := so1 h
      exact retI C hP hD hS dX7_ofSet_28
    · replace h := ifn c6 h
      refine lv_iload_n hx hb dX7_ofSet_17 rfl (lv_at hl 3 rfl) ?_
      refine lv_iconst (v := 0) hx hb dX7_ofSet_18 (by decide) ?_
      refine lv_iconst (v := 1) hx hb dX7_ofSet_19 (by decide) ?_
      obtain ⟨r8, h7, h⟩ := bd1_some h
      refine goI C hD hS (runS (As := [.int a3, .int 0, .int 1]) (rest := []) (w := (mW G q σ)) C lc_RX7_75 (ctM_within (w := (mW G q σ)) N a3 0 1 r8 h7 _) hP hD hS hl.1 rfl rfl (by decide) (by decide) (Nat.le_of_ble_eq_true rfl) dX7_ofSet_20) (fun H locs hP hD hS => ?_)
      refine lv_if_ne (tgt := 29) hx hb dX7_ofSet_23 (by decide) (fun c9 => ?_) (fun c9 => ?_)
      · replace h := ifn c9 h
        refine lv_iload_n hx hb dX7_ofSet_29 rfl (lv_at hl 3 rfl) ?_
        refine lv_if_ne (tgt := 42) hx hb dX7_ofSet_30 (by decide) (fun c10 => ?_) (fun c10 => ?_)
        · replace h := ifn c10 h
          refine lv_aload_n hx hb dX7_ofSet_42 rfl (lv_at hl 0 rfl) ?_
          refine gf_RX7_47 C hP dX7_ofSet_43 ?_
          refine lv_bipush (v := 6) hx hb dX7_ofSet_46 (by decide) ?_
          refine lv_iload_n hx hb dX7_ofSet_48 rfl (lv_at hl 1 rfl) ?_
          refine lv_imul hx hb dX7_ofSet_49 ?_
          refine lv_iload_n hx hb dX7_ofSet_50 rfl (lv_at hl 2 rfl) ?_
          refine lv_iadd hx hb dX7_ofSet_51 ?_
          obtain ⟨i11, h⟩ := gi_some h
          refine ldM_6 C hP i11 dX7_ofSet_52 ?_
          obtain rfl := so1 h
          exact retI C hP hD hS dX7_ofSet_53
        · replace h := ifp c10 h
          refine lv_aload_n hx hb dX7_ofSet_33 rfl (lv_at hl 0 rfl) ?_
          refine lv_iload_n hx hb dX7_ofSet_34 rfl (lv_at hl 1 rfl) ?_
          refine lv_iload_n hx hb dX7_ofSet_35 rfl (lv_at hl 2 rfl) ?_
          obtain ⟨r13, h12, h⟩ := bd1_some h
          refine goI C hD hS (runV (As := [.int a1, .int a2]) (rest := []) (w := (mW G q σ)) C lc_RX7_176 (ctM_valueOf N σ a1 a2 r13 h12 _) hP hD hS (va_recv C.2.2.2.2.2.1 hP (ci := 7) (q0 := 0) rfl rfl) hl.1 rfl rfl (by decide) (by decide) (Nat.le_of_ble_eq_true rfl) dX7_ofSet_36) (fun H locs hP hD hS => ?_)
          refine lv_goto (tgt := 53) hx hb dX7_ofSet_39 (by decide) ?_
          obtain rfl := so1 h
          exact retI C hP hD hS dX7_ofSet_53
      · replace h := ifp c9 h
        refine lv_ldc hx hb hown (hts _ (List.mem_cons_of_mem _ kc_RX7_90)) dX7_ofSet_26 ?_
        obtain rfl := so1 h
        exact retI C hP hD hS dX7_ofSet_28

def fM_errorNow (N : Nat) (σ : St) (a1 : Int32) : Option Int32 :=
  bd1 (fM_valueOf N σ a1 5) (fun r2 => bd1 (fM_valueOf N σ a1 0) (fun r4 => bd1 (fM_valueOf N σ a1 1) (fun r6 => bd1 (fM_valueOf N σ a1 2) (fun r8 => bd1 (fM_valueOf N σ a1 3) (fun r10 => bd1 (fM_valueOf N σ a1 4) (fun r12 => bd1 (fM_offWith N σ r4 r6 r8 r10 r12 r2) (fun r14 => gi ((6 * a1) + 5) 60 (bd1 (fM_size N (r2 - (σ.2 4 ((6 * a1) + 5).toNatClampNeg))) (fun r17 => some (r14 + (10 * r17)))))))))))
set_option maxHeartbeats 4000000 in
set_option maxRecDepth 100000 in
theorem ctM_errorNow {G : GP} {l : Launch} {q : Nat → Nat} (N : Nat) (σ : St) (a1 : Int32) (r : Int32) (h : fM_errorNow N σ a1 = some r) : CI G l yX7_errorNow cX7_errorNow 3 (some .int) 5 [.ref (q 0), .int a1] (mW G q σ) (mW G q σ) r := by
  refine enterI (own := RX7) (by decide) rfl (Nat.le_of_ble_eq_true rfl) ?_
  intro p e s m args below meth c A C hP hD hS ls hl
  obtain ⟨hx, hb, hml, hown, hts, hK, hZ, hA, hlk, hr⟩ := id C
  have hl : lv_has ls 3 [(0, .ref (q 0)), (1, .int a1)] := hl
  rw [fM_errorNow.eq_1] at h
  refine lv_aload_n hx hb dX7_errorNow_0 rfl (lv_at hl 0 rfl) ?_
  refine lv_iload_n hx hb dX7_errorNow_1 rfl (lv_at hl 1 rfl) ?_
  refine lv_iconst (v := 5) hx hb dX7_errorNow_2 (by decide) ?_
  obtain ⟨r2, h1, h⟩ := bd1_some h
  refine goI C hD hS (runV (As := [.int a1, .int 5]) (rest := []) (w := (mW G q σ)) C lc_RX7_176 (ctM_valueOf N σ a1 5 r2 h1 _) hP hD hS (va_recv C.2.2.2.2.2.1 hP (ci := 7) (q0 := 0) rfl rfl) hl.1 rfl rfl (by decide) (by decide) (Nat.le_of_ble_eq_true rfl) dX7_errorNow_3) (fun H locs hP hD hS => ?_)
  refine lv_istore_n (lv' := [(2, .int r2), (0, .ref (q 0)), (1, .int a1)]) hx hb dX7_errorNow_6 rfl hl (by decide) rfl (fun ls hl => ?_)
  refine lv_aload_n hx hb dX7_errorNow_7 rfl (lv_at hl 1 rfl) ?_
  refine lv_aload_n hx hb dX7_errorNow_8 rfl (lv_at hl 1 rfl) ?_
  refine lv_iload_n hx hb dX7_errorNow_9 rfl (lv_at hl 2 rfl) ?_
  refine lv_iconst (v := 0) hx hb dX7_errorNow_10 (by decide) ?_
  obtain ⟨r4, h3, h⟩ := bd1_some h
  refine goI C hD hS (runV (As := [.int a1, .int 0]) (rest := [.ref (q 0)]) (w := (mW G q σ)) C lc_RX7_176 (ctM_valueOf N σ a1 0 r4 h3 _) hP hD hS (va_recv C.2.2.2.2.2.1 hP (ci := 7) (q0 := 0) rfl rfl) hl.1 rfl rfl (by decide) (by decide) (Nat.le_of_ble_eq_true rfl) dX7_errorNow_11) (fun H locs hP hD hS => ?_)
  refine lv_aload_n hx hb dX7_errorNow_14 rfl (lv_at hl 1 rfl) ?_
  refine lv_iload_n hx hb dX7_errorNow_15 rfl (lv_at hl 2 rfl) ?_
  refine lv_iconst (v := 1) hx hb dX7_errorNow_16 (by decide) ?_
  obtain ⟨r6, h5, h⟩ := bd1_some h
  refine goI C hD hS (runV (As := [.int a1, .int 1]) (rest := [.int r4, .ref (q 0)]) (w := (mW G q σ)) C lc_RX7_176 (ctM_valueOf N σ a1 1 r6 h5 _) hP hD hS (va_recv C.2.2.2.2.2.1 hP (ci := 7) (q0 := 0) rfl rfl) hl.1 rfl rfl (by decide) (by decide) (Nat.le_of_ble_eq_true rfl) dX7_errorNow_17) (fun H locs hP hD hS => ?_)
  refine lv_aload_n hx hb dX7_errorNow_20 rfl (lv_at hl 1 rfl) ?_
  refine lv_iload_n hx hb dX7_errorNow_21 rfl (lv_at hl 2 rfl) ?_
  refine lv_iconst (v := 2) hx hb dX7_errorNow_22 (by decide) ?_
  obtain ⟨r8, h7, h⟩ := bd1_some h
  refine goI C hD hS (runV (As := [.int a1, .int 2]) (rest := [.int r6, .int r4, .ref (q 0)]) (w := (mW G q σ)) C lc_RX7_176 (ctM_valueOf N σ a1 2 r8 h7 _) hP hD hS (va_recv C.2.2.2.2.2.1 hP (ci := 7) (q0 := 0) rfl rfl) hl.1 rfl rfl (by decide) (by decide) (Nat.le_of_ble_eq_true rfl) dX7_errorNow_23) (fun H locs hP hD hS => ?_)
  refine lv_aload_n hx hb dX7_errorNow_26 rfl (lv_at hl 1 rfl) ?_
  refine lv_iload_n hx hb dX7_errorNow_27 rfl (lv_at hl 2 rfl) ?_
  refine lv_iconst (v := 3) hx hb dX7_errorNow_28 (by decide) ?_
  obtain ⟨r10, h9, h⟩ := bd1_some h
  refine goI C hD hS (runV (As := [.int a1, .int 3]) (rest := [.int r8, .int r6, .int r4, .ref (q 0)]) (w := (mW G q σ)) C lc_RX7_176 (ctM_valueOf N σ a1 3 r10 h9 _) hP hD hS (va_recv C.2.2.2.2.2.1 hP (ci := 7) (q0 := 0) rfl rfl) hl.1 rfl rfl (by decide) (by decide) (Nat.le_of_ble_eq_true rfl) dX7_errorNow_29) (fun H locs hP hD hS => ?_)
  refine lv_aload_n hx hb dX7_errorNow_32 rfl (lv_at hl 1 rfl) ?_
  refine lv_iload_n hx hb dX7_errorNow_33 rfl (lv_at hl 2 rfl) ?_
  refine lv_iconst (v := 4) hx hb dX7_errorNow_34 (by decide) ?_
  obtain ⟨r12, h11, h⟩ := bd1_some h
  refine goI C hD hS (runV (As := [.int a1, .int 4]) (rest := [.int r10, .int r8, .int r6, .int r4, .ref (q 0)]) (w := (mW G q σ)) C lc_RX7_176 (ctM_valueOf N σ a1 4 r12 h11 _) hP hD hS (va_recv C.2.2.2.2.2.1 hP (ci := 7) (q0 := 0) rfl rfl) hl.1 rfl rfl (by decide) (by decide) (Nat.le_of_ble_eq_true rfl) dX7_errorNow_35) (fun H locs hP hD hS => ?_)
  refine lv_iload_n hx hb dX7_errorNow_38 rfl (lv_at hl 0 rfl) ?_
  obtain ⟨r14, h13, h⟩ := bd1_some h
  refine goI C hD hS (runV (As := [.int r4, .int r6, .int r8, .int r10, .int r12, .int r2]) (rest := []) (w := (mW G q σ)) C lc_RX7_165 (ctM_offWith N σ r4 r6 r8 r10 r12 r2 r14 h13 _) hP hD hS (va_recv C.2.2.2.2.2.1 hP (ci := 7) (q0 := 0) rfl rfl) hl.1 rfl rfl (by decide) (by decide) (Nat.le_of_ble_eq_true rfl) dX7_errorNow_39) (fun H locs hP hD hS => ?_)
  refine lv_bipush (v := 10) hx hb dX7_errorNow_42 (by decide) ?_
  refine lv_iload_n hx hb dX7_errorNow_44 rfl (lv_at hl 0 rfl) ?_
  refine lv_aload_n hx hb dX7_errorNow_45 rfl (lv_at hl 1 rfl) ?_
  refine gf_RX7_41 C hP dX7_errorNow_46 ?_
  refine lv_bipush (v := 6) hx hb dX7_errorNow_49 (by decide) ?_
  refine lv_iload_n hx hb dX7_errorNow_51 rfl (lv_at hl 2 rfl) ?_
  refine lv_imul hx hb dX7_errorNow_52 ?_
  refine lv_iconst (v := 5) hx hb dX7_errorNow_53 (by decide) ?_
  refine lv_iadd hx hb dX7_errorNow_54 ?_
  obtain ⟨i15, h⟩ := gi_some h
  refine ldM_4 C hP i15 dX7_errorNow_55 ?_
  refine lv_isub hx hb dX7_errorNow_56 ?_
  obtain ⟨r17, h16, h⟩ := bd1_some h
  refine goI C hD hS (runS (As := [.int (r2 - (σ.2 4 ((6 * a1) + 5).toNatClampNeg))]) (rest := [.int 10, .int r14]) (w := (mW G q σ)) C lc_RX7_91 (ctM_size (w := (mW G q σ)) N (r2 - (σ.2 4 ((6 * a1) + 5).toNatClampNeg)) r17 h16 _) hP hD hS hl.1 rfl rfl (by decide) (by decide) (Nat.le_of_ble_eq_true rfl) dX7_errorNow_57) (fun H locs hP hD hS => ?_)
  refine lv_imul hx hb dX7_errorNow_60 ?_
  refine lv_iadd hx hb dX7_errorNow_61 ?_
  obtain rfl := so1 h
  exact retI C hP hD hS dX7_errorNow_62

def fM_errorOf (N : Nat) (σ : St) (a1 : Int32) : Option Int32 :=
  bd1 (fM_isSet N σ a1) (fun r2 => (if r2 = 0 then some (-1) else bd1 (fM_errorNow N σ a1) (fun r5 => some r5)))
set_option maxHeartbeats 4000000 in
set_option maxRecDepth 100000 in
theorem ctM_errorOf {G : GP} {l : Launch} {q : Nat → Nat} (N : Nat) (σ : St) (a1 : Int32) (r : Int32) (h : fM_errorOf N σ a1 = some r) : CI G l yX7_errorOf cX7_errorOf 2 (some .int) 6 [.ref (q 0), .int a1] (mW G q σ) (mW G q σ) r := by
  refine enterI (own := RX7) (by decide) rfl (Nat.le_of_ble_eq_true rfl) ?_
  intro p e s m args below meth c A C hP hD hS ls hl
  obtain ⟨hx, hb, hml, hown, hts, hK, hZ, hA, hlk, hr⟩ := id C
  have hl : lv_has ls 2 [(0, .ref (q 0)), (1, .int a1)] := hl
  rw [fM_errorOf.eq_1] at h
  refine lv_aload_n hx hb dX7_errorOf_0 rfl (lv_at hl 0 rfl) ?_
  refine lv_iload_n hx hb dX7_errorOf_1 rfl (lv_at hl 1 rfl) ?_
  obtain ⟨r2, h1, h⟩ := bd1_some h
  refine goI C hD hS (runV (As := [.int a1]) (rest := []) (w := (mW G q σ)) C lc_RX7_173 (ctM_isSet N σ a1 r2 h1 _) hP hD hS (va_recv C.2.2.2.2.2.1 hP (ci := 7) (q0 := 0) rfl rfl) hl.1 rfl rfl (by decide) (by decide) (Nat.le_of_ble_eq_true rfl) dX7_errorOf_2) (fun H locs hP hD hS => ?_)
  refine lv_if_eq (tgt := 16) hx hb dX7_errorOf_5 (by decide) (fun c3 => ?_) (fun c3 => ?_)
  · replace h := ifp c3 h
    refine lv_iconst (v := (-1)) hx hb dX7_errorOf_16 (by decide) ?_
    obtain rfl := so1 h
    exact retI C hP hD hS dX7_errorOf_17
  · replace h := ifn c3 h
    refine lv_aload_n hx hb dX7_errorOf_8 rfl (lv_at hl 0 rfl) ?_
    refine lv_iload_n hx hb dX7_errorOf_9 rfl (lv_at hl 1 rfl) ?_
    obtain ⟨r5, h4, h⟩ := bd1_some h
    refine goI C hD hS (runV (As := [.int a1]) (rest := []) (w := (mW G q σ)) C lc_RX7_179 (ctM_errorNow N σ a1 r5 h4 _) hP hD hS (va_recv C.2.2.2.2.2.1 hP (ci := 7) (q0 := 0) rfl rfl) hl.1 rfl rfl (by decide) (by decide) (Nat.le_of_ble_eq_true rfl) dX7_errorOf_10) (fun H locs hP hD hS => ?_)
    refine lv_goto (tgt := 17) hx hb dX7_errorOf_13 (by decide) ?_
    obtain rfl := so1 h
    exact retI C hP hD hS dX7_errorOf_17

def fM_sheet (N : Nat) (σ : St) (a1 : Int32) (a2 : Int32) : Option (Int32 × St) :=
  bd1 (fM_within N a1 0 5) (fun r2 => (if r2 = 0 then some ((-1), σ) else bd1 (fM_within N a2 1 20) (fun r5 => (if r5 = 0 then some ((-1), σ) else (if (σ.1 9) = 8 then some ((-2), σ) else gi (σ.1 9) 8 (gi (σ.1 9) 8 (some (((σ.1 9) + 1), (s1 (sA (sA σ 7 (σ.1 9).toNatClampNeg a1) 8 (σ.1 9).toNatClampNeg a2) 9 ((σ.1 9) + 1))))))))))
set_option maxHeartbeats 4000000 in
set_option maxRecDepth 100000 in
theorem ctM_sheet {G : GP} {l : Launch} {q : Nat → Nat} (N : Nat) (σ σ' : St) (a1 : Int32) (a2 : Int32) (r : Int32) (h : fM_sheet N σ a1 a2 = some (r, σ')) : CI G l yX7_sheet cX7_sheet 3 (some .int) 1 [.ref (q 0), .int a1, .int a2] (mW G q σ) (mW G q (σ')) r := by
  refine enterI (own := RX7) (by decide) rfl (Nat.le_of_ble_eq_true rfl) ?_
  intro p e s m args below meth c A C hP hD hS ls hl
  obtain ⟨hx, hb, hml, hown, hts, hK, hZ, hA, hlk, hr⟩ := id C
  have hl : lv_has ls 3 [(0, .ref (q 0)), (1, .int a1), (2, .int a2)] := hl
  rw [fM_sheet.eq_1] at h
  refine lv_iload_n hx hb dX7_sheet_0 rfl (lv_at hl 1 rfl) ?_
  refine lv_iconst (v := 0) hx hb dX7_sheet_1 (by decide) ?_
  refine lv_iconst (v := 5) hx hb dX7_sheet_2 (by decide) ?_
  obtain ⟨r2, h1, h⟩ := bd1_some h
  refine goI C hD hS (runS (As := [.int a1, .int 0, .int 5]) (rest := []) (w := (mW G q σ)) C lc_RX7_75 (ctM_within (w := (mW G q σ)) N a1 0 5 r2 h1 _) hP hD hS hl.1 rfl rfl (by decide) (by decide) (Nat.le_of_ble_eq_true rfl) dX7_sheet_3) (fun H locs hP hD hS => ?_)
  refine lv_if_eq (tgt := 19) hx hb dX7_sheet_6 (by decide) (fun c3 => ?_) (fun c3 => ?_)
  · replace h := ifp c3 h
    refine lv_iconst (v := (-1)) hx hb dX7_sheet_19 (by decide) ?_
    obtain ⟨rfl, rfl⟩ := so2 h
    exact retI C hP hD hS dX7_sheet_20
  · replace h := ifn c3 h
    refine lv_iload_n hx hb dX7_sheet_9 rfl (lv_at hl 2 rfl) ?_
    refine lv_iconst (v := 1) hx hb dX7_sheet_10 (by decide) ?_
    refine lv_bipush (v := 20) hx hb dX7_sheet_11 (by decide) ?_
    obtain ⟨r5, h4, h⟩ := bd1_some h
    refine goI C hD hS (runS (As := [.int a2, .int 1, .int 20]) (rest := []) (w := (mW G q σ)) C lc_RX7_75 (ctM_within (w := (mW G q σ)) N a2 1 20 r5 h4 _) hP hD hS hl.1 rfl rfl (by decide) (by decide) (Nat.le_of_ble_eq_true rfl) dX7_sheet_13) (fun H locs hP hD hS => ?_)
    refine lv_if_ne (tgt := 21) hx hb dX7_sheet_16 (by decide) (fun c6 => ?_) (fun c6 => ?_)
    · replace h := ifn c6 h
      refine lv_aload_n hx hb dX7_sheet_21 rfl (lv_at hl 0 rfl) ?_
      refine gf_RX7_182 C hP dX7_sheet_22 ?_
      refine lv_bipush (v := 8) hx hb dX7_sheet_25 (by decide) ?_
      refine lv_icmp_ne (tgt := 33) hx hb dX7_sheet_27 (by decide) (fun c7 => ?_) (fun c7 => ?_)
      · replace h := ifn c7 h
        refine lv_aload_n hx hb dX7_sheet_33 rfl (lv_at hl 0 rfl) ?_
        refine gf_RX7_50 C hP dX7_sheet_34 ?_
        refine lv_aload_n hx hb dX7_sheet_37 rfl (lv_at hl 0 rfl) ?_
        refine gf_RX7_182 C hP dX7_sheet_38 ?_
        refine lv_iload_n hx hb dX7_sheet_41 rfl (lv_at hl 1 rfl) ?_
        obtain ⟨i8, h⟩ := gi_some h
        refine stM_7 C hP hD hS i8 dX7_sheet_42 (fun H locs hP hD hS => ?_)
        refine lv_aload_n hx hb dX7_sheet_43 rfl (lv_at hl 0 rfl) ?_
        refine gf_RX7_53 C hP dX7_sheet_44 ?_
        refine lv_aload_n hx hb dX7_sheet_47 rfl (lv_at hl 0 rfl) ?_
        refine gf_RX7_182 C hP dX7_sheet_48 ?_
        refine lv_cv (y := (σ.1 9)) rfl ?_
        refine lv_iload_n hx hb dX7_sheet_51 rfl (lv_at hl 2 rfl) ?_
        obtain ⟨i9, h⟩ := gi_some h
        refine stM_8 C hP hD hS i9 dX7_sheet_52 (fun H locs hP hD hS => ?_)
        refine lv_aload_n hx hb dX7_sheet_53 rfl (lv_at hl 0 rfl) ?_
        refine lv_dup hx hb dX7_sheet_54 rfl ?_
        refine gf_RX7_182 C hP dX7_sheet_55 ?_
        refine lv_cv (y := (σ.1 9)) rfl ?_
        refine lv_iconst (v := 1) hx hb dX7_sheet_58 (by decide) ?_
        refine lv_iadd hx hb dX7_sheet_59 ?_
        refine pf_RX7_182 C hP hD hS dX7_sheet_60 (fun H locs hP hD hS => ?_)
        refine lv_aload_n hx hb dX7_sheet_63 rfl (lv_at hl 0 rfl) ?_
        refine gf_RX7_182 C hP dX7_sheet_64 ?_
        refine lv_cv (y := ((σ.1 9) + 1)) rfl ?_
        obtain ⟨rfl, rfl⟩ := so2 h
        exact retI C hP hD hS dX7_sheet_67
      · replace h := ifp c7 h
        refine lv_bipush (v := (-2)) hx hb dX7_sheet_30 (by decide) ?_
        obtain ⟨rfl, rfl⟩ := so2 h
        exact retI C hP hD hS dX7_sheet_32
    · replace h := ifp c6 h
      refine lv_iconst (v := (-1)) hx hb dX7_sheet_19 (by decide) ?_
      obtain ⟨rfl, rfl⟩ := so2 h
      exact retI C hP hD hS dX7_sheet_20

def fM_turn_L13 (N : Nat) (v1 : Int32) (v2 : Int32) (v3 : Int32) : Nat → Int32 → Int32 → Int32 → St → Option (Int32 × St)
  | 0, _, _, _, _ => none
  | n + 1, v4, v5, v6, σ => (if v6 = 0 then some (v4, σ) else (if 30 ≤ v4 then some (v4, σ) else gi ((6 * v1) + v2) 60 (gi ((6 * v1) + v2) 60 (bd1 (fM_errorNow N (sA σ 6 ((6 * v1) + v2).toNatClampNeg ((σ.2 6 ((6 * v1) + v2).toNatClampNeg) + v3)) v1) (fun r8 => (if v5 ≤ r8 then (if (0 : Int32) = 0 then gi ((6 * v1) + v2) 60 (gi ((6 * v1) + v2) 60 (fM_turn_L13 N v1 v2 v3 n v4 v5 0 (sA (sA σ 6 ((6 * v1) + v2).toNatClampNeg ((σ.2 6 ((6 * v1) + v2).toNatClampNeg) + v3)) 6 ((6 * v1) + v2).toNatClampNeg (((sA σ 6 ((6 * v1) + v2).toNatClampNeg ((σ.2 6 ((6 * v1) + v2).toNatClampNeg) + v3)).2 6 ((6 * v1) + v2).toNatClampNeg) - v3)))) else fM_turn_L13 N v1 v2 v3 n (v4 + 1) r8 0 (sA σ 6 ((6 * v1) + v2).toNatClampNeg ((σ.2 6 ((6 * v1) + v2).toNatClampNeg) + v3))) else (if (1 : Int32) = 0 then gi ((6 * v1) + v2) 60 (gi ((6 * v1) + v2) 60 (fM_turn_L13 N v1 v2 v3 n v4 v5 1 (sA (sA σ 6 ((6 * v1) + v2).toNatClampNeg ((σ.2 6 ((6 * v1) + v2).toNatClampNeg) + v3)) 6 ((6 * v1) + v2).toNatClampNeg (((sA σ 6 ((6 * v1) + v2).toNatClampNeg ((σ.2 6 ((6 * v1) + v2).toNatClampNeg) + v3)).2 6 ((6 * v1) + v2).toNatClampNeg) - v3)))) else fM_turn_L13 N v1 v2 v3 n (v4 + 1) r8 1 (sA σ 6 ((6 * v1) + v2).toNatClampNeg ((σ.2 6 ((6 * v1) + v2).toNatClampNeg) + v3)))))))))
set_option maxHeartbeats 4000000 in
set_option maxRecDepth 100000 in
theorem wM_turn_L13 {q : Nat → Nat} (C : Cx G p s m args meth c cX7_turn 8 (some .int) (Cond.code yX7_turn cX7_turn 8 (some .int)) RX7 A) (N : Nat) (v1 : Int32) (v2 : Int32) (v3 : Int32) (r : Int32) (σ' : St) : ∀ (n : Nat) (v4 : Int32) (v5 : Int32) (v6 : Int32) (σ : St) (H : Heap) (locs : List Loc) (ls : Array Slot), fM_turn_L13 N v1 v2 v3 n v4 v5 v6 σ = some (r, σ') → va_P G.1 vwCl (mW G q σ) H → va_D A (mW G q σ) → va_S A s.heap H locs → lv_has ls 8 [(0, .ref (q 0)), (1, .int v1), (2, .int v2), (3, .int v3), (4, .int v4), (5, .int v5), (6, .int v6)] → W p l e (rmD 6) s m args below meth c H locs 0 0 (QI G below args s A (mW G q (σ')) r) (F0 m 13 ls []) := by
  obtain ⟨hx, hb, hml, hown, hts, hK, hZ, hA, hlk, hr⟩ := id C
  intro n
  induction n with
  | zero =>
    intro v4 v5 v6 σ H locs ls h
    cases h
  | succ n ih =>
    intro v4 v5 v6 σ H locs ls h hP hD hS hl
    rw [fM_turn_L13.eq_2] at h
    refine lv_iload hx hb dX7_turn_13 (lv_at hl 6 rfl) ?_
    refine lv_if_eq (tgt := 94) hx hb dX7_turn_15 (by decide) (fun c3 => ?_) (fun c3 => ?_)
    · replace h := ifp c3 h
      refine lv_iload hx hb dX7_turn_94 (lv_at hl 4 rfl) ?_
      obtain ⟨rfl, rfl⟩ := so2 h
      exact retI C hP hD hS dX7_turn_96
    · replace h := ifn c3 h
      refine lv_iload hx hb dX7_turn_18 (lv_at hl 4 rfl) ?_
      refine lv_bipush (v := 30) hx hb dX7_turn_20 (by decide) ?_
      refine lv_icmp_ge (tgt := 94) hx hb dX7_turn_22 (by decide) (fun c4 => ?_) (fun c4 => ?_)
      · replace h := ifp c4 h
        refine lv_iload hx hb dX7_turn_94 (lv_at hl 4 rfl) ?_
        obtain ⟨rfl, rfl⟩ := so2 h
        exact retI C hP hD hS dX7_turn_96
      · replace h := ifn c4 h
        refine lv_aload_n hx hb dX7_turn_25 rfl (lv_at hl 0 rfl) ?_
        refine gf_RX7_47 C hP dX7_turn_26 ?_
        refine lv_bipush (v := 6) hx hb dX7_turn_29 (by decide) ?_
        refine lv_iload_n hx hb dX7_turn_31 rfl (lv_at hl 1 rfl) ?_
        refine lv_imul hx hb dX7_turn_32 ?_
        refine lv_iload_n hx hb dX7_turn_33 rfl (lv_at hl 2 rfl) ?_
        refine lv_iadd hx hb dX7_turn_34 ?_
        refine lv_dup2_11 hx hb dX7_turn_35 rfl rfl ?_
        obtain ⟨i5, h⟩ := gi_some h
        refine ldM_6 C hP i5 dX7_turn_36 ?_
        refine lv_iload_n hx hb dX7_turn_37 rfl (lv_at hl 3 rfl) ?_
        refine lv_iadd hx hb dX7_turn_38 ?_
        obtain ⟨i6, h⟩ := gi_some h
        refine stM_6 C hP hD hS i6 dX7_turn_39 (fun H locs hP hD hS => ?_)
        refine lv_aload_n hx hb dX7_turn_40 rfl (lv_at hl 0 rfl) ?_
        refine lv_iload_n hx hb dX7_turn_41 rfl (lv_at hl 1 rfl) ?_
        obtain ⟨r8, h7, h⟩ := bd1_some h
        refine goI C hD hS (runV (As := [.int v1]) (rest := []) (w := (mW G q (sA σ 6 ((6 * v1) + v2).toNatClampNeg ((σ.2 6 ((6 * v1) + v2).toNatClampNeg) + v3)))) C lc_RX7_179 (ctM_errorNow N (sA σ 6 ((6 * v1) + v2).toNatClampNeg ((σ.2 6 ((6 * v1) + v2).toNatClampNeg) + v3)) v1 r8 h7 _) hP hD hS (va_recv C.2.2.2.2.2.1 hP (ci := 7) (q0 := 0) rfl rfl) hl.1 rfl rfl (by decide) (by decide) (Nat.le_of_ble_eq_true rfl) dX7_turn_42) (fun H locs hP hD hS => ?_)
        refine lv_istore (lv' := [(7, .int r8), (0, .ref (q 0)), (1, .int v1), (2, .int v2), (3, .int v3), (4, .int v4), (5, .int v5), (6, .int v6)]) hx hb dX7_turn_45 hl (by decide) rfl (fun ls hl => ?_)
        refine lv_iload hx hb dX7_turn_47 (lv_at hl 0 rfl) ?_
        refine lv_iload hx hb dX7_turn_49 (lv_at hl 6 rfl) ?_
        refine lv_icmp_ge (tgt := 58) hx hb dX7_turn_51 (by decide) (fun c9 => ?_) (fun c9 => ?_)
        · replace h := ifp c9 h
          refine lv_iconst (v := 0) hx hb dX7_turn_58 (by decide) ?_
          refine lv_istore (lv' := [(6, .int 0), (7, .int r8), (0, .ref (q 0)), (1, .int v1), (2, .int v2), (3, .int v3), (4, .int v4), (5, .int v5)]) hx hb dX7_turn_59 hl (by decide) rfl (fun ls hl => ?_)
          refine lv_iload hx hb dX7_turn_61 (lv_at hl 0 rfl) ?_
          refine lv_if_eq (tgt := 76) hx hb dX7_turn_63 (by decide) (fun c10 => ?_) (fun c10 => ?_)
          · replace h := ifp c10 h
            refine lv_aload_n hx hb dX7_turn_76 rfl (lv_at hl 2 rfl) ?_
            refine gf_RX7_47 C hP dX7_turn_77 ?_
            refine lv_bipush (v := 6) hx hb dX7_turn_80 (by decide) ?_
            refine lv_iload_n hx hb dX7_turn_82 rfl (lv_at hl 3 rfl) ?_
            refine lv_imul hx hb dX7_turn_83 ?_
            refine lv_iload_n hx hb dX7_turn_84 rfl (lv_at hl 4 rfl) ?_
            refine lv_iadd hx hb dX7_turn_85 ?_
            refine lv_dup2_11 hx hb dX7_turn_86 rfl rfl ?_
            obtain ⟨i11, h⟩ := gi_some h
            refine ldM_6 C hP i11 dX7_turn_87 ?_
            refine lv_iload_n hx hb dX7_turn_88 rfl (lv_at hl 5 rfl) ?_
            refine lv_isub hx hb dX7_turn_89 ?_
            obtain ⟨i12, h⟩ := gi_some h
            refine stM_6 C hP hD hS i12 dX7_turn_90 (fun H locs hP hD hS => ?_)
            refine lv_goto (tgt := 13) hx hb dX7_turn_91 (by decide) ?_
            exact ih v4 v5 0 (sA (sA σ 6 ((6 * v1) + v2).toNatClampNeg ((σ.2 6 ((6 * v1) + v2).toNatClampNeg) + v3)) 6 ((6 * v1) + v2).toNatClampNeg (((sA σ 6 ((6 * v1) + v2).toNatClampNeg ((σ.2 6 ((6 * v1) + v2).toNatClampNeg) + v3)).2 6 ((6 * v1) + v2).toNatClampNeg) - v3)) _ _ _ h hP hD hS (lv_sub hl [2, 3, 4, 5, 6, 7, 0] rfl)
          · replace h := ifn c10 h
            refine lv_iload hx hb dX7_turn_66 (lv_at hl 1 rfl) ?_
            refine lv_istore (lv' := [(5, .int r8), (6, .int 0), (7, .int r8), (0, .ref (q 0)), (1, .int v1), (2, .int v2), (3, .int v3), (4, .int v4)]) hx hb dX7_turn_68 hl (by decide) rfl (fun ls hl => ?_)
            refine lv_iinc (v := (v4 + 1)) (lv' := [(4, .int (v4 + 1)), (5, .int r8), (6, .int 0), (7, .int r8), (0, .ref (q 0)), (1, .int v1), (2, .int v2), (3, .int v3)]) hx hb dX7_turn_70 hl (k := 7) rfl (by first | rfl | decide) (by decide) rfl (fun ls hl => ?_)
            refine lv_goto (tgt := 91) hx hb dX7_turn_73 (by decide) ?_
            refine lv_goto (tgt := 13) hx hb dX7_turn_91 (by decide) ?_
            exact ih (v4 + 1) r8 0 (sA σ 6 ((6 * v1) + v2).toNatClampNeg ((σ.2 6 ((6 * v1) + v2).toNatClampNeg) + v3)) _ _ _ h hP hD hS (lv_sub hl [4, 5, 6, 7, 0, 1, 2] rfl)
        · replace h := ifn c9 h
          refine lv_iconst (v := 1) hx hb dX7_turn_54 (by decide) ?_
          refine lv_goto (tgt := 59) hx hb dX7_turn_55 (by decide) ?_
          refine lv_istore (lv' := [(6, .int 1), (7, .int r8), (0, .ref (q 0)), (1, .int v1), (2, .int v2), (3, .int v3), (4, .int v4), (5, .int v5)]) hx hb dX7_turn_59 hl (by decide) rfl (fun ls hl => ?_)
          refine lv_iload hx hb dX7_turn_61 (lv_at hl 0 rfl) ?_
          refine lv_if_eq (tgt := 76) hx hb dX7_turn_63 (by decide) (fun c13 => ?_) (fun c13 => ?_)
          · replace h := ifp c13 h
            refine lv_aload_n hx hb dX7_turn_76 rfl (lv_at hl 2 rfl) ?_
            refine gf_RX7_47 C hP dX7_turn_77 ?_
            refine lv_bipush (v := 6) hx hb dX7_turn_80 (by decide) ?_
            refine lv_iload_n hx hb dX7_turn_82 rfl (lv_at hl 3 rfl) ?_
            refine lv_imul hx hb dX7_turn_83 ?_
            refine lv_iload_n hx hb dX7_turn_84 rfl (lv_at hl 4 rfl) ?_
            refine lv_iadd hx hb dX7_turn_85 ?_
            refine lv_dup2_11 hx hb dX7_turn_86 rfl rfl ?_
            obtain ⟨i14, h⟩ := gi_some h
            refine ldM_6 C hP i14 dX7_turn_87 ?_
            refine lv_iload_n hx hb dX7_turn_88 rfl (lv_at hl 5 rfl) ?_
            refine lv_isub hx hb dX7_turn_89 ?_
            obtain ⟨i15, h⟩ := gi_some h
            refine stM_6 C hP hD hS i15 dX7_turn_90 (fun H locs hP hD hS => ?_)
            refine lv_goto (tgt := 13) hx hb dX7_turn_91 (by decide) ?_
            exact ih v4 v5 1 (sA (sA σ 6 ((6 * v1) + v2).toNatClampNeg ((σ.2 6 ((6 * v1) + v2).toNatClampNeg) + v3)) 6 ((6 * v1) + v2).toNatClampNeg (((sA σ 6 ((6 * v1) + v2).toNatClampNeg ((σ.2 6 ((6 * v1) + v2).toNatClampNeg) + v3)).2 6 ((6 * v1) + v2).toNatClampNeg) - v3)) _ _ _ h hP hD hS (lv_sub hl [2, 3, 4, 5, 6, 7, 0] rfl)
          · replace h := ifn c13 h
            refine lv_iload hx hb dX7_turn_66 (lv_at hl 1 rfl) ?_
            refine lv_istore (lv' := [(5, .int r8), (6, .int 1), (7, .int r8), (0, .ref (q 0)), (1, .int v1), (2, .int v2), (3, .int v3), (4, .int v4)]) hx hb dX7_turn_68 hl (by decide) rfl (fun ls hl => ?_)
            refine lv_iinc (v := (v4 + 1)) (lv' := [(4, .int (v4 + 1)), (5, .int r8), (6, .int 1), (7, .int r8), (0, .ref (q 0)), (1, .int v1), (2, .int v2), (3, .int v3)]) hx hb dX7_turn_70 hl (k := 7) rfl (by first | rfl | decide) (by decide) rfl (fun ls hl => ?_)
            refine lv_goto (tgt := 91) hx hb dX7_turn_73 (by decide) ?_
            refine lv_goto (tgt := 13) hx hb dX7_turn_91 (by decide) ?_
            exact ih (v4 + 1) r8 1 (sA σ 6 ((6 * v1) + v2).toNatClampNeg ((σ.2 6 ((6 * v1) + v2).toNatClampNeg) + v3)) _ _ _ h hP hD hS (lv_sub hl [4, 5, 6, 7, 0, 1, 2] rfl)

def fM_turn (N : Nat) (σ : St) (a1 : Int32) (a2 : Int32) (a3 : Int32) : Option (Int32 × St) :=
  bd1 (fM_errorNow N σ a1) (fun r2 => fM_turn_L13 N a1 a2 a3 N 0 r2 1 σ)
set_option maxHeartbeats 4000000 in
set_option maxRecDepth 100000 in
theorem ctM_turn {G : GP} {l : Launch} {q : Nat → Nat} (N : Nat) (σ σ' : St) (a1 : Int32) (a2 : Int32) (a3 : Int32) (r : Int32) (h : fM_turn N σ a1 a2 a3 = some (r, σ')) : CI G l yX7_turn cX7_turn 8 (some .int) 6 [.ref (q 0), .int a1, .int a2, .int a3] (mW G q σ) (mW G q (σ')) r := by
  refine enterI (own := RX7) (by decide) rfl (Nat.le_of_ble_eq_true rfl) ?_
  intro p e s m args below meth c A C hP hD hS ls hl
  obtain ⟨hx, hb, hml, hown, hts, hK, hZ, hA, hlk, hr⟩ := id C
  have hl : lv_has ls 8 [(0, .ref (q 0)), (1, .int a1), (2, .int a2), (3, .int a3)] := hl
  rw [fM_turn.eq_1] at h
  refine lv_iconst (v := 0) hx hb dX7_turn_0 (by decide) ?_
  refine lv_istore (lv' := [(4, .int 0), (0, .ref (q 0)), (1, .int a1), (2, .int a2), (3, .int a3)]) hx hb dX7_turn_1 hl (by decide) rfl (fun ls hl => ?_)
  refine lv_aload_n hx hb dX7_turn_3 rfl (lv_at hl 1 rfl) ?_
  refine lv_iload_n hx hb dX7_turn_4 rfl (lv_at hl 2 rfl) ?_
  obtain ⟨r2, h1, h⟩ := bd1_some h
  refine goI C hD hS (runV (As := [.int a1]) (rest := []) (w := (mW G q σ)) C lc_RX7_179 (ctM_errorNow N σ a1 r2 h1 _) hP hD hS (va_recv C.2.2.2.2.2.1 hP (ci := 7) (q0 := 0) rfl rfl) hl.1 rfl rfl (by decide) (by decide) (Nat.le_of_ble_eq_true rfl) dX7_turn_5) (fun H locs hP hD hS => ?_)
  refine lv_istore (lv' := [(5, .int r2), (4, .int 0), (0, .ref (q 0)), (1, .int a1), (2, .int a2), (3, .int a3)]) hx hb dX7_turn_8 hl (by decide) rfl (fun ls hl => ?_)
  refine lv_iconst (v := 1) hx hb dX7_turn_10 (by decide) ?_
  refine lv_istore (lv' := [(6, .int 1), (5, .int r2), (4, .int 0), (0, .ref (q 0)), (1, .int a1), (2, .int a2), (3, .int a3)]) hx hb dX7_turn_11 hl (by decide) rfl (fun ls hl => ?_)
  exact wM_turn_L13 C N a1 a2 a3 r σ' N 0 r2 1 σ _ _ _ h hP hD hS (lv_sub hl [3, 4, 5, 6, 2, 1, 0] rfl)

def fM_oneRound_L4 (N : Nat) (v1 : Int32) : Nat → Int32 → Int32 → St → Option (Int32 × St)
  | 0, _, _, _ => none
  | n + 1, v2, v3, σ => (if (σ.1 9) ≤ v3 then some (v2, σ) else gi v3 8 (gi v3 8 (bd2 (fM_turn N σ v1 (σ.2 7 v3.toNatClampNeg) (σ.2 8 v3.toNatClampNeg)) (fun r6 σ5 => (if r6 ≤ 0 then gi v3 8 (gi v3 8 (bd2 (fM_turn N σ5 v1 (σ5.2 7 v3.toNatClampNeg) (-(σ5.2 8 v3.toNatClampNeg))) (fun r12 σ11 => fM_oneRound_L4 N v1 n (v2 + r12) (v3 + 1) σ11))) else fM_oneRound_L4 N v1 n (v2 + r6) (v3 + 1) σ5)))))
set_option maxHeartbeats 4000000 in
set_option maxRecDepth 100000 in
theorem wM_oneRound_L4 {q : Nat → Nat} (C : Cx G p s m args meth c cX7_oneRound 5 (some .int) (Cond.code yX7_oneRound cX7_oneRound 5 (some .int)) RX7 A) (N : Nat) (v1 : Int32) (r : Int32) (σ' : St) : ∀ (n : Nat) (v2 : Int32) (v3 : Int32) (σ : St) (H : Heap) (locs : List Loc) (ls : Array Slot), fM_oneRound_L4 N v1 n v2 v3 σ = some (r, σ') → va_P G.1 vwCl (mW G q σ) H → va_D A (mW G q σ) → va_S A s.heap H locs → lv_has ls 5 [(0, .ref (q 0)), (1, .int v1), (2, .int v2), (3, .int v3)] → W p l e (rmD 7) s m args below meth c H locs 0 0 (QI G below args s A (mW G q (σ')) r) (F0 m 4 ls []) := by
  obtain ⟨hx, hb, hml, hown, hts, hK, hZ, hA, hlk, hr⟩ := id C
  intro n
  induction n with
  | zero =>
    intro v2 v3 σ H locs ls h
    cases h
  | succ n ih =>
    intro v2 v3 σ H locs ls h hP hD hS hl
    rw [fM_oneRound_L4.eq_2] at h
    refine lv_iload_n hx hb dX7_oneRound_4 rfl (lv_at hl 3 rfl) ?_
    refine lv_aload_n hx hb dX7_oneRound_5 rfl (lv_at hl 0 rfl) ?_
    refine gf_RX7_182 C hP dX7_oneRound_6 ?_
    refine lv_icmp_ge (tgt := 68) hx hb dX7_oneRound_9 (by decide) (fun c1 => ?_) (fun c1 => ?_)
    · replace h := ifp c1 h
      refine lv_iload_n hx hb dX7_oneRound_68 rfl (lv_at hl 2 rfl) ?_
      obtain ⟨rfl, rfl⟩ := so2 h
      exact retI C hP hD hS dX7_oneRound_69
    · replace h := ifn c1 h
      refine lv_aload_n hx hb dX7_oneRound_12 rfl (lv_at hl 0 rfl) ?_
      refine lv_iload_n hx hb dX7_oneRound_13 rfl (lv_at hl 1 rfl) ?_
      refine lv_aload_n hx hb dX7_oneRound_14 rfl (lv_at hl 0 rfl) ?_
      refine gf_RX7_50 C hP dX7_oneRound_15 ?_
      refine lv_iload_n hx hb dX7_oneRound_18 rfl (lv_at hl 3 rfl) ?_
      obtain ⟨i2, h⟩ := gi_some h
      refine ldM_7 C hP i2 dX7_oneRound_19 ?_
      refine lv_aload_n hx hb dX7_oneRound_20 rfl (lv_at hl 0 rfl) ?_
      refine gf_RX7_53 C hP dX7_oneRound_21 ?_
      refine lv_iload_n hx hb dX7_oneRound_24 rfl (lv_at hl 3 rfl) ?_
      obtain ⟨i3, h⟩ := gi_some h
      refine ldM_8 C hP i3 dX7_oneRound_25 ?_
      obtain ⟨r6, σ5, h4, h⟩ := bd2_some h
      refine goI C hD hS (runV (As := [.int v1, .int (σ.2 7 v3.toNatClampNeg), .int (σ.2 8 v3.toNatClampNeg)]) (rest := []) (w := (mW G q σ)) C lc_RX7_185 (ctM_turn N σ σ5 v1 (σ.2 7 v3.toNatClampNeg) (σ.2 8 v3.toNatClampNeg) r6 h4 _) hP hD hS (va_recv C.2.2.2.2.2.1 hP (ci := 7) (q0 := 0) rfl rfl) hl.1 rfl rfl (by decide) (by decide) (Nat.le_of_ble_eq_true rfl) dX7_oneRound_26) (fun H locs hP hD hS => ?_)
      refine lv_istore (lv' := [(4, .int r6), (0, .ref (q 0)), (1, .int v1), (2, .int v2), (3, .int v3)]) hx hb dX7_oneRound_29 hl (by decide) rfl (fun ls hl => ?_)
      refine lv_iload_n hx hb dX7_oneRound_31 rfl (lv_at hl 3 rfl) ?_
      refine lv_iload hx hb dX7_oneRound_32 (lv_at hl 0 rfl) ?_
      refine lv_if_le (tgt := 42) hx hb dX7_oneRound_34 (by decide) (fun c7 => ?_) (fun c7 => ?_)
      · replace h := ifp c7 h
        refine lv_aload_n hx hb dX7_oneRound_42 rfl (lv_at hl 1 rfl) ?_
        refine lv_iload_n hx hb dX7_oneRound_43 rfl (lv_at hl 2 rfl) ?_
        refine lv_aload_n hx hb dX7_oneRound_44 rfl (lv_at hl 1 rfl) ?_
        refine gf_RX7_50 C hP dX7_oneRound_45 ?_
        refine lv_iload_n hx hb dX7_oneRound_48 rfl (lv_at hl 4 rfl) ?_
        obtain ⟨i8, h⟩ := gi_some h
        refine ldM_7 C hP i8 dX7_oneRound_49 ?_
        refine lv_aload_n hx hb dX7_oneRound_50 rfl (lv_at hl 1 rfl) ?_
        refine gf_RX7_53 C hP dX7_oneRound_51 ?_
        refine lv_iload_n hx hb dX7_oneRound_54 rfl (lv_at hl 4 rfl) ?_
        obtain ⟨i9, h⟩ := gi_some h
        refine ldM_8 C hP i9 dX7_oneRound_55 ?_
        refine lv_ineg hx hb dX7_oneRound_56 ?_
        obtain ⟨r12, σ11, h10, h⟩ := bd2_some h
        refine goI C hD hS (runV (As := [.int v1, .int (σ5.2 7 v3.toNatClampNeg), .int (-(σ5.2 8 v3.toNatClampNeg))]) (rest := [.int v2]) (w := (mW G q σ5)) C lc_RX7_185 (ctM_turn N σ5 σ11 v1 (σ5.2 7 v3.toNatClampNeg) (-(σ5.2 8 v3.toNatClampNeg)) r12 h10 _) hP hD hS (va_recv C.2.2.2.2.2.1 hP (ci := 7) (q0 := 0) rfl rfl) hl.1 rfl rfl (by decide) (by decide) (Nat.le_of_ble_eq_true rfl) dX7_oneRound_57) (fun H locs hP hD hS => ?_)
        refine lv_iadd hx hb dX7_oneRound_60 ?_
        refine lv_istore_n (lv' := [(2, .int (v2 + r12)), (4, .int r6), (0, .ref (q 0)), (1, .int v1), (3, .int v3)]) hx hb dX7_oneRound_61 rfl hl (by decide) rfl (fun ls hl => ?_)
        refine lv_iinc (v := (v3 + 1)) (lv' := [(3, .int (v3 + 1)), (2, .int (v2 + r12)), (4, .int r6), (0, .ref (q 0)), (1, .int v1)]) hx hb dX7_oneRound_62 hl (k := 4) rfl (by first | rfl | decide) (by decide) rfl (fun ls hl => ?_)
        refine lv_goto (tgt := 4) hx hb dX7_oneRound_65 (by decide) ?_
        exact ih (v2 + r12) (v3 + 1) σ11 _ _ _ h hP hD hS (lv_sub hl [3, 4, 1, 0] rfl)
      · replace h := ifn c7 h
        refine lv_iload hx hb dX7_oneRound_37 (lv_at hl 0 rfl) ?_
        refine lv_goto (tgt := 60) hx hb dX7_oneRound_39 (by decide) ?_
        refine lv_iadd hx hb dX7_oneRound_60 ?_
        refine lv_istore_n (lv' := [(2, .int (v2 + r6)), (4, .int r6), (0, .ref (q 0)), (1, .int v1), (3, .int v3)]) hx hb dX7_oneRound_61 rfl hl (by decide) rfl (fun ls hl => ?_)
        refine lv_iinc (v := (v3 + 1)) (lv' := [(3, .int (v3 + 1)), (2, .int (v2 + r6)), (4, .int r6), (0, .ref (q 0)), (1, .int v1)]) hx hb dX7_oneRound_62 hl (k := 4) rfl (by first | rfl | decide) (by decide) rfl (fun ls hl => ?_)
        refine lv_goto (tgt := 4) hx hb dX7_oneRound_65 (by decide) ?_
        exact ih (v2 + r6) (v3 + 1) σ5 _ _ _ h hP hD hS (lv_sub hl [3, 4, 1, 0] rfl)

def fM_oneRound (N : Nat) (σ : St) (a1 : Int32) : Option (Int32 × St) :=
  fM_oneRound_L4 N a1 N 0 0 σ
set_option maxHeartbeats 4000000 in
set_option maxRecDepth 100000 in
theorem ctM_oneRound {G : GP} {l : Launch} {q : Nat → Nat} (N : Nat) (σ σ' : St) (a1 : Int32) (r : Int32) (h : fM_oneRound N σ a1 = some (r, σ')) : CI G l yX7_oneRound cX7_oneRound 5 (some .int) 7 [.ref (q 0), .int a1] (mW G q σ) (mW G q (σ')) r := by
  refine enterI (own := RX7) (by decide) rfl (Nat.le_of_ble_eq_true rfl) ?_
  intro p e s m args below meth c A C hP hD hS ls hl
  obtain ⟨hx, hb, hml, hown, hts, hK, hZ, hA, hlk, hr⟩ := id C
  have hl : lv_has ls 5 [(0, .ref (q 0)), (1, .int a1)] := hl
  rw [fM_oneRound.eq_1] at h
  refine lv_iconst (v := 0) hx hb dX7_oneRound_0 (by decide) ?_
  refine lv_istore_n (lv' := [(2, .int 0), (0, .ref (q 0)), (1, .int a1)]) hx hb dX7_oneRound_1 rfl hl (by decide) rfl (fun ls hl => ?_)
  refine lv_iconst (v := 0) hx hb dX7_oneRound_2 (by decide) ?_
  refine lv_istore_n (lv' := [(3, .int 0), (2, .int 0), (0, .ref (q 0)), (1, .int a1)]) hx hb dX7_oneRound_3 rfl hl (by decide) rfl (fun ls hl => ?_)
  exact wM_oneRound_L4 C N a1 r σ' N 0 0 σ _ _ _ h hP hD hS (lv_sub hl [2, 3, 1, 0] rfl)

def fM_round (N : Nat) (σ : St) (a1 : Int32) : Option (Int32 × St) :=
  bd1 (fM_isSet N σ a1) (fun r2 => (if r2 = 0 then some ((-1), σ) else (if (σ.1 9) = 0 then some ((-3), σ) else bd2 (fM_oneRound N σ a1) (fun r7 σ6 => some (r7, σ6)))))
set_option maxHeartbeats 4000000 in
set_option maxRecDepth 100000 in
theorem ctM_round {G : GP} {l : Launch} {q : Nat → Nat} (N : Nat) (σ σ' : St) (a1 : Int32) (r : Int32) (h : fM_round N σ a1 = some (r, σ')) : CI G l yX7_round cX7_round 2 (some .int) 8 [.ref (q 0), .int a1] (mW G q σ) (mW G q (σ')) r := by
  refine enterI (own := RX7) (by decide) rfl (Nat.le_of_ble_eq_true rfl) ?_
  intro p e s m args below meth c A C hP hD hS ls hl
  obtain ⟨hx, hb, hml, hown, hts, hK, hZ, hA, hlk, hr⟩ := id C
  have hl : lv_has ls 2 [(0, .ref (q 0)), (1, .int a1)] := hl
  rw [fM_round.eq_1] at h
  refine lv_aload_n hx hb dX7_round_0 rfl (lv_at hl 0 rfl) ?_
  refine lv_iload_n hx hb dX7_round_1 rfl (lv_at hl 1 rfl) ?_
  obtain ⟨r2, h1, h⟩ := bd1_some h
  refine goI C hD hS (runV (As := [.int a1]) (rest := []) (w := (mW G q σ)) C lc_RX7_173 (ctM_isSet N σ a1 r2 h1 _) hP hD hS (va_recv C.2.2.2.2.2.1 hP (ci := 7) (q0 := 0) rfl rfl) hl.1 rfl rfl (by decide) (by decide) (Nat.le_of_ble_eq_true rfl) dX7_round_2) (fun H locs hP hD hS => ?_)
  refine lv_if_ne (tgt := 10) hx hb dX7_round_5 (by decide) (fun c3 => ?_) (fun c3 => ?_)
  · replace h := ifn c3 h
    refine lv_aload_n hx hb dX7_round_10 rfl (lv_at hl 0 rfl) ?_
    refine gf_RX7_182 C hP dX7_round_11 ?_
    refine lv_if_ne (tgt := 22) hx hb dX7_round_14 (by decide) (fun c4 => ?_) (fun c4 => ?_)
    · replace h := ifn c4 h
      refine lv_aload_n hx hb dX7_round_22 rfl (lv_at hl 0 rfl) ?_
      refine lv_iload_n hx hb dX7_round_23 rfl (lv_at hl 1 rfl) ?_
      obtain ⟨r7, σ6, h5, h⟩ := bd2_some h
      refine goI C hD hS (runV (As := [.int a1]) (rest := []) (w := (mW G q σ)) C lc_RX7_188 (ctM_oneRound N σ σ6 a1 r7 h5 _) hP hD hS (va_recv C.2.2.2.2.2.1 hP (ci := 7) (q0 := 0) rfl rfl) hl.1 rfl rfl (by decide) (by decide) (Nat.le_of_ble_eq_true rfl) dX7_round_24) (fun H locs hP hD hS => ?_)
      obtain ⟨rfl, rfl⟩ := so2 h
      exact retI C hP hD hS dX7_round_27
    · replace h := ifp c4 h
      refine lv_bipush (v := (-3)) hx hb dX7_round_17 (by decide) ?_
      refine lv_goto (tgt := 27) hx hb dX7_round_19 (by decide) ?_
      obtain ⟨rfl, rfl⟩ := so2 h
      exact retI C hP hD hS dX7_round_27
  · replace h := ifp c3 h
    refine lv_iconst (v := (-1)) hx hb dX7_round_8 (by decide) ?_
    obtain ⟨rfl, rfl⟩ := so2 h
    exact retI C hP hD hS dX7_round_9

def fM_align_L24 (N : Nat) (v1 : Int32) : Nat → Int32 → Int32 → St → Option (Int32 × St)
  | 0, _, _, _ => none
  | n + 1, v2, v3, σ => (if v3 = 0 then some (v2, σ) else (if 50 ≤ v2 then some (v2, σ) else bd2 (fM_oneRound N σ v1) (fun r9 σ8 => (if r9 ≤ 0 then fM_align_L24 N v1 n (v2 + 1) 0 σ8 else fM_align_L24 N v1 n (v2 + 1) 1 σ8))))
set_option maxHeartbeats 4000000 in
set_option maxRecDepth 100000 in
theorem wM_align_L24 {q : Nat → Nat} (C : Cx G p s m args meth c cX7_align 4 (some .int) (Cond.code yX7_align cX7_align 4 (some .int)) RX7 A) (N : Nat) (v1 : Int32) (r : Int32) (σ' : St) : ∀ (n : Nat) (v2 : Int32) (v3 : Int32) (σ : St) (H : Heap) (locs : List Loc) (ls : Array Slot), fM_align_L24 N v1 n v2 v3 σ = some (r, σ') → va_P G.1 vwCl (mW G q σ) H → va_D A (mW G q σ) → va_S A s.heap H locs → lv_has ls 4 [(0, .ref (q 0)), (1, .int v1), (2, .int v2), (3, .int v3)] → W p l e (rmD 8) s m args below meth c H locs 0 0 (QI G below args s A (mW G q (σ')) r) (F0 m 24 ls []) := by
  obtain ⟨hx, hb, hml, hown, hts, hK, hZ, hA, hlk, hr⟩ := id C
  intro n
  induction n with
  | zero =>
    intro v2 v3 σ H locs ls h
    cases h
  | succ n ih =>
    intro v2 v3 σ H locs ls h hP hD hS hl
    rw [fM_align_L24.eq_2] at h
    refine lv_iload_n hx hb dX7_align_24 rfl (lv_at hl 3 rfl) ?_
    refine lv_if_eq (tgt := 54) hx hb dX7_align_25 (by decide) (fun c5 => ?_) (fun c5 => ?_)
    · replace h := ifp c5 h
      refine lv_iload_n hx hb dX7_align_54 rfl (lv_at hl 2 rfl) ?_
      obtain ⟨rfl, rfl⟩ := so2 h
      exact retI C hP hD hS dX7_align_55
    · replace h := ifn c5 h
      refine lv_iload_n hx hb dX7_align_28 rfl (lv_at hl 2 rfl) ?_
      refine lv_bipush (v := 50) hx hb dX7_align_29 (by decide) ?_
      refine lv_icmp_ge (tgt := 54) hx hb dX7_align_31 (by decide) (fun c6 => ?_) (fun c6 => ?_)
      · replace h := ifp c6 h
        refine lv_iload_n hx hb dX7_align_54 rfl (lv_at hl 2 rfl) ?_
        obtain ⟨rfl, rfl⟩ := so2 h
        exact retI C hP hD hS dX7_align_55
      · replace h := ifn c6 h
        refine lv_aload_n hx hb dX7_align_34 rfl (lv_at hl 0 rfl) ?_
        refine lv_iload_n hx hb dX7_align_35 rfl (lv_at hl 1 rfl) ?_
        obtain ⟨r9, σ8, h7, h⟩ := bd2_some h
        refine goI C hD hS (runV (As := [.int v1]) (rest := []) (w := (mW G q σ)) C lc_RX7_188 (ctM_oneRound N σ σ8 v1 r9 h7 _) hP hD hS (va_recv C.2.2.2.2.2.1 hP (ci := 7) (q0 := 0) rfl rfl) hl.1 rfl rfl (by decide) (by decide) (Nat.le_of_ble_eq_true rfl) dX7_align_36) (fun H locs hP hD hS => ?_)
        refine lv_if_le (tgt := 46) hx hb dX7_align_39 (by decide) (fun c10 => ?_) (fun c10 => ?_)
        · replace h := ifp c10 h
          refine lv_iconst (v := 0) hx hb dX7_align_46 (by decide) ?_
          refine lv_istore_n (lv' := [(3, .int 0), (0, .ref (q 0)), (1, .int v1), (2, .int v2)]) hx hb dX7_align_47 rfl hl (by decide) rfl (fun ls hl => ?_)
          refine lv_iinc (v := (v2 + 1)) (lv' := [(2, .int (v2 + 1)), (3, .int 0), (0, .ref (q 0)), (1, .int v1)]) hx hb dX7_align_48 hl (k := 3) rfl (by first | rfl | decide) (by decide) rfl (fun ls hl => ?_)
          refine lv_goto (tgt := 24) hx hb dX7_align_51 (by decide) ?_
          exact ih (v2 + 1) 0 σ8 _ _ _ h hP hD hS (lv_sub hl [2, 3, 0, 1] rfl)
        · replace h := ifn c10 h
          refine lv_iconst (v := 1) hx hb dX7_align_42 (by decide) ?_
          refine lv_goto (tgt := 47) hx hb dX7_align_43 (by decide) ?_
          refine lv_istore_n (lv' := [(3, .int 1), (0, .ref (q 0)), (1, .int v1), (2, .int v2)]) hx hb dX7_align_47 rfl hl (by decide) rfl (fun ls hl => ?_)
          refine lv_iinc (v := (v2 + 1)) (lv' := [(2, .int (v2 + 1)), (3, .int 1), (0, .ref (q 0)), (1, .int v1)]) hx hb dX7_align_48 hl (k := 3) rfl (by first | rfl | decide) (by decide) rfl (fun ls hl => ?_)
          refine lv_goto (tgt := 24) hx hb dX7_align_51 (by decide) ?_
          exact ih (v2 + 1) 1 σ8 _ _ _ h hP hD hS (lv_sub hl [2, 3, 0, 1] rfl)

def fM_align (N : Nat) (σ : St) (a1 : Int32) : Option (Int32 × St) :=
  bd1 (fM_isSet N σ a1) (fun r2 => (if r2 = 0 then some ((-1), σ) else (if (σ.1 9) = 0 then some ((-3), σ) else fM_align_L24 N a1 N 0 1 σ)))
set_option maxHeartbeats 4000000 in
set_option maxRecDepth 100000 in
theorem ctM_align {G : GP} {l : Launch} {q : Nat → Nat} (N : Nat) (σ σ' : St) (a1 : Int32) (r : Int32) (h : fM_align N σ a1 = some (r, σ')) : CI G l yX7_align cX7_align 4 (some .int) 8 [.ref (q 0), .int a1] (mW G q σ) (mW G q (σ')) r := by
  refine enterI (own := RX7) (by decide) rfl (Nat.le_of_ble_eq_true rfl) ?_
  intro p e s m args below meth c A C hP hD hS ls hl
  obtain ⟨hx, hb, hml, hown, hts, hK, hZ, hA, hlk, hr⟩ := id C
  have hl : lv_has ls 4 [(0, .ref (q 0)), (1, .int a1)] := hl
  rw [fM_align.eq_1] at h
  refine lv_aload_n hx hb dX7_align_0 rfl (lv_at hl 0 rfl) ?_
  refine lv_iload_n hx hb dX7_align_1 rfl (lv_at hl 1 rfl) ?_
  obtain ⟨r2, h1, h⟩ := bd1_some h
  refine goI C hD hS (runV (As := [.int a1]) (rest := []) (w := (mW G q σ)) C lc_RX7_173 (ctM_isSet N σ a1 r2 h1 _) hP hD hS (va_recv C.2.2.2.2.2.1 hP (ci := 7) (q0 := 0) rfl rfl) hl.1 rfl rfl (by decide) (by decide) (Nat.le_of_ble_eq_true rfl) dX7_align_2) (fun H locs hP hD hS => ?_)
  refine lv_if_ne (tgt := 10) hx hb dX7_align_5 (by decide) (fun c3 => ?_) (fun c3 => ?_)
  · replace h := ifn c3 h
    refine lv_aload_n hx hb dX7_align_10 rfl (lv_at hl 0 rfl) ?_
    refine gf_RX7_182 C hP dX7_align_11 ?_
    refine lv_if_ne (tgt := 20) hx hb dX7_align_14 (by decide) (fun c4 => ?_) (fun c4 => ?_)
    · replace h := ifn c4 h
      refine lv_iconst (v := 0) hx hb dX7_align_20 (by decide) ?_
      refine lv_istore_n (lv' := [(2, .int 0), (0, .ref (q 0)), (1, .int a1)]) hx hb dX7_align_21 rfl hl (by decide) rfl (fun ls hl => ?_)
      refine lv_iconst (v := 1) hx hb dX7_align_22 (by decide) ?_
      refine lv_istore_n (lv' := [(3, .int 1), (2, .int 0), (0, .ref (q 0)), (1, .int a1)]) hx hb dX7_align_23 rfl hl (by decide) rfl (fun ls hl => ?_)
      exact wM_align_L24 C N a1 r σ' N 0 1 σ _ _ _ h hP hD hS (lv_sub hl [2, 3, 1, 0] rfl)
    · replace h := ifp c4 h
      refine lv_bipush (v := (-3)) hx hb dX7_align_17 (by decide) ?_
      obtain ⟨rfl, rfl⟩ := so2 h
      exact retI C hP hD hS dX7_align_19
  · replace h := ifp c3 h
    refine lv_iconst (v := (-1)) hx hb dX7_align_8 (by decide) ?_
    obtain ⟨rfl, rfl⟩ := so2 h
    exact retI C hP hD hS dX7_align_9

def fM_fault (N : Nat) (σ : St) (a1 : Int32) : Option (Int32 × St) :=
  bd1 (fM_within N a1 1 99) (fun r2 => (if r2 = 0 then some ((-1), σ) else (if (σ.1 10) = 12 then some ((-2), σ) else gi (σ.1 10) 12 (some ((((σ.1 10) + 1) - 1), (s1 (s1 (sA σ 9 (σ.1 10).toNatClampNeg a1) 12 ((σ.1 12) ||| (1 <<< ((σ.1 10) &&& 31)))) 10 ((σ.1 10) + 1)))))))
set_option maxHeartbeats 4000000 in
set_option maxRecDepth 100000 in
theorem ctM_fault {G : GP} {l : Launch} {q : Nat → Nat} (N : Nat) (σ σ' : St) (a1 : Int32) (r : Int32) (h : fM_fault N σ a1 = some (r, σ')) : CI G l yX7_fault cX7_fault 2 (some .int) 1 [.ref (q 0), .int a1] (mW G q σ) (mW G q (σ')) r := by
  refine enterI (own := RX7) (by decide) rfl (Nat.le_of_ble_eq_true rfl) ?_
  intro p e s m args below meth c A C hP hD hS ls hl
  obtain ⟨hx, hb, hml, hown, hts, hK, hZ, hA, hlk, hr⟩ := id C
  have hl : lv_has ls 2 [(0, .ref (q 0)), (1, .int a1)] := hl
  rw [fM_fault.eq_1] at h
  refine lv_iload_n hx hb dX7_fault_0 rfl (lv_at hl 1 rfl) ?_
  refine lv_iconst (v := 1) hx hb dX7_fault_1 (by decide) ?_
  refine lv_bipush (v := 99) hx hb dX7_fault_2 (by decide) ?_
  obtain ⟨r2, h1, h⟩ := bd1_some h
  refine goI C hD hS (runS (As := [.int a1, .int 1, .int 99]) (rest := []) (w := (mW G q σ)) C lc_RX7_75 (ctM_within (w := (mW G q σ)) N a1 1 99 r2 h1 _) hP hD hS hl.1 rfl rfl (by decide) (by decide) (Nat.le_of_ble_eq_true rfl) dX7_fault_4) (fun H locs hP hD hS => ?_)
  refine lv_if_ne (tgt := 12) hx hb dX7_fault_7 (by decide) (fun c3 => ?_) (fun c3 => ?_)
  · replace h := ifn c3 h
    refine lv_aload_n hx hb dX7_fault_12 rfl (lv_at hl 0 rfl) ?_
    refine gf_RX7_191 C hP dX7_fault_13 ?_
    refine lv_bipush (v := 12) hx hb dX7_fault_16 (by decide) ?_
    refine lv_icmp_ne (tgt := 24) hx hb dX7_fault_18 (by decide) (fun c4 => ?_) (fun c4 => ?_)
    · replace h := ifn c4 h
      refine lv_aload_n hx hb dX7_fault_24 rfl (lv_at hl 0 rfl) ?_
      refine gf_RX7_56 C hP dX7_fault_25 ?_
      refine lv_aload_n hx hb dX7_fault_28 rfl (lv_at hl 0 rfl) ?_
      refine gf_RX7_191 C hP dX7_fault_29 ?_
      refine lv_iload_n hx hb dX7_fault_32 rfl (lv_at hl 1 rfl) ?_
      obtain ⟨i5, h⟩ := gi_some h
      refine stM_9 C hP hD hS i5 dX7_fault_33 (fun H locs hP hD hS => ?_)
      refine lv_aload_n hx hb dX7_fault_34 rfl (lv_at hl 0 rfl) ?_
      refine lv_dup hx hb dX7_fault_35 rfl ?_
      refine gf_RX7_194 C hP dX7_fault_36 ?_
      refine lv_cv (y := (σ.1 12)) rfl ?_
      refine lv_iconst (v := 1) hx hb dX7_fault_39 (by decide) ?_
      refine lv_aload_n hx hb dX7_fault_40 rfl (lv_at hl 0 rfl) ?_
      refine gf_RX7_191 C hP dX7_fault_41 ?_
      refine lv_cv (y := (σ.1 10)) rfl ?_
      refine lv_ishl hx hb dX7_fault_44 ?_
      refine lv_ior hx hb dX7_fault_45 ?_
      refine pf_RX7_194 C hP hD hS dX7_fault_46 (fun H locs hP hD hS => ?_)
      refine lv_aload_n hx hb dX7_fault_49 rfl (lv_at hl 0 rfl) ?_
      refine lv_dup hx hb dX7_fault_50 rfl ?_
      refine gf_RX7_191 C hP dX7_fault_51 ?_
      refine lv_cv (y := (σ.1 10)) rfl ?_
      refine lv_iconst (v := 1) hx hb dX7_fault_54 (by decide) ?_
      refine lv_iadd hx hb dX7_fault_55 ?_
      refine pf_RX7_191 C hP hD hS dX7_fault_56 (fun H locs hP hD hS => ?_)
      refine lv_aload_n hx hb dX7_fault_59 rfl (lv_at hl 0 rfl) ?_
      refine gf_RX7_191 C hP dX7_fault_60 ?_
      refine lv_cv (y := ((σ.1 10) + 1)) rfl ?_
      refine lv_iconst (v := 1) hx hb dX7_fault_63 (by decide) ?_
      refine lv_isub hx hb dX7_fault_64 ?_
      obtain ⟨rfl, rfl⟩ := so2 h
      exact retI C hP hD hS dX7_fault_65
    · replace h := ifp c4 h
      refine lv_bipush (v := (-2)) hx hb dX7_fault_21 (by decide) ?_
      obtain ⟨rfl, rfl⟩ := so2 h
      exact retI C hP hD hS dX7_fault_23
  · replace h := ifp c3 h
    refine lv_iconst (v := (-1)) hx hb dX7_fault_10 (by decide) ?_
    obtain ⟨rfl, rfl⟩ := so2 h
    exact retI C hP hD hS dX7_fault_11

def fM_test (N : Nat) (σ : St) (a1 : Int32) : Option (Int32 × St) :=
  bd1 (fM_within N a1 1 99) (fun r2 => (if r2 = 0 then some ((-1), σ) else (if (σ.1 11) = 12 then some ((-2), σ) else gi (σ.1 11) 12 (some ((((σ.1 11) + 1) - 1), (s1 (sA σ 10 (σ.1 11).toNatClampNeg a1) 11 ((σ.1 11) + 1)))))))
set_option maxHeartbeats 4000000 in
set_option maxRecDepth 100000 in
theorem ctM_test {G : GP} {l : Launch} {q : Nat → Nat} (N : Nat) (σ σ' : St) (a1 : Int32) (r : Int32) (h : fM_test N σ a1 = some (r, σ')) : CI G l yX7_test cX7_test 2 (some .int) 1 [.ref (q 0), .int a1] (mW G q σ) (mW G q (σ')) r := by
  refine enterI (own := RX7) (by decide) rfl (Nat.le_of_ble_eq_true rfl) ?_
  intro p e s m args below meth c A C hP hD hS ls hl
  obtain ⟨hx, hb, hml, hown, hts, hK, hZ, hA, hlk, hr⟩ := id C
  have hl : lv_has ls 2 [(0, .ref (q 0)), (1, .int a1)] := hl
  rw [fM_test.eq_1] at h
  refine lv_iload_n hx hb dX7_test_0 rfl (lv_at hl 1 rfl) ?_
  refine lv_iconst (v := 1) hx hb dX7_test_1 (by decide) ?_
  refine lv_bipush (v := 99) hx hb dX7_test_2 (by decide) ?_
  obtain ⟨r2, h1, h⟩ := bd1_some h
  refine goI C hD hS (runS (As := [.int a1, .int 1, .int 99]) (rest := []) (w := (mW G q σ)) C lc_RX7_75 (ctM_within (w := (mW G q σ)) N a1 1 99 r2 h1 _) hP hD hS hl.1 rfl rfl (by decide) (by decide) (Nat.le_of_ble_eq_true rfl) dX7_test_4) (fun H locs hP hD hS => ?_)
  refine lv_if_ne (tgt := 12) hx hb dX7_test_7 (by decide) (fun c3 => ?_) (fun c3 => ?_)
  · replace h := ifn c3 h
    refine lv_aload_n hx hb dX7_test_12 rfl (lv_at hl 0 rfl) ?_
    refine gf_RX7_197 C hP dX7_test_13 ?_
    refine lv_bipush (v := 12) hx hb dX7_test_16 (by decide) ?_
    refine lv_icmp_ne (tgt := 24) hx hb dX7_test_18 (by decide) (fun c4 => ?_) (fun c4 => ?_)
    · replace h := ifn c4 h
      refine lv_aload_n hx hb dX7_test_24 rfl (lv_at hl 0 rfl) ?_
      refine gf_RX7_59 C hP dX7_test_25 ?_
      refine lv_aload_n hx hb dX7_test_28 rfl (lv_at hl 0 rfl) ?_
      refine gf_RX7_197 C hP dX7_test_29 ?_
      refine lv_iload_n hx hb dX7_test_32 rfl (lv_at hl 1 rfl) ?_
      obtain ⟨i5, h⟩ := gi_some h
      refine stM_10 C hP hD hS i5 dX7_test_33 (fun H locs hP hD hS => ?_)
      refine lv_aload_n hx hb dX7_test_34 rfl (lv_at hl 0 rfl) ?_
      refine lv_dup hx hb dX7_test_35 rfl ?_
      refine gf_RX7_197 C hP dX7_test_36 ?_
      refine lv_cv (y := (σ.1 11)) rfl ?_
      refine lv_iconst (v := 1) hx hb dX7_test_39 (by decide) ?_
      refine lv_iadd hx hb dX7_test_40 ?_
      refine pf_RX7_197 C hP hD hS dX7_test_41 (fun H locs hP hD hS => ?_)
      refine lv_aload_n hx hb dX7_test_44 rfl (lv_at hl 0 rfl) ?_
      refine gf_RX7_197 C hP dX7_test_45 ?_
      refine lv_cv (y := ((σ.1 11) + 1)) rfl ?_
      refine lv_iconst (v := 1) hx hb dX7_test_48 (by decide) ?_
      refine lv_isub hx hb dX7_test_49 ?_
      obtain ⟨rfl, rfl⟩ := so2 h
      exact retI C hP hD hS dX7_test_50
    · replace h := ifp c4 h
      refine lv_bipush (v := (-2)) hx hb dX7_test_21 (by decide) ?_
      obtain ⟨rfl, rfl⟩ := so2 h
      exact retI C hP hD hS dX7_test_23
  · replace h := ifp c3 h
    refine lv_iconst (v := (-1)) hx hb dX7_test_10 (by decide) ?_
    obtain ⟨rfl, rfl⟩ := so2 h
    exact retI C hP hD hS dX7_test_11

def fM_isTest (N : Nat) (σ : St) (a1 : Int32) : Option Int32 :=
  (if a1 < 0 then some 0 else (if (σ.1 11) ≤ a1 then some 0 else some 1))
set_option maxHeartbeats 4000000 in
set_option maxRecDepth 100000 in
theorem ctM_isTest {G : GP} {l : Launch} {q : Nat → Nat} (N : Nat) (σ : St) (a1 : Int32) (r : Int32) (h : fM_isTest N σ a1 = some r) : CI G l yX7_isTest cX7_isTest 2 (some .boolean) 0 [.ref (q 0), .int a1] (mW G q σ) (mW G q σ) r := by
  refine enterI (own := RX7) (by decide) rfl (Nat.le_of_ble_eq_true rfl) ?_
  intro p e s m args below meth c A C hP hD hS ls hl
  obtain ⟨hx, hb, hml, hown, hts, hK, hZ, hA, hlk, hr⟩ := id C
  have hl : lv_has ls 2 [(0, .ref (q 0)), (1, .int a1)] := hl
  rw [fM_isTest.eq_1] at h
  refine lv_iload_n hx hb dX7_isTest_0 rfl (lv_at hl 1 rfl) ?_
  refine lv_if_lt (tgt := 16) hx hb dX7_isTest_1 (by decide) (fun c1 => ?_) (fun c1 => ?_)
  · replace h := ifp c1 h
    refine lv_iconst (v := 0) hx hb dX7_isTest_16 (by decide) ?_
    obtain rfl := so1 h
    exact retZ C hP hD hS (by decide) dX7_isTest_17
  · replace h := ifn c1 h
    refine lv_iload_n hx hb dX7_isTest_4 rfl (lv_at hl 1 rfl) ?_
    refine lv_aload_n hx hb dX7_isTest_5 rfl (lv_at hl 0 rfl) ?_
    refine gf_RX7_197 C hP dX7_isTest_6 ?_
    refine lv_icmp_ge (tgt := 16) hx hb dX7_isTest_9 (by decide) (fun c2 => ?_) (fun c2 => ?_)
    · replace h := ifp c2 h
      refine lv_iconst (v := 0) hx hb dX7_isTest_16 (by decide) ?_
      obtain rfl := so1 h
      exact retZ C hP hD hS (by decide) dX7_isTest_17
    · replace h := ifn c2 h
      refine lv_iconst (v := 1) hx hb dX7_isTest_12 (by decide) ?_
      refine lv_goto (tgt := 17) hx hb dX7_isTest_13 (by decide) ?_
      obtain rfl := so1 h
      exact retZ C hP hD hS (by decide) dX7_isTest_17

def fM_reading (N : Nat) (σ : St) (a1 : Int32) (a2 : Int32) (a3 : Int32) : Option (Int32 × St) :=
  bd1 (fM_isTest N σ a1) (fun r2 => (if r2 = 0 then some ((-1), σ) else (if a2 < 0 then some ((-1), σ) else (if (σ.1 10) ≤ a2 then some ((-1), σ) else bd1 (fM_within N a3 0 3) (fun r7 => (if r7 = 0 then some ((-1), σ) else gi ((12 * a1) + a2) 144 (gi ((12 * a1) + a2) 144 (some ((σ.2 11 ((12 * a1) + a2).toNatClampNeg), (sA σ 11 ((12 * a1) + a2).toNatClampNeg a3))))))))))
set_option maxHeartbeats 4000000 in
set_option maxRecDepth 100000 in
theorem ctM_reading {G : GP} {l : Launch} {q : Nat → Nat} (N : Nat) (σ σ' : St) (a1 : Int32) (a2 : Int32) (a3 : Int32) (r : Int32) (h : fM_reading N σ a1 a2 a3 = some (r, σ')) : CI G l yX7_reading cX7_reading 5 (some .int) 1 [.ref (q 0), .int a1, .int a2, .int a3] (mW G q σ) (mW G q (σ')) r := by
  refine enterI (own := RX7) (by decide) rfl (Nat.le_of_ble_eq_true rfl) ?_
  intro p e s m args below meth c A C hP hD hS ls hl
  obtain ⟨hx, hb, hml, hown, hts, hK, hZ, hA, hlk, hr⟩ := id C
  have hl : lv_has ls 5 [(0, .ref (q 0)), (1, .int a1), (2, .int a2), (3, .int a3)] := hl
  rw [fM_reading.eq_1] at h
  refine lv_aload_n hx hb dX7_reading_0 rfl (lv_at hl 0 rfl) ?_
  refine lv_iload_n hx hb dX7_reading_1 rfl (lv_at hl 1 rfl) ?_
  obtain ⟨r2, h1, h⟩ := bd1_some h
  refine goI C hD hS (runV (As := [.int a1]) (rest := []) (w := (mW G q σ)) C lc_RX7_200 (ctM_isTest N σ a1 r2 h1 _) hP hD hS (va_recv C.2.2.2.2.2.1 hP (ci := 7) (q0 := 0) rfl rfl) hl.1 rfl rfl (by decide) (by decide) (Nat.le_of_ble_eq_true rfl) dX7_reading_2) (fun H locs hP hD hS => ?_)
  refine lv_if_eq (tgt := 29) hx hb dX7_reading_5 (by decide) (fun c3 => ?_) (fun c3 => ?_)
  · replace h := ifp c3 h
    refine lv_iconst (v := (-1)) hx hb dX7_reading_29 (by decide) ?_
    obtain ⟨rfl, rfl⟩ := so2 h
    exact retI C hP hD hS dX7_reading_30
  · replace h := ifn c3 h
    refine lv_iload_n hx hb dX7_reading_8 rfl (lv_at hl 2 rfl) ?_
    refine lv_if_lt (tgt := 29) hx hb dX7_reading_9 (by decide) (fun c4 => ?_) (fun c4 => ?_)
    · replace h := ifp c4 h
      refine lv_iconst (v := (-1)) hx hb dX7_reading_29 (by decide) ?_
      obtain ⟨rfl, rfl⟩ := so2 h
      exact retI C hP hD hS dX7_reading_30
    · replace h := ifn c4 h
      refine lv_iload_n hx hb dX7_reading_12 rfl (lv_at hl 2 rfl) ?_
      refine lv_aload_n hx hb dX7_reading_13 rfl (lv_at hl 0 rfl) ?_
      refine gf_RX7_191 C hP dX7_reading_14 ?_
      refine lv_icmp_ge (tgt := 29) hx hb dX7_reading_17 (by decide) (fun c5 => ?_) (fun c5 => ?_)
      · replace h := ifp c5 h
        refine lv_iconst (v := (-1)) hx hb dX7_reading_29 (by decide) ?_
        obtain ⟨rfl, rfl⟩ := so2 h
        exact retI C hP hD hS dX7_reading_30
      · replace h := ifn c5 h
        refine lv_iload_n hx hb dX7_reading_20 rfl (lv_at hl 3 rfl) ?_
        refine lv_iconst (v := 0) hx hb dX7_reading_21 (by decide) ?_
        refine lv_iconst (v := 3) hx hb dX7_reading_22 (by decide) ?_
        obtain ⟨r7, h6, h⟩ := bd1_some h
        refine goI C hD hS (runS (As := [.int a3, .int 0, .int 3]) (rest := []) (w := (mW G q σ)) C lc_RX7_75 (ctM_within (w := (mW G q σ)) N a3 0 3 r7 h6 _) hP hD hS hl.1 rfl rfl (by decide) (by decide) (Nat.le_of_ble_eq_true rfl) dX7_reading_23) (fun H locs hP hD hS => ?_)
        refine lv_if_ne (tgt := 31) hx hb dX7_reading_26 (by decide) (fun c8 => ?_) (fun c8 => ?_)
        · replace h := ifn c8 h
          refine lv_aload_n hx hb dX7_reading_31 rfl (lv_at hl 0 rfl) ?_
          refine gf_RX7_62 C hP dX7_reading_32 ?_
          refine lv_bipush (v := 12) hx hb dX7_reading_35 (by decide) ?_
          refine lv_iload_n hx hb dX7_reading_37 rfl (lv_at hl 1 rfl) ?_
          refine lv_imul hx hb dX7_reading_38 ?_
          refine lv_iload_n hx hb dX7_reading_39 rfl (lv_at hl 2 rfl) ?_
          refine lv_iadd hx hb dX7_reading_40 ?_
          obtain ⟨i9, h⟩ := gi_some h
          refine ldM_11 C hP i9 dX7_reading_41 ?_
          refine lv_istore (lv' := [(4, .int (σ.2 11 ((12 * a1) + a2).toNatClampNeg)), (0, .ref (q 0)), (1, .int a1), (2, .int a2), (3, .int a3)]) hx hb dX7_reading_42 hl (by decide) rfl (fun ls hl => ?_)
          refine lv_aload_n hx hb dX7_reading_44 rfl (lv_at hl 1 rfl) ?_
          refine gf_RX7_62 C hP dX7_reading_45 ?_
          refine lv_bipush (v := 12) hx hb dX7_reading_48 (by decide) ?_
          refine lv_iload_n hx hb dX7_reading_50 rfl (lv_at hl 2 rfl) ?_
          refine lv_imul hx hb dX7_reading_51 ?_
          refine lv_iload_n hx hb dX7_reading_52 rfl (lv_at hl 3 rfl) ?_
          refine lv_iadd hx hb dX7_reading_53 ?_
          refine lv_iload_n hx hb dX7_reading_54 rfl (lv_at hl 4 rfl) ?_
          obtain ⟨i10, h⟩ := gi_some h
          refine stM_11 C hP hD hS i10 dX7_reading_55 (fun H locs hP hD hS => ?_)
          refine lv_iload hx hb dX7_reading_56 (lv_at hl 0 rfl) ?_
          obtain ⟨rfl, rfl⟩ := so2 h
          exact retI C hP hD hS dX7_reading_58
        · replace h := ifp c8 h
          refine lv_iconst (v := (-1)) hx hb dX7_reading_29 (by decide) ?_
          obtain ⟨rfl, rfl⟩ := so2 h
          exact retI C hP hD hS dX7_reading_30

def fM_leaves_L6 (N : Nat) (σ : St) (v1 : Int32) (v2 : Int32) (v3 : Int32) : Nat → Int32 → Int32 → Option Int32
  | 0, _, _ => none
  | n + 1, v4, v5 => (if (σ.1 10) ≤ v5 then some v4 else (if ((v1 >>> (v5 &&& 31)) &&& 1) = 1 then gi ((12 * v2) + v5) 144 ((if (σ.2 11 ((12 * v2) + v5).toNatClampNeg) = v3 then fM_leaves_L6 N σ v1 v2 v3 n (v4 ||| (1 <<< (v5 &&& 31))) (v5 + 1) else fM_leaves_L6 N σ v1 v2 v3 n (v4 ||| 0) (v5 + 1))) else fM_leaves_L6 N σ v1 v2 v3 n (v4 ||| 0) (v5 + 1)))
set_option maxHeartbeats 4000000 in
set_option maxRecDepth 100000 in
theorem wM_leaves_L6 {q : Nat → Nat} (C : Cx G p s m args meth c cX7_leaves 6 (some .int) (Cond.code yX7_leaves cX7_leaves 6 (some .int)) RX7 A) (N : Nat) (σ : St) (v1 : Int32) (v2 : Int32) (v3 : Int32) (r : Int32) : ∀ (n : Nat) (v4 : Int32) (v5 : Int32) (H : Heap) (locs : List Loc) (ls : Array Slot), fM_leaves_L6 N σ v1 v2 v3 n v4 v5 = some r → va_P G.1 vwCl (mW G q σ) H → va_D A (mW G q σ) → va_S A s.heap H locs → lv_has ls 6 [(0, .ref (q 0)), (1, .int v1), (2, .int v2), (3, .int v3), (4, .int v4), (5, .int v5)] → W p l e (rmD 0) s m args below meth c H locs 0 0 (QI G below args s A (mW G q σ) r) (F0 m 6 ls []) := by
  obtain ⟨hx, hb, hml, hown, hts, hK, hZ, hA, hlk, hr⟩ := id C
  intro n
  induction n with
  | zero =>
    intro v4 v5 H locs ls h
    cases h
  | succ n ih =>
    intro v4 v5 H locs ls h hP hD hS hl
    rw [fM_leaves_L6.eq_2] at h
    refine lv_iload hx hb dX7_leaves_6 (lv_at hl 5 rfl) ?_
    refine lv_aload_n hx hb dX7_leaves_8 rfl (lv_at hl 0 rfl) ?_
    refine gf_RX7_191 C hP dX7_leaves_9 ?_
    refine lv_icmp_ge (tgt := 60) hx hb dX7_leaves_12 (by decide) (fun c1 => ?_) (fun c1 => ?_)
    · replace h := ifp c1 h
      refine lv_iload hx hb dX7_leaves_60 (lv_at hl 4 rfl) ?_
      obtain rfl := so1 h
      exact retI C hP hD hS dX7_leaves_62
    · replace h := ifn c1 h
      refine lv_iload hx hb dX7_leaves_15 (lv_at hl 4 rfl) ?_
      refine lv_iload_n hx hb dX7_leaves_17 rfl (lv_at hl 1 rfl) ?_
      refine lv_iload hx hb dX7_leaves_18 (lv_at hl 5 rfl) ?_
      refine lv_ishr hx hb dX7_leaves_20 ?_
      refine lv_iconst (v := 1) hx hb dX7_leaves_21 (by decide) ?_
      refine lv_iand hx hb dX7_leaves_22 ?_
      refine lv_iconst (v := 1) hx hb dX7_leaves_23 (by decide) ?_
      refine lv_icmp_ne (tgt := 50) hx hb dX7_leaves_24 (by decide) (fun c2 => ?_) (fun c2 => ?_)
      · replace h := ifn c2 h
        refine lv_iconst (v := 0) hx hb dX7_leaves_50 (by decide) ?_
        refine lv_ior hx hb dX7_leaves_51 ?_
        refine lv_istore (lv' := [(4, .int (v4 ||| 0)), (0, .ref (q 0)), (1, .int v1), (2, .int v2), (3, .int v3), (5, .int v5)]) hx hb dX7_leaves_52 hl (by decide) rfl (fun ls hl => ?_)
        refine lv_iinc (v := (v5 + 1)) (lv' := [(5, .int (v5 + 1)), (4, .int (v4 ||| 0)), (0, .ref (q 0)), (1, .int v1), (2, .int v2), (3, .int v3)]) hx hb dX7_leaves_54 hl (k := 5) rfl (by first | rfl | decide) (by decide) rfl (fun ls hl => ?_)
        refine lv_goto (tgt := 6) hx hb dX7_leaves_57 (by decide) ?_
        exact ih (v4 ||| 0) (v5 + 1) _ _ _ h hP hD hS (lv_sub hl [2, 3, 4, 5, 1, 0] rfl)
      · replace h := ifp c2 h
        refine lv_aload_n hx hb dX7_leaves_27 rfl (lv_at hl 0 rfl) ?_
        refine gf_RX7_62 C hP dX7_leaves_28 ?_
        refine lv_bipush (v := 12) hx hb dX7_leaves_31 (by decide) ?_
        refine lv_iload_n hx hb dX7_leaves_33 rfl (lv_at hl 2 rfl) ?_
        refine lv_imul hx hb dX7_leaves_34 ?_
        refine lv_iload hx hb dX7_leaves_35 (lv_at hl 5 rfl) ?_
        refine lv_iadd hx hb dX7_leaves_37 ?_
        obtain ⟨i3, h⟩ := gi_some h
        refine ldM_11 C hP i3 dX7_leaves_38 ?_
        refine lv_iload_n hx hb dX7_leaves_39 rfl (lv_at hl 3 rfl) ?_
        refine lv_icmp_ne (tgt := 50) hx hb dX7_leaves_40 (by decide) (fun c4 => ?_) (fun c4 => ?_)
        · replace h := ifn c4 h
          refine lv_iconst (v := 0) hx hb dX7_leaves_50 (by decide) ?_
          refine lv_ior hx hb dX7_leaves_51 ?_
          refine lv_istore (lv' := [(4, .int (v4 ||| 0)), (0, .ref (q 0)), (1, .int v1), (2, .int v2), (3, .int v3), (5, .int v5)]) hx hb dX7_leaves_52 hl (by decide) rfl (fun ls hl => ?_)
          refine lv_iinc (v := (v5 + 1)) (lv' := [(5, .int (v5 + 1)), (4, .int (v4 ||| 0)), (0, .ref (q 0)), (1, .int v1), (2, .int v2), (3, .int v3)]) hx hb dX7_leaves_54 hl (k := 5) rfl (by first | rfl | decide) (by decide) rfl (fun ls hl => ?_)
          refine lv_goto (tgt := 6) hx hb dX7_leaves_57 (by decide) ?_
          exact ih (v4 ||| 0) (v5 + 1) _ _ _ h hP hD hS (lv_sub hl [2, 3, 4, 5, 1, 0] rfl)
        · replace h := ifp c4 h
          refine lv_iconst (v := 1) hx hb dX7_leaves_43 (by decide) ?_
          refine lv_iload hx hb dX7_leaves_44 (lv_at hl 5 rfl) ?_
          refine lv_ishl hx hb dX7_leaves_46 ?_
          refine lv_goto (tgt := 51) hx hb dX7_leaves_47 (by decide) ?_
          refine lv_ior hx hb dX7_leaves_51 ?_
          refine lv_istore (lv' := [(4, .int (v4 ||| (1 <<< (v5 &&& 31)))), (0, .ref (q 0)), (1, .int v1), (2, .int v2), (3, .int v3), (5, .int v5)]) hx hb dX7_leaves_52 hl (by decide) rfl (fun ls hl => ?_)
          refine lv_iinc (v := (v5 + 1)) (lv' := [(5, .int (v5 + 1)), (4, .int (v4 ||| (1 <<< (v5 &&& 31)))), (0, .ref (q 0)), (1, .int v1), (2, .int v2), (3, .int v3)]) hx hb dX7_leaves_54 hl (k := 5) rfl (by first | rfl | decide) (by decide) rfl (fun ls hl => ?_)
          refine lv_goto (tgt := 6) hx hb dX7_leaves_57 (by decide) ?_
          exact ih (v4 ||| (1 <<< (v5 &&& 31))) (v5 + 1) _ _ _ h hP hD hS (lv_sub hl [2, 3, 4, 5, 1, 0] rfl)

def fM_leaves (N : Nat) (σ : St) (a1 : Int32) (a2 : Int32) (a3 : Int32) : Option Int32 :=
  fM_leaves_L6 N σ a1 a2 a3 N 0 0
set_option maxHeartbeats 4000000 in
set_option maxRecDepth 100000 in
theorem ctM_leaves {G : GP} {l : Launch} {q : Nat → Nat} (N : Nat) (σ : St) (a1 : Int32) (a2 : Int32) (a3 : Int32) (r : Int32) (h : fM_leaves N σ a1 a2 a3 = some r) : CI G l yX7_leaves cX7_leaves 6 (some .int) 0 [.ref (q 0), .int a1, .int a2, .int a3] (mW G q σ) (mW G q σ) r := by
  refine enterI (own := RX7) (by decide) rfl (Nat.le_of_ble_eq_true rfl) ?_
  intro p e s m args below meth c A C hP hD hS ls hl
  obtain ⟨hx, hb, hml, hown, hts, hK, hZ, hA, hlk, hr⟩ := id C
  have hl : lv_has ls 6 [(0, .ref (q 0)), (1, .int a1), (2, .int a2), (3, .int a3)] := hl
  rw [fM_leaves.eq_1] at h
  refine lv_iconst (v := 0) hx hb dX7_leaves_0 (by decide) ?_
  refine lv_istore (lv' := [(4, .int 0), (0, .ref (q 0)), (1, .int a1), (2, .int a2), (3, .int a3)]) hx hb dX7_leaves_1 hl (by decide) rfl (fun ls hl => ?_)
  refine lv_iconst (v := 0) hx hb dX7_leaves_3 (by decide) ?_
  refine lv_istore (lv' := [(5, .int 0), (4, .int 0), (0, .ref (q 0)), (1, .int a1), (2, .int a2), (3, .int a3)]) hx hb dX7_leaves_4 hl (by decide) rfl (fun ls hl => ?_)
  exact wM_leaves_L6 C N σ a1 a2 a3 r N 0 0 _ _ _ h hP hD hS (lv_sub hl [2, 3, 4, 5, 1, 0] rfl)

def fM_bitsOf_L4 (N : Nat) (v0 : Int32) : Nat → Int32 → Int32 → Option Int32
  | 0, _, _ => none
  | n + 1, v1, v2 => (if 12 ≤ v2 then some v1 else fM_bitsOf_L4 N v0 n (v1 + ((v0 >>> (v2 &&& 31)) &&& 1)) (v2 + 1))
set_option maxHeartbeats 4000000 in
set_option maxRecDepth 100000 in
theorem wM_bitsOf_L4 {w : va_W} (C : Cx G p s m args meth c cX7_bitsOf 3 (some .int) (Cond.code yX7_bitsOf cX7_bitsOf 3 (some .int)) RX7 A) (N : Nat) (v0 : Int32) (r : Int32) : ∀ (n : Nat) (v1 : Int32) (v2 : Int32) (H : Heap) (locs : List Loc) (ls : Array Slot), fM_bitsOf_L4 N v0 n v1 v2 = some r → va_P G.1 vwCl w H → va_D A w → va_S A s.heap H locs → lv_has ls 3 [(0, .int v0), (1, .int v1), (2, .int v2)] → W p l e (rmD 0) s m args below meth c H locs 0 0 (QI G below args s A w r) (F0 m 4 ls []) := by
  obtain ⟨hx, hb, hml, hown, hts, hK, hZ, hA, hlk, hr⟩ := id C
  intro n
  induction n with
  | zero =>
    intro v1 v2 H locs ls h
    cases h
  | succ n ih =>
    intro v1 v2 H locs ls h hP hD hS hl
    rw [fM_bitsOf_L4.eq_2] at h
    refine lv_iload_n hx hb dX7_bitsOf_4 rfl (lv_at hl 2 rfl) ?_
    refine lv_bipush (v := 12) hx hb dX7_bitsOf_5 (by decide) ?_
    refine lv_icmp_ge (tgt := 24) hx hb dX7_bitsOf_7 (by decide) (fun c1 => ?_) (fun c1 => ?_)
    · replace h := ifp c1 h
      refine lv_iload_n hx hb dX7_bitsOf_24 rfl (lv_at hl 1 rfl) ?_
      obtain rfl := so1 h
      exact retI C hP hD hS dX7_bitsOf_25
    · replace h := ifn c1 h
      refine lv_iload_n hx hb dX7_bitsOf_10 rfl (lv_at hl 1 rfl) ?_
      refine lv_iload_n hx hb dX7_bitsOf_11 rfl (lv_at hl 0 rfl) ?_
      refine lv_iload_n hx hb dX7_bitsOf_12 rfl (lv_at hl 2 rfl) ?_
      refine lv_ishr hx hb dX7_bitsOf_13 ?_
      refine lv_iconst (v := 1) hx hb dX7_bitsOf_14 (by decide) ?_
      refine lv_iand hx hb dX7_bitsOf_15 ?_
      refine lv_iadd hx hb dX7_bitsOf_16 ?_
      refine lv_istore_n (lv' := [(1, .int (v1 + ((v0 >>> (v2 &&& 31)) &&& 1))), (0, .int v0), (2, .int v2)]) hx hb dX7_bitsOf_17 rfl hl (by decide) rfl (fun ls hl => ?_)
      refine lv_iinc (v := (v2 + 1)) (lv' := [(2, .int (v2 + 1)), (1, .int (v1 + ((v0 >>> (v2 &&& 31)) &&& 1))), (0, .int v0)]) hx hb dX7_bitsOf_18 hl (k := 2) rfl (by first | rfl | decide) (by decide) rfl (fun ls hl => ?_)
      refine lv_goto (tgt := 4) hx hb dX7_bitsOf_21 (by decide) ?_
      exact ih (v1 + ((v0 >>> (v2 &&& 31)) &&& 1)) (v2 + 1) _ _ _ h hP hD hS (lv_sub hl [2, 1, 0] rfl)

def fM_bitsOf (N : Nat) (a1 : Int32) : Option Int32 :=
  fM_bitsOf_L4 N a1 N 0 0
set_option maxHeartbeats 4000000 in
set_option maxRecDepth 100000 in
theorem ctM_bitsOf {G : GP} {l : Launch} {w : va_W} (N : Nat) (a1 : Int32) (r : Int32) (h : fM_bitsOf N a1 = some r) : CI G l yX7_bitsOf cX7_bitsOf 3 (some .int) 0 [.int a1] w w r := by
  refine enterI (own := RX7) (by decide) rfl (Nat.le_of_ble_eq_true rfl) ?_
  intro p e s m args below meth c A C hP hD hS ls hl
  obtain ⟨hx, hb, hml, hown, hts, hK, hZ, hA, hlk, hr⟩ := id C
  have hl : lv_has ls 3 [(0, .int a1)] := hl
  rw [fM_bitsOf.eq_1] at h
  refine lv_iconst (v := 0) hx hb dX7_bitsOf_0 (by decide) ?_
  refine lv_istore_n (lv' := [(1, .int 0), (0, .int a1)]) hx hb dX7_bitsOf_1 rfl hl (by decide) rfl (fun ls hl => ?_)
  refine lv_iconst (v := 0) hx hb dX7_bitsOf_2 (by decide) ?_
  refine lv_istore_n (lv' := [(2, .int 0), (1, .int 0), (0, .int a1)]) hx hb dX7_bitsOf_3 rfl hl (by decide) rfl (fun ls hl => ?_)
  exact wM_bitsOf_L4 C N a1 r N 0 0 _ _ _ h hP hD hS (lv_sub hl [2, 1, 0] rfl)

def fM_read (N : Nat) (σ : St) (a1 : Int32) (a2 : Int32) : Option (Int32 × St) :=
  bd1 (fM_isTest N σ a1) (fun r2 => (if r2 = 0 then some ((-1), σ) else bd1 (fM_within N a2 0 3) (fun r5 => (if r5 = 0 then some ((-1), σ) else bd1 (fM_leaves N σ (σ.1 12) a1 a2) (fun r8 => (if r8 = 0 then some ((-3), σ) else bd1 (fM_bitsOf N r8) (fun r11 => some (r11, (s1 σ 12 r8)))))))))
set_option maxHeartbeats 4000000 in
set_option maxRecDepth 100000 in
theorem ctM_read {G : GP} {l : Launch} {q : Nat → Nat} (N : Nat) (σ σ' : St) (a1 : Int32) (a2 : Int32) (r : Int32) (h : fM_read N σ a1 a2 = some (r, σ')) : CI G l yX7_read cX7_read 4 (some .int) 1 [.ref (q 0), .int a1, .int a2] (mW G q σ) (mW G q (σ')) r := by
  refine enterI (own := RX7) (by decide) rfl (Nat.le_of_ble_eq_true rfl) ?_
  intro p e s m args below meth c A C hP hD hS ls hl
  obtain ⟨hx, hb, hml, hown, hts, hK, hZ, hA, hlk, hr⟩ := id C
  have hl : lv_has ls 4 [(0, .ref (q 0)), (1, .int a1), (2, .int a2)] := hl
  rw [fM_read.eq_1] at h
  refine lv_aload_n hx hb dX7_read_0 rfl (lv_at hl 0 rfl) ?_
  refine lv_iload_n hx hb dX7_read_1 rfl (lv_at hl 1 rfl) ?_
  obtain ⟨r2, h1, h⟩ := bd1_some h
  refine goI C hD hS (runV (As := [.int a1]) (rest := []) (w := (mW G q σ)) C lc_RX7_200 (ctM_isTest N σ a1 r2 h1 _) hP hD hS (va_recv C.2.2.2.2.2.1 hP (ci := 7) (q0 := 0) rfl rfl) hl.1 rfl rfl (by decide) (by decide) (Nat.le_of_ble_eq_true rfl) dX7_read_2) (fun H locs hP hD hS => ?_)
  refine lv_if_eq (tgt := 17) hx hb dX7_read_5 (by decide) (fun c3 => ?_) (fun c3 => ?_)
  · replace h := ifp c3 h
    refine lv_iconst (v := (-1)) hx hb dX7_read_17 (by decide) ?_
    obtain ⟨rfl, rfl⟩ := so2 h
    exact retI C hP hD hS dX7_read_18
  · replace h := ifn c3 h
    refine lv_iload_n hx hb dX7_read_8 rfl (lv_at hl 2 rfl) ?_
    refine lv_iconst (v := 0) hx hb dX7_read_9 (by decide) ?_
    refine lv_iconst (v := 3) hx hb dX7_read_10 (by decide) ?_
    obtain ⟨r5, h4, h⟩ := bd1_some h
    refine goI C hD hS (runS (As := [.int a2, .int 0, .int 3]) (rest := []) (w := (mW G q σ)) C lc_RX7_75 (ctM_within (w := (mW G q σ)) N a2 0 3 r5 h4 _) hP hD hS hl.1 rfl rfl (by decide) (by decide) (Nat.le_of_ble_eq_true rfl) dX7_read_11) (fun H locs hP hD hS => ?_)
    refine lv_if_ne (tgt := 19) hx hb dX7_read_14 (by decide) (fun c6 => ?_) (fun c6 => ?_)
    · replace h := ifn c6 h
      refine lv_aload_n hx hb dX7_read_19 rfl (lv_at hl 0 rfl) ?_
      refine lv_aload_n hx hb dX7_read_20 rfl (lv_at hl 0 rfl) ?_
      refine gf_RX7_194 C hP dX7_read_21 ?_
      refine lv_iload_n hx hb dX7_read_24 rfl (lv_at hl 1 rfl) ?_
      refine lv_iload_n hx hb dX7_read_25 rfl (lv_at hl 2 rfl) ?_
      obtain ⟨r8, h7, h⟩ := bd1_some h
      refine goI C hD hS (runV (As := [.int (σ.1 12), .int a1, .int a2]) (rest := []) (w := (mW G q σ)) C lc_RX7_203 (ctM_leaves N σ (σ.1 12) a1 a2 r8 h7 _) hP hD hS (va_recv C.2.2.2.2.2.1 hP (ci := 7) (q0 := 0) rfl rfl) hl.1 rfl rfl (by decide) (by decide) (Nat.le_of_ble_eq_true rfl) dX7_read_26) (fun H locs hP hD hS => ?_)
      refine lv_istore_n (lv' := [(3, .int r8), (0, .ref (q 0)), (1, .int a1), (2, .int a2)]) hx hb dX7_read_29 rfl hl (by decide) rfl (fun ls hl => ?_)
      refine lv_iload_n hx hb dX7_read_30 rfl (lv_at hl 0 rfl) ?_
      refine lv_if_ne (tgt := 37) hx hb dX7_read_31 (by decide) (fun c9 => ?_) (fun c9 => ?_)
      · replace h := ifn c9 h
        refine lv_aload_n hx hb dX7_read_37 rfl (lv_at hl 1 rfl) ?_
        refine lv_iload_n hx hb dX7_read_38 rfl (lv_at hl 0 rfl) ?_
        refine pf_RX7_194 C hP hD hS dX7_read_39 (fun H locs hP hD hS => ?_)
        refine lv_aload_n hx hb dX7_read_42 rfl (lv_at hl 1 rfl) ?_
        refine gf_RX7_194 C hP dX7_read_43 ?_
        refine lv_cv (y := r8) rfl ?_
        obtain ⟨r11, h10, h⟩ := bd1_some h
        refine goI C hD hS (runS (As := [.int r8]) (rest := []) (w := (mW G q (s1 σ 12 r8))) C lc_RX7_206 (ctM_bitsOf (w := (mW G q (s1 σ 12 r8))) N r8 r11 h10 _) hP hD hS hl.1 rfl rfl (by decide) (by decide) (Nat.le_of_ble_eq_true rfl) dX7_read_46) (fun H locs hP hD hS => ?_)
        obtain ⟨rfl, rfl⟩ := so2 h
        exact retI C hP hD hS dX7_read_49
      · replace h := ifp c9 h
        refine lv_bipush (v := (-3)) hx hb dX7_read_34 (by decide) ?_
        obtain ⟨rfl, rfl⟩ := so2 h
        exact retI C hP hD hS dX7_read_36
    · replace h := ifp c6 h
      refine lv_iconst (v := (-1)) hx hb dX7_read_17 (by decide) ?_
      obtain ⟨rfl, rfl⟩ := so2 h
      exact retI C hP hD hS dX7_read_18

def fM_again (N : Nat) (σ : St) : Option (Int32 × St) :=
  bd1 (fM_bitsOf N (σ.1 12)) (fun r2 => some (r2, (s1 σ 12 ((1 <<< ((σ.1 10) &&& 31)) - 1))))
set_option maxHeartbeats 4000000 in
set_option maxRecDepth 100000 in
theorem ctM_again {G : GP} {l : Launch} {q : Nat → Nat} (N : Nat) (σ σ' : St) (r : Int32) (h : fM_again N σ = some (r, σ')) : CI G l yX7_again cX7_again 2 (some .int) 1 [.ref (q 0)] (mW G q σ) (mW G q (σ')) r := by
  refine enterI (own := RX7) (by decide) rfl (Nat.le_of_ble_eq_true rfl) ?_
  intro p e s m args below meth c A C hP hD hS ls hl
  obtain ⟨hx, hb, hml, hown, hts, hK, hZ, hA, hlk, hr⟩ := id C
  have hl : lv_has ls 2 [(0, .ref (q 0))] := hl
  rw [fM_again.eq_1] at h
  refine lv_aload_n hx hb dX7_again_0 rfl (lv_at hl 0 rfl) ?_
  refine gf_RX7_194 C hP dX7_again_1 ?_
  obtain ⟨r2, h1, h⟩ := bd1_some h
  refine goI C hD hS (runS (As := [.int (σ.1 12)]) (rest := []) (w := (mW G q σ)) C lc_RX7_206 (ctM_bitsOf (w := (mW G q σ)) N (σ.1 12) r2 h1 _) hP hD hS hl.1 rfl rfl (by decide) (by decide) (Nat.le_of_ble_eq_true rfl) dX7_again_4) (fun H locs hP hD hS => ?_)
  refine lv_istore_n (lv' := [(1, .int r2), (0, .ref (q 0))]) hx hb dX7_again_7 rfl hl (by decide) rfl (fun ls hl => ?_)
  refine lv_aload_n hx hb dX7_again_8 rfl (lv_at hl 1 rfl) ?_
  refine lv_iconst (v := 1) hx hb dX7_again_9 (by decide) ?_
  refine lv_aload_n hx hb dX7_again_10 rfl (lv_at hl 1 rfl) ?_
  refine gf_RX7_191 C hP dX7_again_11 ?_
  refine lv_ishl hx hb dX7_again_14 ?_
  refine lv_iconst (v := 1) hx hb dX7_again_15 (by decide) ?_
  refine lv_isub hx hb dX7_again_16 ?_
  refine pf_RX7_194 C hP hD hS dX7_again_17 (fun H locs hP hD hS => ?_)
  refine lv_iload_n hx hb dX7_again_20 rfl (lv_at hl 0 rfl) ?_
  obtain ⟨rfl, rfl⟩ := so2 h
  exact retI C hP hD hS dX7_again_21

def fM_parts_L5 (N : Nat) (σ : St) (v1 : Int32) (v2 : Int32) : Nat → Int32 → Int32 → Option Int32
  | 0, _, _ => none
  | n + 1, v3, v4 => (if 4 ≤ v4 then bz v3 (some v3) else bd1 (fM_leaves N σ v1 v2 v4) (fun r4 => (if v3 = 0 then (if r4 = 0 then fM_parts_L5 N σ v1 v2 n 0 (v4 + 1) else (if r4 = v1 then fM_parts_L5 N σ v1 v2 n 0 (v4 + 1) else fM_parts_L5 N σ v1 v2 n 1 (v4 + 1))) else fM_parts_L5 N σ v1 v2 n 1 (v4 + 1))))
set_option maxHeartbeats 4000000 in
set_option maxRecDepth 100000 in
theorem wM_parts_L5 {q : Nat → Nat} (C : Cx G p s m args meth c cX7_parts 6 (some .boolean) (Cond.code yX7_parts cX7_parts 6 (some .boolean)) RX7 A) (N : Nat) (σ : St) (v1 : Int32) (v2 : Int32) (r : Int32) : ∀ (n : Nat) (v3 : Int32) (v4 : Int32) (H : Heap) (locs : List Loc) (ls : Array Slot), fM_parts_L5 N σ v1 v2 n v3 v4 = some r → va_P G.1 vwCl (mW G q σ) H → va_D A (mW G q σ) → va_S A s.heap H locs → lv_has ls 6 [(0, .ref (q 0)), (1, .int v1), (2, .int v2), (3, .int v3), (4, .int v4)] → W p l e (rmD 1) s m args below meth c H locs 0 0 (QI G below args s A (mW G q σ) r) (F0 m 5 ls []) := by
  obtain ⟨hx, hb, hml, hown, hts, hK, hZ, hA, hlk, hr⟩ := id C
  intro n
  induction n with
  | zero =>
    intro v3 v4 H locs ls h
    cases h
  | succ n ih =>
    intro v3 v4 H locs ls h hP hD hS hl
    rw [fM_parts_L5.eq_2] at h
    refine lv_iload hx hb dX7_parts_5 (lv_at hl 4 rfl) ?_
    refine lv_iconst (v := 4) hx hb dX7_parts_7 (by decide) ?_
    refine lv_icmp_ge (tgt := 48) hx hb dX7_parts_8 (by decide) (fun c1 => ?_) (fun c1 => ?_)
    · replace h := ifp c1 h
      refine lv_iload_n hx hb dX7_parts_48 rfl (lv_at hl 3 rfl) ?_
      obtain ⟨b2, h⟩ := bz_some h
      obtain rfl := so1 h
      exact retZ C hP hD hS b2 dX7_parts_49
    · replace h := ifn c1 h
      refine lv_aload_n hx hb dX7_parts_11 rfl (lv_at hl 0 rfl) ?_
      refine lv_iload_n hx hb dX7_parts_12 rfl (lv_at hl 1 rfl) ?_
      refine lv_iload_n hx hb dX7_parts_13 rfl (lv_at hl 2 rfl) ?_
      refine lv_iload hx hb dX7_parts_14 (lv_at hl 4 rfl) ?_
      obtain ⟨r4, h3, h⟩ := bd1_some h
      refine goI C hD hS (runV (As := [.int v1, .int v2, .int v4]) (rest := []) (w := (mW G q σ)) C lc_RX7_203 (ctM_leaves N σ v1 v2 v4 r4 h3 _) hP hD hS (va_recv C.2.2.2.2.2.1 hP (ci := 7) (q0 := 0) rfl rfl) hl.1 rfl rfl (by decide) (by decide) (Nat.le_of_ble_eq_true rfl) dX7_parts_16) (fun H locs hP hD hS => ?_)
      refine lv_istore (lv' := [(5, .int r4), (0, .ref (q 0)), (1, .int v1), (2, .int v2), (3, .int v3), (4, .int v4)]) hx hb dX7_parts_19 hl (by decide) rfl (fun ls hl => ?_)
      refine lv_iload_n hx hb dX7_parts_21 rfl (lv_at hl 4 rfl) ?_
      refine lv_if_ne (tgt := 36) hx hb dX7_parts_22 (by decide) (fun c5 => ?_) (fun c5 => ?_)
      · replace h := ifn c5 h
        refine lv_iconst (v := 1) hx hb dX7_parts_36 (by decide) ?_
        refine lv_goto (tgt := 41) hx hb dX7_parts_37 (by decide) ?_
        refine lv_istore_n (lv' := [(3, .int 1), (5, .int r4), (0, .ref (q 0)), (1, .int v1), (2, .int v2), (4, .int v4)]) hx hb dX7_parts_41 rfl hl (by decide) rfl (fun ls hl => ?_)
        refine lv_iinc (v := (v4 + 1)) (lv' := [(4, .int (v4 + 1)), (3, .int 1), (5, .int r4), (0, .ref (q 0)), (1, .int v1), (2, .int v2)]) hx hb dX7_parts_42 hl (k := 5) rfl (by first | rfl | decide) (by decide) rfl (fun ls hl => ?_)
        refine lv_goto (tgt := 5) hx hb dX7_parts_45 (by decide) ?_
        exact ih 1 (v4 + 1) _ _ _ h hP hD hS (lv_sub hl [3, 4, 5, 1, 0] rfl)
      · replace h := ifp c5 h
        refine lv_iload hx hb dX7_parts_25 (lv_at hl 0 rfl) ?_
        refine lv_if_eq (tgt := 40) hx hb dX7_parts_27 (by decide) (fun c6 => ?_) (fun c6 => ?_)
        · replace h := ifp c6 h
          refine lv_iconst (v := 0) hx hb dX7_parts_40 (by decide) ?_
          refine lv_istore_n (lv' := [(3, .int 0), (5, .int r4), (0, .ref (q 0)), (1, .int v1), (2, .int v2), (4, .int v4)]) hx hb dX7_parts_41 rfl hl (by decide) rfl (fun ls hl => ?_)
          refine lv_iinc (v := (v4 + 1)) (lv' := [(4, .int (v4 + 1)), (3, .int 0), (5, .int r4), (0, .ref (q 0)), (1, .int v1), (2, .int v2)]) hx hb dX7_parts_42 hl (k := 5) rfl (by first | rfl | decide) (by decide) rfl (fun ls hl => ?_)
          refine lv_goto (tgt := 5) hx hb dX7_parts_45 (by decide) ?_
          exact ih 0 (v4 + 1) _ _ _ h hP hD hS (lv_sub hl [3, 4, 5, 1, 0] rfl)
        · replace h := ifn c6 h
          refine lv_iload hx hb dX7_parts_30 (lv_at hl 0 rfl) ?_
          refine lv_iload_n hx hb dX7_parts_32 rfl (lv_at hl 2 rfl) ?_
          refine lv_icmp_eq (tgt := 40) hx hb dX7_parts_33 (by decide) (fun c7 => ?_) (fun c7 => ?_)
          · replace h := ifp c7 h
            refine lv_iconst (v := 0) hx hb dX7_parts_40 (by decide) ?_
            refine lv_istore_n (lv' := [(3, .int 0), (5, .int r4), (0, .ref (q 0)), (1, .int v1), (2, .int v2), (4, .int v4)]) hx hb dX7_parts_41 rfl hl (by decide) rfl (fun ls hl => ?_)
            refine lv_iinc (v := (v4 + 1)) (lv' := [(4, .int (v4 + 1)), (3, .int 0), (5, .int r4), (0, .ref (q 0)), (1, .int v1), (2, .int v2)]) hx hb dX7_parts_42 hl (k := 5) rfl (by first | rfl | decide) (by decide) rfl (fun ls hl => ?_)
            refine lv_goto (tgt := 5) hx hb dX7_parts_45 (by decide) ?_
            exact ih 0 (v4 + 1) _ _ _ h hP hD hS (lv_sub hl [3, 4, 5, 1, 0] rfl)
          · replace h := ifn c7 h
            refine lv_iconst (v := 1) hx hb dX7_parts_36 (by decide) ?_
            refine lv_goto (tgt := 41) hx hb dX7_parts_37 (by decide) ?_
            refine lv_istore_n (lv' := [(3, .int 1), (5, .int r4), (0, .ref (q 0)), (1, .int v1), (2, .int v2), (4, .int v4)]) hx hb dX7_parts_41 rfl hl (by decide) rfl (fun ls hl => ?_)
            refine lv_iinc (v := (v4 + 1)) (lv' := [(4, .int (v4 + 1)), (3, .int 1), (5, .int r4), (0, .ref (q 0)), (1, .int v1), (2, .int v2)]) hx hb dX7_parts_42 hl (k := 5) rfl (by first | rfl | decide) (by decide) rfl (fun ls hl => ?_)
            refine lv_goto (tgt := 5) hx hb dX7_parts_45 (by decide) ?_
            exact ih 1 (v4 + 1) _ _ _ h hP hD hS (lv_sub hl [3, 4, 5, 1, 0] rfl)

def fM_parts (N : Nat) (σ : St) (a1 : Int32) (a2 : Int32) : Option Int32 :=
  fM_parts_L5 N σ a1 a2 N 0 0
set_option maxHeartbeats 4000000 in
set_option maxRecDepth 100000 in
theorem ctM_parts {G : GP} {l : Launch} {q : Nat → Nat} (N : Nat) (σ : St) (a1 : Int32) (a2 : Int32) (r : Int32) (h : fM_parts N σ a1 a2 = some r) : CI G l yX7_parts cX7_parts 6 (some .boolean) 1 [.ref (q 0), .int a1, .int a2] (mW G q σ) (mW G q σ) r := by
  refine enterI (own := RX7) (by decide) rfl (Nat.le_of_ble_eq_true rfl) ?_
  intro p e s m args below meth c A C hP hD hS ls hl
  obtain ⟨hx, hb, hml, hown, hts, hK, hZ, hA, hlk, hr⟩ := id C
  have hl : lv_has ls 6 [(0, .ref (q 0)), (1, .int a1), (2, .int a2)] := hl
  rw [fM_parts.eq_1] at h
  refine lv_iconst (v := 0) hx hb dX7_parts_0 (by decide) ?_
  refine lv_istore_n (lv' := [(3, .int 0), (0, .ref (q 0)), (1, .int a1), (2, .int a2)]) hx hb dX7_parts_1 rfl hl (by decide) rfl (fun ls hl => ?_)
  refine lv_iconst (v := 0) hx hb dX7_parts_2 (by decide) ?_
  refine lv_istore (lv' := [(4, .int 0), (3, .int 0), (0, .ref (q 0)), (1, .int a1), (2, .int a2)]) hx hb dX7_parts_3 hl (by decide) rfl (fun ls hl => ?_)
  exact wM_parts_L5 C N σ a1 a2 r N 0 0 _ _ _ h hP hD hS (lv_sub hl [2, 3, 4, 1, 0] rfl)

def fM_nextBest_L58 (N : Nat) (σ : St) (v1 : Int32) (v2 : Int32) (v3 : Int32) (v4 : Int32) (v5 : Int32) (v6 : Int32) : Nat → Int32 → Int32 → Option (Int32)
  | 0, _, _ => none
  | n + 1, v7, v8 => (if (σ.1 10) ≤ v8 then some v7 else (if ((v6 >>> (v8 &&& 31)) &&& 1) = 1 then gi v8 12 (fM_nextBest_L58 N σ v1 v2 v3 v4 v5 v6 n (v7 + (σ.2 9 v8.toNatClampNeg)) (v8 + 1)) else fM_nextBest_L58 N σ v1 v2 v3 v4 v5 v6 n (v7 + 0) (v8 + 1)))
set_option maxHeartbeats 4000000 in
set_option maxRecDepth 100000 in
theorem wM_nextBest_L58 {q : Nat → Nat} (C : Cx G p s m args meth c cX7_nextBest 9 (some .int) (Cond.code yX7_nextBest cX7_nextBest 9 (some .int)) RX7 A) (N : Nat) (σ : St) (v1 : Int32) (v2 : Int32) (v3 : Int32) (v4 : Int32) (v5 : Int32) (v6 : Int32) (v7' : Int32) (K : ∀ H locs ls, va_P G.1 vwCl (mW G q σ) H → va_D A (mW G q σ) → va_S A s.heap H locs → lv_has ls 9 [(0, .ref (q 0)), (1, .int v1), (2, .int v2), (3, .int v3), (4, .int v4), (5, .int v5), (7, .int (v7'))] → W p l e (rmD 2) s m args below meth c H locs 0 0 Q (F0 m 100 ls [])) : ∀ (n : Nat) (v7 : Int32) (v8 : Int32) (H : Heap) (locs : List Loc) (ls : Array Slot), fM_nextBest_L58 N σ v1 v2 v3 v4 v5 v6 n v7 v8 = some v7' → va_P G.1 vwCl (mW G q σ) H → va_D A (mW G q σ) → va_S A s.heap H locs → lv_has ls 9 [(0, .ref (q 0)), (1, .int v1), (2, .int v2), (3, .int v3), (4, .int v4), (5, .int v5), (6, .int v6), (7, .int v7), (8, .int v8)] → W p l e (rmD 2) s m args below meth c H locs 0 0 Q (F0 m 58 ls []) := by
  obtain ⟨hx, hb, hml, hown, hts, hK, hZ, hA, hlk, hr⟩ := id C
  intro n
  induction n with
  | zero =>
    intro v7 v8 H locs ls h
    cases h
  | succ n ih =>
    intro v7 v8 H locs ls h hP hD hS hl
    rw [fM_nextBest_L58.eq_2] at h
    refine lv_iload hx hb dX7_nextBest_58 (lv_at hl 8 rfl) ?_
    refine lv_aload_n hx hb dX7_nextBest_60 rfl (lv_at hl 0 rfl) ?_
    refine gf_RX7_191 C hP dX7_nextBest_61 ?_
    refine lv_icmp_ge (tgt := 100) hx hb dX7_nextBest_64 (by decide) (fun c8 => ?_) (fun c8 => ?_)
    · replace h := ifp c8 h
      obtain rfl := so1 h
      exact K _ _ _ hP hD hS (lv_sub hl [0, 1, 2, 3, 4, 5, 7] rfl)
    · replace h := ifn c8 h
      refine lv_iload hx hb dX7_nextBest_67 (lv_at hl 7 rfl) ?_
      refine lv_iload hx hb dX7_nextBest_69 (lv_at hl 6 rfl) ?_
      refine lv_iload hx hb dX7_nextBest_71 (lv_at hl 8 rfl) ?_
      refine lv_ishr hx hb dX7_nextBest_73 ?_
      refine lv_iconst (v := 1) hx hb dX7_nextBest_74 (by decide) ?_
      refine lv_iand hx hb dX7_nextBest_75 ?_
      refine lv_iconst (v := 1) hx hb dX7_nextBest_76 (by decide) ?_
      refine lv_icmp_ne (tgt := 90) hx hb dX7_nextBest_77 (by decide) (fun c9 => ?_) (fun c9 => ?_)
      · replace h := ifn c9 h
        refine lv_iconst (v := 0) hx hb dX7_nextBest_90 (by decide) ?_
        refine lv_iadd hx hb dX7_nextBest_91 ?_
        refine lv_istore (lv' := [(7, .int (v7 + 0)), (0, .ref (q 0)), (1, .int v1), (2, .int v2), (3, .int v3), (4, .int v4), (5, .int v5), (6, .int v6), (8, .int v8)]) hx hb dX7_nextBest_92 hl (by decide) rfl (fun ls hl => ?_)
        refine lv_iinc (v := (v8 + 1)) (lv' := [(8, .int (v8 + 1)), (7, .int (v7 + 0)), (0, .ref (q 0)), (1, .int v1), (2, .int v2), (3, .int v3), (4, .int v4), (5, .int v5), (6, .int v6)]) hx hb dX7_nextBest_94 hl (k := 8) rfl (by first | rfl | decide) (by decide) rfl (fun ls hl => ?_)
        refine lv_goto (tgt := 58) hx hb dX7_nextBest_97 (by decide) ?_
        exact ih (v7 + 0) (v8 + 1) _ _ _ h hP hD hS (lv_sub hl [2, 3, 4, 5, 6, 7, 8, 1, 0] rfl)
      · replace h := ifp c9 h
        refine lv_aload_n hx hb dX7_nextBest_80 rfl (lv_at hl 0 rfl) ?_
        refine gf_RX7_56 C hP dX7_nextBest_81 ?_
        refine lv_iload hx hb dX7_nextBest_84 (lv_at hl 8 rfl) ?_
        obtain ⟨i10, h⟩ := gi_some h
        refine ldM_9 C hP i10 dX7_nextBest_86 ?_
        refine lv_goto (tgt := 91) hx hb dX7_nextBest_87 (by decide) ?_
        refine lv_iadd hx hb dX7_nextBest_91 ?_
        refine lv_istore (lv' := [(7, .int (v7 + (σ.2 9 v8.toNatClampNeg))), (0, .ref (q 0)), (1, .int v1), (2, .int v2), (3, .int v3), (4, .int v4), (5, .int v5), (6, .int v6), (8, .int v8)]) hx hb dX7_nextBest_92 hl (by decide) rfl (fun ls hl => ?_)
        refine lv_iinc (v := (v8 + 1)) (lv' := [(8, .int (v8 + 1)), (7, .int (v7 + (σ.2 9 v8.toNatClampNeg))), (0, .ref (q 0)), (1, .int v1), (2, .int v2), (3, .int v3), (4, .int v4), (5, .int v5), (6, .int v6)]) hx hb dX7_nextBest_94 hl (k := 8) rfl (by first | rfl | decide) (by decide) rfl (fun ls hl => ?_)
        refine lv_goto (tgt := 58) hx hb dX7_nextBest_97 (by decide) ?_
        exact ih (v7 + (σ.2 9 v8.toNatClampNeg)) (v8 + 1) _ _ _ h hP hD hS (lv_sub hl [2, 3, 4, 5, 6, 7, 8, 1, 0] rfl)

def fM_nextBest_L33 (N : Nat) (σ : St) (v1 : Int32) (v2 : Int32) (v3 : Int32) : Nat → Int32 → Int32 → Option (Int32)
  | 0, _, _ => none
  | n + 1, v4, v5 => (if 4 ≤ v5 then some v4 else bd1 (fM_leaves N σ (σ.1 12) v3 v5) (fun r7 => bd1 (fM_nextBest_L58 N σ v1 v2 v3 v4 v5 r7 N 0 0) (fun y11 => (if y11 ≤ v4 then fM_nextBest_L33 N σ v1 v2 v3 n v4 (v5 + 1) else fM_nextBest_L33 N σ v1 v2 v3 n y11 (v5 + 1)))))
set_option maxHeartbeats 4000000 in
set_option maxRecDepth 100000 in
theorem wM_nextBest_L33 {q : Nat → Nat} (C : Cx G p s m args meth c cX7_nextBest 9 (some .int) (Cond.code yX7_nextBest cX7_nextBest 9 (some .int)) RX7 A) (N : Nat) (σ : St) (v1 : Int32) (v2 : Int32) (v3 : Int32) (v4' : Int32) (K : ∀ H locs ls, va_P G.1 vwCl (mW G q σ) H → va_D A (mW G q σ) → va_S A s.heap H locs → lv_has ls 9 [(0, .ref (q 0)), (1, .int v1), (2, .int v2), (3, .int v3), (4, .int (v4'))] → W p l e (rmD 2) s m args below meth c H locs 0 0 Q (F0 m 122 ls [])) : ∀ (n : Nat) (v4 : Int32) (v5 : Int32) (H : Heap) (locs : List Loc) (ls : Array Slot), fM_nextBest_L33 N σ v1 v2 v3 n v4 v5 = some v4' → va_P G.1 vwCl (mW G q σ) H → va_D A (mW G q σ) → va_S A s.heap H locs → lv_has ls 9 [(0, .ref (q 0)), (1, .int v1), (2, .int v2), (3, .int v3), (4, .int v4), (5, .int v5)] → W p l e (rmD 2) s m args below meth c H locs 0 0 Q (F0 m 33 ls []) := by
  obtain ⟨hx, hb, hml, hown, hts, hK, hZ, hA, hlk, hr⟩ := id C
  intro n
  induction n with
  | zero =>
    intro v4 v5 H locs ls h
    cases h
  | succ n ih =>
    intro v4 v5 H locs ls h hP hD hS hl
    rw [fM_nextBest_L33.eq_2] at h
    refine lv_iload hx hb dX7_nextBest_33 (lv_at hl 5 rfl) ?_
    refine lv_iconst (v := 4) hx hb dX7_nextBest_35 (by decide) ?_
    refine lv_icmp_ge (tgt := 122) hx hb dX7_nextBest_36 (by decide) (fun c5 => ?_) (fun c5 => ?_)
    · replace h := ifp c5 h
      obtain rfl := so1 h
      exact K _ _ _ hP hD hS (lv_sub hl [0, 1, 2, 3, 4] rfl)
    · replace h := ifn c5 h
      refine lv_aload_n hx hb dX7_nextBest_39 rfl (lv_at hl 0 rfl) ?_
      refine lv_aload_n hx hb dX7_nextBest_40 rfl (lv_at hl 0 rfl) ?_
      refine gf_RX7_194 C hP dX7_nextBest_41 ?_
      refine lv_iload_n hx hb dX7_nextBest_44 rfl (lv_at hl 3 rfl) ?_
      refine lv_iload hx hb dX7_nextBest_45 (lv_at hl 5 rfl) ?_
      obtain ⟨r7, h6, h⟩ := bd1_some h
      refine goI C hD hS (runV (As := [.int (σ.1 12), .int v3, .int v5]) (rest := []) (w := (mW G q σ)) C lc_RX7_203 (ctM_leaves N σ (σ.1 12) v3 v5 r7 h6 _) hP hD hS (va_recv C.2.2.2.2.2.1 hP (ci := 7) (q0 := 0) rfl rfl) hl.1 rfl rfl (by decide) (by decide) (Nat.le_of_ble_eq_true rfl) dX7_nextBest_47) (fun H locs hP hD hS => ?_)
      refine lv_istore (lv' := [(6, .int r7), (0, .ref (q 0)), (1, .int v1), (2, .int v2), (3, .int v3), (4, .int v4), (5, .int v5)]) hx hb dX7_nextBest_50 hl (by decide) rfl (fun ls hl => ?_)
      refine lv_iconst (v := 0) hx hb dX7_nextBest_52 (by decide) ?_
      refine lv_istore (lv' := [(7, .int 0), (6, .int r7), (0, .ref (q 0)), (1, .int v1), (2, .int v2), (3, .int v3), (4, .int v4), (5, .int v5)]) hx hb dX7_nextBest_53 hl (by decide) rfl (fun ls hl => ?_)
      refine lv_iconst (v := 0) hx hb dX7_nextBest_55 (by decide) ?_
      refine lv_istore (lv' := [(8, .int 0), (7, .int 0), (6, .int r7), (0, .ref (q 0)), (1, .int v1), (2, .int v2), (3, .int v3), (4, .int v4), (5, .int v5)]) hx hb dX7_nextBest_56 hl (by decide) rfl (fun ls hl => ?_)
      obtain ⟨y11, h12, h⟩ := bd1_some h
      refine wM_nextBest_L58 C N σ v1 v2 v3 v4 v5 r7 y11 (fun H locs ls hP hD hS hl => ?_) N 0 0 _ _ _ h12 hP hD hS (lv_sub hl [3, 4, 5, 6, 7, 8, 2, 1, 0] rfl)
      refine lv_iload hx hb dX7_nextBest_100 (lv_at hl 6 rfl) ?_
      refine lv_iload hx hb dX7_nextBest_102 (lv_at hl 4 rfl) ?_
      refine lv_icmp_le (tgt := 112) hx hb dX7_nextBest_104 (by decide) (fun c13 => ?_) (fun c13 => ?_)
      · replace h := ifp c13 h
        refine lv_iload hx hb dX7_nextBest_112 (lv_at hl 4 rfl) ?_
        refine lv_istore (lv' := [(4, .int v4), (0, .ref (q 0)), (1, .int v1), (2, .int v2), (3, .int v3), (5, .int v5), (7, .int y11)]) hx hb dX7_nextBest_114 hl (by decide) rfl (fun ls hl => ?_)
        refine lv_iinc (v := (v5 + 1)) (lv' := [(5, .int (v5 + 1)), (4, .int v4), (0, .ref (q 0)), (1, .int v1), (2, .int v2), (3, .int v3), (7, .int y11)]) hx hb dX7_nextBest_116 hl (k := 5) rfl (by first | rfl | decide) (by decide) rfl (fun ls hl => ?_)
        refine lv_goto (tgt := 33) hx hb dX7_nextBest_119 (by decide) ?_
        exact ih v4 (v5 + 1) _ _ _ h hP hD hS (lv_sub hl [2, 3, 4, 5, 1, 0] rfl)
      · replace h := ifn c13 h
        refine lv_iload hx hb dX7_nextBest_107 (lv_at hl 6 rfl) ?_
        refine lv_goto (tgt := 114) hx hb dX7_nextBest_109 (by decide) ?_
        refine lv_istore (lv' := [(4, .int y11), (0, .ref (q 0)), (1, .int v1), (2, .int v2), (3, .int v3), (5, .int v5), (7, .int y11)]) hx hb dX7_nextBest_114 hl (by decide) rfl (fun ls hl => ?_)
        refine lv_iinc (v := (v5 + 1)) (lv' := [(5, .int (v5 + 1)), (4, .int y11), (0, .ref (q 0)), (1, .int v1), (2, .int v2), (3, .int v3), (7, .int y11)]) hx hb dX7_nextBest_116 hl (k := 5) rfl (by first | rfl | decide) (by decide) rfl (fun ls hl => ?_)
        refine lv_goto (tgt := 33) hx hb dX7_nextBest_119 (by decide) ?_
        exact ih y11 (v5 + 1) _ _ _ h hP hD hS (lv_sub hl [2, 3, 4, 5, 1, 0] rfl)

def fM_nextBest_L7 (N : Nat) (σ : St) : Nat → Int32 → Int32 → Int32 → Option Int32
  | 0, _, _, _ => none
  | n + 1, v1, v2, v3 => (if (σ.1 11) ≤ v3 then some v1 else bd1 (fM_parts N σ (σ.1 12) v3) (fun r3 => (if r3 = 0 then fM_nextBest_L7 N σ n v1 v2 (v3 + 1) else bd1 (fM_nextBest_L33 N σ v1 v2 v3 N 0 0) (fun y14 => (if v1 < 0 then fM_nextBest_L7 N σ n v3 y14 (v3 + 1) else (if y14 < v2 then fM_nextBest_L7 N σ n v3 y14 (v3 + 1) else (if y14 = v2 then gi v3 12 (gi v1 12 ((if (σ.2 10 v1.toNatClampNeg) ≤ (σ.2 10 v3.toNatClampNeg) then fM_nextBest_L7 N σ n v1 v2 (v3 + 1) else fM_nextBest_L7 N σ n v3 y14 (v3 + 1)))) else fM_nextBest_L7 N σ n v1 v2 (v3 + 1))))))))
set_option maxHeartbeats 4000000 in
set_option maxRecDepth 100000 in
theorem wM_nextBest_L7 {q : Nat → Nat} (C : Cx G p s m args meth c cX7_nextBest 9 (some .int) (Cond.code yX7_nextBest cX7_nextBest 9 (some .int)) RX7 A) (N : Nat) (σ : St) (r : Int32) : ∀ (n : Nat) (v1 : Int32) (v2 : Int32) (v3 : Int32) (H : Heap) (locs : List Loc) (ls : Array Slot), fM_nextBest_L7 N σ n v1 v2 v3 = some r → va_P G.1 vwCl (mW G q σ) H → va_D A (mW G q σ) → va_S A s.heap H locs → lv_has ls 9 [(0, .ref (q 0)), (1, .int v1), (2, .int v2), (3, .int v3)] → W p l e (rmD 2) s m args below meth c H locs 0 0 (QI G below args s A (mW G q σ) r) (F0 m 7 ls []) := by
  obtain ⟨hx, hb, hml, hown, hts, hK, hZ, hA, hlk, hr⟩ := id C
  intro n
  induction n with
  | zero =>
    intro v1 v2 v3 H locs ls h
    cases h
  | succ n ih =>
    intro v1 v2 v3 H locs ls h hP hD hS hl
    rw [fM_nextBest_L7.eq_2] at h
    refine lv_iload_n hx hb dX7_nextBest_7 rfl (lv_at hl 3 rfl) ?_
    refine lv_aload_n hx hb dX7_nextBest_8 rfl (lv_at hl 0 rfl) ?_
    refine gf_RX7_197 C hP dX7_nextBest_9 ?_
    refine lv_icmp_ge (tgt := 164) hx hb dX7_nextBest_12 (by decide) (fun c1 => ?_) (fun c1 => ?_)
    · replace h := ifp c1 h
      refine lv_iload_n hx hb dX7_nextBest_164 rfl (lv_at hl 1 rfl) ?_
      obtain rfl := so1 h
      exact retI C hP hD hS dX7_nextBest_165
    · replace h := ifn c1 h
      refine lv_aload_n hx hb dX7_nextBest_15 rfl (lv_at hl 0 rfl) ?_
      refine lv_aload_n hx hb dX7_nextBest_16 rfl (lv_at hl 0 rfl) ?_
      refine gf_RX7_194 C hP dX7_nextBest_17 ?_
      refine lv_iload_n hx hb dX7_nextBest_20 rfl (lv_at hl 3 rfl) ?_
      obtain ⟨r3, h2, h⟩ := bd1_some h
      refine goI C hD hS (runV (As := [.int (σ.1 12), .int v3]) (rest := []) (w := (mW G q σ)) C lc_RX7_209 (ctM_parts N σ (σ.1 12) v3 r3 h2 _) hP hD hS (va_recv C.2.2.2.2.2.1 hP (ci := 7) (q0 := 0) rfl rfl) hl.1 rfl rfl (by decide) (by decide) (Nat.le_of_ble_eq_true rfl) dX7_nextBest_21) (fun H locs hP hD hS => ?_)
      refine lv_if_eq (tgt := 158) hx hb dX7_nextBest_24 (by decide) (fun c4 => ?_) (fun c4 => ?_)
      · replace h := ifp c4 h
        refine lv_iinc (v := (v3 + 1)) (lv' := [(3, .int (v3 + 1)), (0, .ref (q 0)), (1, .int v1), (2, .int v2)]) hx hb dX7_nextBest_158 hl (k := 3) rfl (by first | rfl | decide) (by decide) rfl (fun ls hl => ?_)
        refine lv_goto (tgt := 7) hx hb dX7_nextBest_161 (by decide) ?_
        exact ih v1 v2 (v3 + 1) _ _ _ h hP hD hS (lv_sub hl [1, 2, 3, 0] rfl)
      · replace h := ifn c4 h
        refine lv_iconst (v := 0) hx hb dX7_nextBest_27 (by decide) ?_
        refine lv_istore (lv' := [(4, .int 0), (0, .ref (q 0)), (1, .int v1), (2, .int v2), (3, .int v3)]) hx hb dX7_nextBest_28 hl (by decide) rfl (fun ls hl => ?_)
        refine lv_iconst (v := 0) hx hb dX7_nextBest_30 (by decide) ?_
        refine lv_istore (lv' := [(5, .int 0), (4, .int 0), (0, .ref (q 0)), (1, .int v1), (2, .int v2), (3, .int v3)]) hx hb dX7_nextBest_31 hl (by decide) rfl (fun ls hl => ?_)
        obtain ⟨y14, h15, h⟩ := bd1_some h
        refine wM_nextBest_L33 C N σ v1 v2 v3 y14 (fun H locs ls hP hD hS hl => ?_) N 0 0 _ _ _ h15 hP hD hS (lv_sub hl [2, 3, 4, 5, 1, 0] rfl)
        refine lv_iload_n hx hb dX7_nextBest_122 rfl (lv_at hl 1 rfl) ?_
        refine lv_if_lt (tgt := 153) hx hb dX7_nextBest_123 (by decide) (fun c16 => ?_) (fun c16 => ?_)
        · replace h := ifp c16 h
          refine lv_iload_n hx hb dX7_nextBest_153 rfl (lv_at hl 3 rfl) ?_
          refine lv_istore_n (lv' := [(1, .int v3), (0, .ref (q 0)), (2, .int v2), (3, .int v3), (4, .int y14)]) hx hb dX7_nextBest_154 rfl hl (by decide) rfl (fun ls hl => ?_)
          refine lv_iload hx hb dX7_nextBest_155 (lv_at hl 4 rfl) ?_
          refine lv_istore_n (lv' := [(2, .int y14), (1, .int v3), (0, .ref (q 0)), (3, .int v3), (4, .int y14)]) hx hb dX7_nextBest_157 rfl hl (by decide) rfl (fun ls hl => ?_)
          refine lv_iinc (v := (v3 + 1)) (lv' := [(3, .int (v3 + 1)), (2, .int y14), (1, .int v3), (0, .ref (q 0)), (4, .int y14)]) hx hb dX7_nextBest_158 hl (k := 3) rfl (by first | rfl | decide) (by decide) rfl (fun ls hl => ?_)
          refine lv_goto (tgt := 7) hx hb dX7_nextBest_161 (by decide) ?_
          exact ih v3 y14 (v3 + 1) _ _ _ h hP hD hS (lv_sub hl [3, 2, 1, 0] rfl)
        · replace h := ifn c16 h
          refine lv_iload hx hb dX7_nextBest_126 (lv_at hl 4 rfl) ?_
          refine lv_iload_n hx hb dX7_nextBest_128 rfl (lv_at hl 2 rfl) ?_
          refine lv_icmp_lt (tgt := 153) hx hb dX7_nextBest_129 (by decide) (fun c17 => ?_) (fun c17 => ?_)
          · replace h := ifp c17 h
            refine lv_iload_n hx hb dX7_nextBest_153 rfl (lv_at hl 3 rfl) ?_
            refine lv_istore_n (lv' := [(1, .int v3), (0, .ref (q 0)), (2, .int v2), (3, .int v3), (4, .int y14)]) hx hb dX7_nextBest_154 rfl hl (by decide) rfl (fun ls hl => ?_)
            refine lv_iload hx hb dX7_nextBest_155 (lv_at hl 4 rfl) ?_
            refine lv_istore_n (lv' := [(2, .int y14), (1, .int v3), (0, .ref (q 0)), (3, .int v3), (4, .int y14)]) hx hb dX7_nextBest_157 rfl hl (by decide) rfl (fun ls hl => ?_)
            refine lv_iinc (v := (v3 + 1)) (lv' := [(3, .int (v3 + 1)), (2, .int y14), (1, .int v3), (0, .ref (q 0)), (4, .int y14)]) hx hb dX7_nextBest_158 hl (k := 3) rfl (by first | rfl | decide) (by decide) rfl (fun ls hl => ?_)
            refine lv_goto (tgt := 7) hx hb dX7_nextBest_161 (by decide) ?_
            exact ih v3 y14 (v3 + 1) _ _ _ h hP hD hS (lv_sub hl [3, 2, 1, 0] rfl)
          · replace h := ifn c17 h
            refine lv_iload hx hb dX7_nextBest_132 (lv_at hl 4 rfl) ?_
            refine lv_iload_n hx hb dX7_nextBest_134 rfl (lv_at hl 2 rfl) ?_
            refine lv_icmp_ne (tgt := 158) hx hb dX7_nextBest_135 (by decide) (fun c18 => ?_) (fun c18 => ?_)
            · replace h := ifn c18 h
              refine lv_iinc (v := (v3 + 1)) (lv' := [(3, .int (v3 + 1)), (0, .ref (q 0)), (1, .int v1), (2, .int v2), (4, .int y14)]) hx hb dX7_nextBest_158 hl (k := 3) rfl (by first | rfl | decide) (by decide) rfl (fun ls hl => ?_)
              refine lv_goto (tgt := 7) hx hb dX7_nextBest_161 (by decide) ?_
              exact ih v1 v2 (v3 + 1) _ _ _ h hP hD hS (lv_sub hl [1, 2, 3, 0] rfl)
            · replace h := ifp c18 h
              refine lv_aload_n hx hb dX7_nextBest_138 rfl (lv_at hl 0 rfl) ?_
              refine gf_RX7_59 C hP dX7_nextBest_139 ?_
              refine lv_iload_n hx hb dX7_nextBest_142 rfl (lv_at hl 3 rfl) ?_
              obtain ⟨i19, h⟩ := gi_some h
              refine ldM_10 C hP i19 dX7_nextBest_143 ?_
              refine lv_aload_n hx hb dX7_nextBest_144 rfl (lv_at hl 0 rfl) ?_
              refine gf_RX7_59 C hP dX7_nextBest_145 ?_
              refine lv_iload_n hx hb dX7_nextBest_148 rfl (lv_at hl 1 rfl) ?_
              obtain ⟨i20, h⟩ := gi_some h
              refine ldM_10 C hP i20 dX7_nextBest_149 ?_
              refine lv_icmp_ge (tgt := 158) hx hb dX7_nextBest_150 (by decide) (fun c21 => ?_) (fun c21 => ?_)
              · replace h := ifp c21 h
                refine lv_iinc (v := (v3 + 1)) (lv' := [(3, .int (v3 + 1)), (0, .ref (q 0)), (1, .int v1), (2, .int v2), (4, .int y14)]) hx hb dX7_nextBest_158 hl (k := 3) rfl (by first | rfl | decide) (by decide) rfl (fun ls hl => ?_)
                refine lv_goto (tgt := 7) hx hb dX7_nextBest_161 (by decide) ?_
                exact ih v1 v2 (v3 + 1) _ _ _ h hP hD hS (lv_sub hl [1, 2, 3, 0] rfl)
              · replace h := ifn c21 h
                refine lv_iload_n hx hb dX7_nextBest_153 rfl (lv_at hl 3 rfl) ?_
                refine lv_istore_n (lv' := [(1, .int v3), (0, .ref (q 0)), (2, .int v2), (3, .int v3), (4, .int y14)]) hx hb dX7_nextBest_154 rfl hl (by decide) rfl (fun ls hl => ?_)
                refine lv_iload hx hb dX7_nextBest_155 (lv_at hl 4 rfl) ?_
                refine lv_istore_n (lv' := [(2, .int y14), (1, .int v3), (0, .ref (q 0)), (3, .int v3), (4, .int y14)]) hx hb dX7_nextBest_157 rfl hl (by decide) rfl (fun ls hl => ?_)
                refine lv_iinc (v := (v3 + 1)) (lv' := [(3, .int (v3 + 1)), (2, .int y14), (1, .int v3), (0, .ref (q 0)), (4, .int y14)]) hx hb dX7_nextBest_158 hl (k := 3) rfl (by first | rfl | decide) (by decide) rfl (fun ls hl => ?_)
                refine lv_goto (tgt := 7) hx hb dX7_nextBest_161 (by decide) ?_
                exact ih v3 y14 (v3 + 1) _ _ _ h hP hD hS (lv_sub hl [3, 2, 1, 0] rfl)

def fM_nextBest (N : Nat) (σ : St) : Option Int32 :=
  fM_nextBest_L7 N σ N (-4) 0 0
set_option maxHeartbeats 4000000 in
set_option maxRecDepth 100000 in
theorem ctM_nextBest {G : GP} {l : Launch} {q : Nat → Nat} (N : Nat) (σ : St) (r : Int32) (h : fM_nextBest N σ = some r) : CI G l yX7_nextBest cX7_nextBest 9 (some .int) 2 [.ref (q 0)] (mW G q σ) (mW G q σ) r := by
  refine enterI (own := RX7) (by decide) rfl (Nat.le_of_ble_eq_true rfl) ?_
  intro p e s m args below meth c A C hP hD hS ls hl
  obtain ⟨hx, hb, hml, hown, hts, hK, hZ, hA, hlk, hr⟩ := id C
  have hl : lv_has ls 9 [(0, .ref (q 0))] := hl
  rw [fM_nextBest.eq_1] at h
  refine lv_bipush (v := (-4)) hx hb dX7_nextBest_0 (by decide) ?_
  refine lv_istore_n (lv' := [(1, .int (-4)), (0, .ref (q 0))]) hx hb dX7_nextBest_2 rfl hl (by decide) rfl (fun ls hl => ?_)
  refine lv_iconst (v := 0) hx hb dX7_nextBest_3 (by decide) ?_
  refine lv_istore_n (lv' := [(2, .int 0), (1, .int (-4)), (0, .ref (q 0))]) hx hb dX7_nextBest_4 rfl hl (by decide) rfl (fun ls hl => ?_)
  refine lv_iconst (v := 0) hx hb dX7_nextBest_5 (by decide) ?_
  refine lv_istore_n (lv' := [(3, .int 0), (2, .int 0), (1, .int (-4)), (0, .ref (q 0))]) hx hb dX7_nextBest_6 rfl hl (by decide) rfl (fun ls hl => ?_)
  exact wM_nextBest_L7 C N σ r N (-4) 0 0 _ _ _ h hP hD hS (lv_sub hl [3, 2, 1, 0] rfl)

def fM_count_L4 (N : Nat) (v1 : Int32) : Nat → Int32 → Int32 → St → Option (Int32 × St)
  | 0, _, _, _ => none
  | n + 1, v2, v3, σ => (if (σ.1 0) ≤ v3 then (if v1 = 0 then some ((σ.1 0), σ) else if v1 = 1 then some (v2, σ) else if v1 = 2 then some ((σ.1 7), σ) else if v1 = 3 then some ((σ.1 8), σ) else if v1 = 4 then some ((σ.1 9), σ) else if v1 = 5 then some ((σ.1 10), σ) else if v1 = 6 then some ((σ.1 11), σ) else some ((-1), σ)) else bd2 (fM_goSpurs N σ v3 (σ.1 1) (-1)) (fun r11 σ10 => fM_count_L4 N v1 n (v2 + r11) (v3 + 1) σ10))
set_option maxHeartbeats 4000000 in
set_option maxRecDepth 100000 in
theorem wM_count_L4 {q : Nat → Nat} (C : Cx G p s m args meth c cX7_count 4 (some .int) (Cond.code yX7_count cX7_count 4 (some .int)) RX7 A) (N : Nat) (v1 : Int32) (r : Int32) (σ' : St) : ∀ (n : Nat) (v2 : Int32) (v3 : Int32) (σ : St) (H : Heap) (locs : List Loc) (ls : Array Slot), fM_count_L4 N v1 n v2 v3 σ = some (r, σ') → va_P G.1 vwCl (mW G q σ) H → va_D A (mW G q σ) → va_S A s.heap H locs → lv_has ls 4 [(0, .ref (q 0)), (1, .int v1), (2, .int v2), (3, .int v3)] → W p l e (rmD 3) s m args below meth c H locs 0 0 (QI G below args s A (mW G q (σ')) r) (F0 m 4 ls []) := by
  obtain ⟨hx, hb, hml, hown, hts, hK, hZ, hA, hlk, hr⟩ := id C
  intro n
  induction n with
  | zero =>
    intro v2 v3 σ H locs ls h
    cases h
  | succ n ih =>
    intro v2 v3 σ H locs ls h hP hD hS hl
    rw [fM_count_L4.eq_2] at h
    refine lv_iload_n hx hb dX7_count_4 rfl (lv_at hl 3 rfl) ?_
    refine lv_aload_n hx hb dX7_count_5 rfl (lv_at hl 0 rfl) ?_
    refine gf_RX7_72 C hP dX7_count_6 ?_
    refine lv_icmp_ge (tgt := 31) hx hb dX7_count_9 (by decide) (fun c1 => ?_) (fun c1 => ?_)
    · replace h := ifp c1 h
      refine lv_iload_n hx hb dX7_count_31 rfl (lv_at hl 1 rfl) ?_
      by_cases c2 : v1 = 0
      · replace h := ifp c2 h
        refine lv_tableIn (off := 44) (tgt := 76) hx hb dX7_count_32 (by rw [c2]; decide) (by rw [c2]; decide) (by rw [c2]; rfl) (by decide) ?_
        refine lv_aload_n hx hb dX7_count_76 rfl (lv_at hl 0 rfl) ?_
        refine gf_RX7_72 C hP dX7_count_77 ?_
        obtain ⟨rfl, rfl⟩ := so2 h
        exact retI C hP hD hS dX7_count_80
      · replace h := ifn c2 h
        by_cases c3 : v1 = 1
        · replace h := ifp c3 h
          refine lv_tableIn (off := 49) (tgt := 81) hx hb dX7_count_32 (by rw [c3]; decide) (by rw [c3]; decide) (by rw [c3]; rfl) (by decide) ?_
          refine lv_iload_n hx hb dX7_count_81 rfl (lv_at hl 2 rfl) ?_
          obtain ⟨rfl, rfl⟩ := so2 h
          exact retI C hP hD hS dX7_count_82
        · replace h := ifn c3 h
          by_cases c4 : v1 = 2
          · replace h := ifp c4 h
            refine lv_tableIn (off := 51) (tgt := 83) hx hb dX7_count_32 (by rw [c4]; decide) (by rw [c4]; decide) (by rw [c4]; rfl) (by decide) ?_
            refine lv_aload_n hx hb dX7_count_83 rfl (lv_at hl 0 rfl) ?_
            refine gf_RX7_162 C hP dX7_count_84 ?_
            obtain ⟨rfl, rfl⟩ := so2 h
            exact retI C hP hD hS dX7_count_87
          · replace h := ifn c4 h
            by_cases c5 : v1 = 3
            · replace h := ifp c5 h
              refine lv_tableIn (off := 56) (tgt := 88) hx hb dX7_count_32 (by rw [c5]; decide) (by rw [c5]; decide) (by rw [c5]; rfl) (by decide) ?_
              refine lv_aload_n hx hb dX7_count_88 rfl (lv_at hl 0 rfl) ?_
              refine gf_RX7_170 C hP dX7_count_89 ?_
              obtain ⟨rfl, rfl⟩ := so2 h
              exact retI C hP hD hS dX7_count_92
            · replace h := ifn c5 h
              by_cases c6 : v1 = 4
              · replace h := ifp c6 h
                refine lv_tableIn (off := 61) (tgt := 93) hx hb dX7_count_32 (by rw [c6]; decide) (by rw [c6]; decide) (by rw [c6]; rfl) (by decide) ?_
                refine lv_aload_n hx hb dX7_count_93 rfl (lv_at hl 0 rfl) ?_
                refine gf_RX7_182 C hP dX7_count_94 ?_
                obtain ⟨rfl, rfl⟩ := so2 h
                exact retI C hP hD hS dX7_count_97
              · replace h := ifn c6 h
                by_cases c7 : v1 = 5
                · replace h := ifp c7 h
                  refine lv_tableIn (off := 66) (tgt := 98) hx hb dX7_count_32 (by rw [c7]; decide) (by rw [c7]; decide) (by rw [c7]; rfl) (by decide) ?_
                  refine lv_aload_n hx hb dX7_count_98 rfl (lv_at hl 0 rfl) ?_
                  refine gf_RX7_191 C hP dX7_count_99 ?_
                  obtain ⟨rfl, rfl⟩ := so2 h
                  exact retI C hP hD hS dX7_count_102
                · replace h := ifn c7 h
                  by_cases c8 : v1 = 6
                  · replace h := ifp c8 h
                    refine lv_tableIn (off := 71) (tgt := 103) hx hb dX7_count_32 (by rw [c8]; decide) (by rw [c8]; decide) (by rw [c8]; rfl) (by decide) ?_
                    refine lv_aload_n hx hb dX7_count_103 rfl (lv_at hl 0 rfl) ?_
                    refine gf_RX7_197 C hP dX7_count_104 ?_
                    obtain ⟨rfl, rfl⟩ := so2 h
                    exact retI C hP hD hS dX7_count_107
                  · replace h := ifn c8 h
                    refine lv_tableOut (tgt := 108) hx hb dX7_count_32 (sw_out 6 (by decide) (fun k hk => by rcases (show k = 0 ∨ k = 1 ∨ k = 2 ∨ k = 3 ∨ k = 4 ∨ k = 5 ∨ k = 6 by omega) with rfl | rfl | rfl | rfl | rfl | rfl | rfl <;> assumption)) (by decide) ?_
                    refine lv_iconst (v := (-1)) hx hb dX7_count_108 (by decide) ?_
                    obtain ⟨rfl, rfl⟩ := so2 h
                    exact retI C hP hD hS dX7_count_109
    · replace h := ifn c1 h
      refine lv_iload_n hx hb dX7_count_12 rfl (lv_at hl 2 rfl) ?_
      refine lv_aload_n hx hb dX7_count_13 rfl (lv_at hl 0 rfl) ?_
      refine lv_iload_n hx hb dX7_count_14 rfl (lv_at hl 3 rfl) ?_
      refine lv_aload_n hx hb dX7_count_15 rfl (lv_at hl 0 rfl) ?_
      refine gf_RX7_16 C hP dX7_count_16 ?_
      refine lv_iconst (v := (-1)) hx hb dX7_count_19 (by decide) ?_
      obtain ⟨r11, σ10, h9, h⟩ := bd2_some h
      refine goI C hD hS (runV (As := [.int v3, .int (σ.1 1), .int (-1)]) (rest := [.int v2]) (w := (mW G q σ)) C lc_RX7_111 (ctM_goSpurs N σ σ10 v3 (σ.1 1) (-1) r11 h9 _) hP hD hS (va_recv C.2.2.2.2.2.1 hP (ci := 7) (q0 := 0) rfl rfl) hl.1 rfl rfl (by decide) (by decide) (Nat.le_of_ble_eq_true rfl) dX7_count_20) (fun H locs hP hD hS => ?_)
      refine lv_iadd hx hb dX7_count_23 ?_
      refine lv_istore_n (lv' := [(2, .int (v2 + r11)), (0, .ref (q 0)), (1, .int v1), (3, .int v3)]) hx hb dX7_count_24 rfl hl (by decide) rfl (fun ls hl => ?_)
      refine lv_iinc (v := (v3 + 1)) (lv' := [(3, .int (v3 + 1)), (2, .int (v2 + r11)), (0, .ref (q 0)), (1, .int v1)]) hx hb dX7_count_25 hl (k := 3) rfl (by first | rfl | decide) (by decide) rfl (fun ls hl => ?_)
      refine lv_goto (tgt := 4) hx hb dX7_count_28 (by decide) ?_
      exact ih (v2 + r11) (v3 + 1) σ10 _ _ _ h hP hD hS (lv_sub hl [2, 3, 1, 0] rfl)

def fM_count (N : Nat) (σ : St) (a1 : Int32) : Option (Int32 × St) :=
  fM_count_L4 N a1 N 0 0 σ
set_option maxHeartbeats 4000000 in
set_option maxRecDepth 100000 in
theorem ctM_count {G : GP} {l : Launch} {q : Nat → Nat} (N : Nat) (σ σ' : St) (a1 : Int32) (r : Int32) (h : fM_count N σ a1 = some (r, σ')) : CI G l yX7_count cX7_count 4 (some .int) 3 [.ref (q 0), .int a1] (mW G q σ) (mW G q (σ')) r := by
  refine enterI (own := RX7) (by decide) rfl (Nat.le_of_ble_eq_true rfl) ?_
  intro p e s m args below meth c A C hP hD hS ls hl
  obtain ⟨hx, hb, hml, hown, hts, hK, hZ, hA, hlk, hr⟩ := id C
  have hl : lv_has ls 4 [(0, .ref (q 0)), (1, .int a1)] := hl
  rw [fM_count.eq_1] at h
  refine lv_iconst (v := 0) hx hb dX7_count_0 (by decide) ?_
  refine lv_istore_n (lv' := [(2, .int 0), (0, .ref (q 0)), (1, .int a1)]) hx hb dX7_count_1 rfl hl (by decide) rfl (fun ls hl => ?_)
  refine lv_iconst (v := 0) hx hb dX7_count_2 (by decide) ?_
  refine lv_istore_n (lv' := [(3, .int 0), (2, .int 0), (0, .ref (q 0)), (1, .int a1)]) hx hb dX7_count_3 rfl hl (by decide) rfl (fun ls hl => ?_)
  exact wM_count_L4 C N a1 r σ' N 0 0 σ _ _ _ h hP hD hS (lv_sub hl [2, 3, 1, 0] rfl)

end
