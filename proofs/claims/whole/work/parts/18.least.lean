section
variable {G : GP} {p : Program} {l : Launch} {e : Env} {s : State} {m : MethodId} {args : Array Value} {below : List Frame} {meth : Method} {c : Code} {Q : State → Prop} {A : Nat → Prop}
def fM_least_L49 (N : Nat) (F : St → Int32 → Int32 → Option (Int32 × St)) (v1 : Int32) (v2 : Int32) (v3 : Int32) (v4 : Int32) (v5 : Int32) : Nat → Int32 → Int32 → St → Option (Int32 × St)
  | 0, _, _, _ => none
  | n + 1, v6, v7, σ => (if 4 ≤ v7 then some (v6, σ) else bd1 (fM_leaves N σ v1 v5 v7) (fun r11 => (if r11 = 0 then (if 0 ≤ v6 then fM_least_L49 N F v1 v2 v3 v4 v5 n v6 (v7 + 1) σ else fM_least_L49 N F v1 v2 v3 v4 v5 n 0 (v7 + 1) σ) else bd2 (F σ r11 v2) (fun r15 σ14 => (if r15 ≤ v6 then fM_least_L49 N F v1 v2 v3 v4 v5 n v6 (v7 + 1) σ14 else fM_least_L49 N F v1 v2 v3 v4 v5 n r15 (v7 + 1) σ14)))))
set_option maxHeartbeats 4000000 in
set_option maxRecDepth 100000 in
theorem wM_least_L49 {q : Nat → Nat} (C : Cx G p s m args meth c cX7_least 10 (some .int) (Cond.code yX7_least cX7_least 10 (some .int)) RX7 A) (N : Nat) (D : Nat) (F : St → Int32 → Int32 → Option (Int32 × St)) (hF : ∀ (σ σ' : St) (a1 a2 r : Int32), F σ a1 a2 = some (r, σ') → CI G l yX7_least cX7_least 10 (some .int) (D + 2) [.ref (q 0), .int a1, .int a2] (mW G q σ) (mW G q σ') r) (v1 : Int32) (v2 : Int32) (v3 : Int32) (v4 : Int32) (v5 : Int32) (v6' : Int32) (σ' : St) (K : ∀ H locs ls, va_P G.1 vwCl (mW G q (σ')) H → va_D A (mW G q (σ')) → va_S A s.heap H locs → lv_has ls 10 [(0, .ref (q 0)), (1, .int v1), (2, .int v2), (3, .int v3), (4, .int v4), (5, .int v5), (6, .int (v6'))] → W p l e (rmD (D + 3)) s m args below meth c H locs 0 0 Q (F0 m 106 ls [])) : ∀ (n : Nat) (v6 : Int32) (v7 : Int32) (σ : St) (H : Heap) (locs : List Loc) (ls : Array Slot), fM_least_L49 N F v1 v2 v3 v4 v5 n v6 v7 σ = some (v6', σ') → va_P G.1 vwCl (mW G q σ) H → va_D A (mW G q σ) → va_S A s.heap H locs → lv_has ls 10 [(0, .ref (q 0)), (1, .int v1), (2, .int v2), (3, .int v3), (4, .int v4), (5, .int v5), (6, .int v6), (7, .int v7)] → W p l e (rmD (D + 3)) s m args below meth c H locs 0 0 Q (F0 m 49 ls []) := by
  obtain ⟨hx, hb, hml, hown, hts, hK, hZ, hA, hlk, hr⟩ := id C
  intro n
  induction n with
  | zero =>
    intro v6 v7 σ H locs ls h
    cases h
  | succ n ih =>
    intro v6 v7 σ H locs ls h hP hD hS hl
    rw [fM_least_L49.eq_2] at h
    refine lv_iload hx hb dX7_least_49 (lv_at hl 7 rfl) ?_
    refine lv_iconst (v := 4) hx hb dX7_least_51 (by decide) ?_
    refine lv_icmp_ge (tgt := 106) hx hb dX7_least_52 (by decide) (fun c9 => ?_) (fun c9 => ?_)
    · replace h := ifp c9 h
      obtain ⟨rfl, rfl⟩ := so2 h
      exact K _ _ _ hP hD hS (lv_sub hl [0, 1, 2, 3, 4, 5, 6] rfl)
    · replace h := ifn c9 h
      refine lv_aload_n hx hb dX7_least_55 rfl (lv_at hl 0 rfl) ?_
      refine lv_iload_n hx hb dX7_least_56 rfl (lv_at hl 1 rfl) ?_
      refine lv_iload hx hb dX7_least_57 (lv_at hl 5 rfl) ?_
      refine lv_iload hx hb dX7_least_59 (lv_at hl 7 rfl) ?_
      obtain ⟨r11, h10, h⟩ := bd1_some h
      refine goI C hD hS (runV (As := [.int v1, .int v5, .int v7]) (rest := []) (w := (mW G q σ)) C lc_RX7_203 (ctM_leaves N σ v1 v5 v7 r11 h10 _) hP hD hS (va_recv C.2.2.2.2.2.1 hP (ci := 7) (q0 := 0) rfl rfl) hl.1 rfl rfl (by omega) (by decide) (Nat.le_of_ble_eq_true rfl) dX7_least_61) (fun H locs hP hD hS => ?_)
      refine lv_istore (lv' := [(8, .int r11), (0, .ref (q 0)), (1, .int v1), (2, .int v2), (3, .int v3), (4, .int v4), (5, .int v5), (6, .int v6), (7, .int v7)]) hx hb dX7_least_64 hl (by decide) rfl (fun ls hl => ?_)
      refine lv_iload hx hb dX7_least_66 (lv_at hl 0 rfl) ?_
      refine lv_if_ne (tgt := 75) hx hb dX7_least_68 (by decide) (fun c12 => ?_) (fun c12 => ?_)
      · replace h := ifn c12 h
        refine lv_aload_n hx hb dX7_least_75 rfl (lv_at hl 1 rfl) ?_
        refine lv_iload hx hb dX7_least_76 (lv_at hl 0 rfl) ?_
        refine lv_iload_n hx hb dX7_least_78 rfl (lv_at hl 3 rfl) ?_
        obtain ⟨r15, σ14, h13, h⟩ := bd2_some h
        refine goI C hD hS (runV (As := [.int r11, .int v2]) (rest := []) (w := (mW G q σ)) C lc_RX7_212 (hF σ σ14 r11 v2 r15 h13 _) hP hD hS (va_recv C.2.2.2.2.2.1 hP (ci := 7) (q0 := 0) rfl rfl) hl.1 rfl rfl (by omega) (by decide) (Nat.le_of_ble_eq_true rfl) dX7_least_79) (fun H locs hP hD hS => ?_)
        refine lv_istore (lv' := [(9, .int r15), (8, .int r11), (0, .ref (q 0)), (1, .int v1), (2, .int v2), (3, .int v3), (4, .int v4), (5, .int v5), (6, .int v6), (7, .int v7)]) hx hb dX7_least_82 hl (by decide) rfl (fun ls hl => ?_)
        refine lv_iload hx hb dX7_least_84 (lv_at hl 0 rfl) ?_
        refine lv_iload hx hb dX7_least_86 (lv_at hl 8 rfl) ?_
        refine lv_icmp_le (tgt := 96) hx hb dX7_least_88 (by decide) (fun c16 => ?_) (fun c16 => ?_)
        · replace h := ifp c16 h
          refine lv_iload hx hb dX7_least_96 (lv_at hl 8 rfl) ?_
          refine lv_istore (lv' := [(6, .int v6), (9, .int r15), (8, .int r11), (0, .ref (q 0)), (1, .int v1), (2, .int v2), (3, .int v3), (4, .int v4), (5, .int v5), (7, .int v7)]) hx hb dX7_least_98 hl (by decide) rfl (fun ls hl => ?_)
          refine lv_iinc (v := (v7 + 1)) (lv' := [(7, .int (v7 + 1)), (6, .int v6), (9, .int r15), (8, .int r11), (0, .ref (q 0)), (1, .int v1), (2, .int v2), (3, .int v3), (4, .int v4), (5, .int v5)]) hx hb dX7_least_100 hl (k := 9) rfl (by first | rfl | decide) (by decide) rfl (fun ls hl => ?_)
          refine lv_goto (tgt := 49) hx hb dX7_least_103 (by decide) ?_
          exact ih v6 (v7 + 1) σ14 _ _ _ h hP hD hS (lv_sub hl [4, 5, 6, 7, 8, 9, 1, 0] rfl)
        · replace h := ifn c16 h
          refine lv_iload hx hb dX7_least_91 (lv_at hl 0 rfl) ?_
          refine lv_goto (tgt := 98) hx hb dX7_least_93 (by decide) ?_
          refine lv_istore (lv' := [(6, .int r15), (9, .int r15), (8, .int r11), (0, .ref (q 0)), (1, .int v1), (2, .int v2), (3, .int v3), (4, .int v4), (5, .int v5), (7, .int v7)]) hx hb dX7_least_98 hl (by decide) rfl (fun ls hl => ?_)
          refine lv_iinc (v := (v7 + 1)) (lv' := [(7, .int (v7 + 1)), (6, .int r15), (9, .int r15), (8, .int r11), (0, .ref (q 0)), (1, .int v1), (2, .int v2), (3, .int v3), (4, .int v4), (5, .int v5)]) hx hb dX7_least_100 hl (k := 9) rfl (by first | rfl | decide) (by decide) rfl (fun ls hl => ?_)
          refine lv_goto (tgt := 49) hx hb dX7_least_103 (by decide) ?_
          exact ih r15 (v7 + 1) σ14 _ _ _ h hP hD hS (lv_sub hl [4, 5, 6, 7, 8, 9, 1, 0] rfl)
      · replace h := ifp c12 h
        refine lv_iconst (v := 0) hx hb dX7_least_71 (by decide) ?_
        refine lv_goto (tgt := 82) hx hb dX7_least_72 (by decide) ?_
        refine lv_istore (lv' := [(9, .int 0), (8, .int r11), (0, .ref (q 0)), (1, .int v1), (2, .int v2), (3, .int v3), (4, .int v4), (5, .int v5), (6, .int v6), (7, .int v7)]) hx hb dX7_least_82 hl (by decide) rfl (fun ls hl => ?_)
        refine lv_iload hx hb dX7_least_84 (lv_at hl 0 rfl) ?_
        refine lv_iload hx hb dX7_least_86 (lv_at hl 8 rfl) ?_
        refine lv_icmp_le (tgt := 96) hx hb dX7_least_88 (by decide) (fun c17 => ?_) (fun c17 => ?_)
        · replace h := ifp c17 h
          refine lv_iload hx hb dX7_least_96 (lv_at hl 8 rfl) ?_
          refine lv_istore (lv' := [(6, .int v6), (9, .int 0), (8, .int r11), (0, .ref (q 0)), (1, .int v1), (2, .int v2), (3, .int v3), (4, .int v4), (5, .int v5), (7, .int v7)]) hx hb dX7_least_98 hl (by decide) rfl (fun ls hl => ?_)
          refine lv_iinc (v := (v7 + 1)) (lv' := [(7, .int (v7 + 1)), (6, .int v6), (9, .int 0), (8, .int r11), (0, .ref (q 0)), (1, .int v1), (2, .int v2), (3, .int v3), (4, .int v4), (5, .int v5)]) hx hb dX7_least_100 hl (k := 9) rfl (by first | rfl | decide) (by decide) rfl (fun ls hl => ?_)
          refine lv_goto (tgt := 49) hx hb dX7_least_103 (by decide) ?_
          exact ih v6 (v7 + 1) σ _ _ _ h hP hD hS (lv_sub hl [4, 5, 6, 7, 8, 9, 1, 0] rfl)
        · replace h := ifn c17 h
          refine lv_iload hx hb dX7_least_91 (lv_at hl 0 rfl) ?_
          refine lv_goto (tgt := 98) hx hb dX7_least_93 (by decide) ?_
          refine lv_istore (lv' := [(6, .int 0), (9, .int 0), (8, .int r11), (0, .ref (q 0)), (1, .int v1), (2, .int v2), (3, .int v3), (4, .int v4), (5, .int v5), (7, .int v7)]) hx hb dX7_least_98 hl (by decide) rfl (fun ls hl => ?_)
          refine lv_iinc (v := (v7 + 1)) (lv' := [(7, .int (v7 + 1)), (6, .int 0), (9, .int 0), (8, .int r11), (0, .ref (q 0)), (1, .int v1), (2, .int v2), (3, .int v3), (4, .int v4), (5, .int v5)]) hx hb dX7_least_100 hl (k := 9) rfl (by first | rfl | decide) (by decide) rfl (fun ls hl => ?_)
          refine lv_goto (tgt := 49) hx hb dX7_least_103 (by decide) ?_
          exact ih 0 (v7 + 1) σ _ _ _ h hP hD hS (lv_sub hl [4, 5, 6, 7, 8, 9, 1, 0] rfl)

def fM_least_L24 (N : Nat) (F : St → Int32 → Int32 → Option (Int32 × St)) (v1 : Int32) (v2 : Int32) : Nat → Int32 → Int32 → Int32 → St → Option (Int32 × St)
  | 0, _, _, _, _ => none
  | n + 1, v3, v4, v5, σ => (if (σ.1 11) ≤ v5 then gi v1 4096 (gi v1 4096 (some (v3, (sA (sA σ 13 v1.toNatClampNeg (vp_nar .boolean 1)) 12 v1.toNatClampNeg v3)))) else bd1 (fM_parts N σ v1 v5) (fun r7 => (if r7 = 0 then fM_least_L24 N F v1 v2 n v3 v4 (v5 + 1) σ else bd2 (fM_least_L49 N F v1 v2 v3 v4 v5 N 0 0 σ) (fun y18 σ19 => (if v2 = 0 then (if v4 = 0 then fM_least_L24 N F v1 v2 n (y18 + 1) 1 (v5 + 1) σ19 else (if v3 ≤ (y18 + 1) then fM_least_L24 N F v1 v2 n v3 1 (v5 + 1) σ19 else fM_least_L24 N F v1 v2 n (y18 + 1) 1 (v5 + 1) σ19)) else gi v5 12 ((if v4 = 0 then fM_least_L24 N F v1 v2 n (y18 + (σ19.2 10 v5.toNatClampNeg)) 1 (v5 + 1) σ19 else (if v3 ≤ (y18 + (σ19.2 10 v5.toNatClampNeg)) then fM_least_L24 N F v1 v2 n v3 1 (v5 + 1) σ19 else fM_least_L24 N F v1 v2 n (y18 + (σ19.2 10 v5.toNatClampNeg)) 1 (v5 + 1) σ19))))))))
set_option maxHeartbeats 4000000 in
set_option maxRecDepth 100000 in
theorem wM_least_L24 {q : Nat → Nat} (C : Cx G p s m args meth c cX7_least 10 (some .int) (Cond.code yX7_least cX7_least 10 (some .int)) RX7 A) (N : Nat) (D : Nat) (F : St → Int32 → Int32 → Option (Int32 × St)) (hF : ∀ (σ σ' : St) (a1 a2 r : Int32), F σ a1 a2 = some (r, σ') → CI G l yX7_least cX7_least 10 (some .int) (D + 2) [.ref (q 0), .int a1, .int a2] (mW G q σ) (mW G q σ') r) (v1 : Int32) (v2 : Int32) (r : Int32) (σ' : St) : ∀ (n : Nat) (v3 : Int32) (v4 : Int32) (v5 : Int32) (σ : St) (H : Heap) (locs : List Loc) (ls : Array Slot), fM_least_L24 N F v1 v2 n v3 v4 v5 σ = some (r, σ') → va_P G.1 vwCl (mW G q σ) H → va_D A (mW G q σ) → va_S A s.heap H locs → lv_has ls 10 [(0, .ref (q 0)), (1, .int v1), (2, .int v2), (3, .int v3), (4, .int v4), (5, .int v5)] → W p l e (rmD (D + 3)) s m args below meth c H locs 0 0 (QI G below args s A (mW G q (σ')) r) (F0 m 24 ls []) := by
  obtain ⟨hx, hb, hml, hown, hts, hK, hZ, hA, hlk, hr⟩ := id C
  intro n
  induction n with
  | zero =>
    intro v3 v4 v5 σ H locs ls h
    cases h
  | succ n ih =>
    intro v3 v4 v5 σ H locs ls h hP hD hS hl
    rw [fM_least_L24.eq_2] at h
    refine lv_iload hx hb dX7_least_24 (lv_at hl 5 rfl) ?_
    refine lv_aload_n hx hb dX7_least_26 rfl (lv_at hl 0 rfl) ?_
    refine gf_RX7_197 C hP dX7_least_27 ?_
    refine lv_icmp_ge (tgt := 153) hx hb dX7_least_30 (by decide) (fun c3 => ?_) (fun c3 => ?_)
    · replace h := ifp c3 h
      refine lv_aload_n hx hb dX7_least_153 rfl (lv_at hl 0 rfl) ?_
      refine gf_RX7_68 C hP dX7_least_154 ?_
      refine lv_iload_n hx hb dX7_least_157 rfl (lv_at hl 1 rfl) ?_
      refine lv_iconst (v := 1) hx hb dX7_least_158 (by decide) ?_
      obtain ⟨i4, h⟩ := gi_some h
      refine stM_13 C hP hD hS i4 dX7_least_159 (fun H locs hP hD hS => ?_)
      refine lv_aload_n hx hb dX7_least_160 rfl (lv_at hl 0 rfl) ?_
      refine gf_RX7_65 C hP dX7_least_161 ?_
      refine lv_iload_n hx hb dX7_least_164 rfl (lv_at hl 1 rfl) ?_
      refine lv_iload_n hx hb dX7_least_165 rfl (lv_at hl 3 rfl) ?_
      obtain ⟨i5, h⟩ := gi_some h
      refine stM_12 C hP hD hS i5 dX7_least_166 (fun H locs hP hD hS => ?_)
      refine lv_iload_n hx hb dX7_least_167 rfl (lv_at hl 3 rfl) ?_
      obtain ⟨rfl, rfl⟩ := so2 h
      exact retI C hP hD hS dX7_least_168
    · replace h := ifn c3 h
      refine lv_aload_n hx hb dX7_least_33 rfl (lv_at hl 0 rfl) ?_
      refine lv_iload_n hx hb dX7_least_34 rfl (lv_at hl 1 rfl) ?_
      refine lv_iload hx hb dX7_least_35 (lv_at hl 5 rfl) ?_
      obtain ⟨r7, h6, h⟩ := bd1_some h
      refine goI C hD hS (runV (As := [.int v1, .int v5]) (rest := []) (w := (mW G q σ)) C lc_RX7_209 (ctM_parts N σ v1 v5 r7 h6 _) hP hD hS (va_recv C.2.2.2.2.2.1 hP (ci := 7) (q0 := 0) rfl rfl) hl.1 rfl rfl (by omega) (by decide) (Nat.le_of_ble_eq_true rfl) dX7_least_37) (fun H locs hP hD hS => ?_)
      refine lv_if_eq (tgt := 147) hx hb dX7_least_40 (by decide) (fun c8 => ?_) (fun c8 => ?_)
      · replace h := ifp c8 h
        refine lv_iinc (v := (v5 + 1)) (lv' := [(5, .int (v5 + 1)), (0, .ref (q 0)), (1, .int v1), (2, .int v2), (3, .int v3), (4, .int v4)]) hx hb dX7_least_147 hl (k := 5) rfl (by first | rfl | decide) (by decide) rfl (fun ls hl => ?_)
        refine lv_goto (tgt := 24) hx hb dX7_least_150 (by decide) ?_
        exact ih v3 v4 (v5 + 1) σ _ _ _ h hP hD hS (lv_sub hl [1, 2, 3, 4, 5, 0] rfl)
      · replace h := ifn c8 h
        refine lv_iconst (v := 0) hx hb dX7_least_43 (by decide) ?_
        refine lv_istore (lv' := [(6, .int 0), (0, .ref (q 0)), (1, .int v1), (2, .int v2), (3, .int v3), (4, .int v4), (5, .int v5)]) hx hb dX7_least_44 hl (by decide) rfl (fun ls hl => ?_)
        refine lv_iconst (v := 0) hx hb dX7_least_46 (by decide) ?_
        refine lv_istore (lv' := [(7, .int 0), (6, .int 0), (0, .ref (q 0)), (1, .int v1), (2, .int v2), (3, .int v3), (4, .int v4), (5, .int v5)]) hx hb dX7_least_47 hl (by decide) rfl (fun ls hl => ?_)
        obtain ⟨y18, σ19, h20, h⟩ := bd2_some h
        refine wM_least_L49 C N D F hF v1 v2 v3 v4 v5 y18 σ19 (fun H locs ls hP hD hS hl => ?_) N 0 0 σ _ _ _ h20 hP hD hS (lv_sub hl [2, 3, 4, 5, 6, 7, 1, 0] rfl)
        refine lv_iload hx hb dX7_least_106 (lv_at hl 6 rfl) ?_
        refine lv_iload_n hx hb dX7_least_108 rfl (lv_at hl 2 rfl) ?_
        refine lv_if_eq (tgt := 122) hx hb dX7_least_109 (by decide) (fun c21 => ?_) (fun c21 => ?_)
        · replace h := ifp c21 h
          refine lv_iconst (v := 1) hx hb dX7_least_122 (by decide) ?_
          refine lv_iadd hx hb dX7_least_123 ?_
          refine lv_istore (lv' := [(7, .int (y18 + 1)), (0, .ref (q 0)), (1, .int v1), (2, .int v2), (3, .int v3), (4, .int v4), (5, .int v5), (6, .int y18)]) hx hb dX7_least_124 hl (by decide) rfl (fun ls hl => ?_)
          refine lv_iload hx hb dX7_least_126 (lv_at hl 5 rfl) ?_
          refine lv_if_eq (tgt := 137) hx hb dX7_least_128 (by decide) (fun c22 => ?_) (fun c22 => ?_)
          · replace h := ifp c22 h
            refine lv_iload hx hb dX7_least_137 (lv_at hl 0 rfl) ?_
            refine lv_goto (tgt := 143) hx hb dX7_least_139 (by decide) ?_
            refine lv_istore_n (lv' := [(3, .int (y18 + 1)), (7, .int (y18 + 1)), (0, .ref (q 0)), (1, .int v1), (2, .int v2), (4, .int v4), (5, .int v5), (6, .int y18)]) hx hb dX7_least_143 rfl hl (by decide) rfl (fun ls hl => ?_)
            refine lv_iconst (v := 1) hx hb dX7_least_144 (by decide) ?_
            refine lv_istore (lv' := [(4, .int 1), (3, .int (y18 + 1)), (7, .int (y18 + 1)), (0, .ref (q 0)), (1, .int v1), (2, .int v2), (5, .int v5), (6, .int y18)]) hx hb dX7_least_145 hl (by decide) rfl (fun ls hl => ?_)
            refine lv_iinc (v := (v5 + 1)) (lv' := [(5, .int (v5 + 1)), (4, .int 1), (3, .int (y18 + 1)), (7, .int (y18 + 1)), (0, .ref (q 0)), (1, .int v1), (2, .int v2), (6, .int y18)]) hx hb dX7_least_147 hl (k := 6) rfl (by first | rfl | decide) (by decide) rfl (fun ls hl => ?_)
            refine lv_goto (tgt := 24) hx hb dX7_least_150 (by decide) ?_
            exact ih (y18 + 1) 1 (v5 + 1) σ19 _ _ _ h hP hD hS (lv_sub hl [4, 5, 6, 2, 1, 0] rfl)
          · replace h := ifn c22 h
            refine lv_iload hx hb dX7_least_131 (lv_at hl 0 rfl) ?_
            refine lv_iload_n hx hb dX7_least_133 rfl (lv_at hl 4 rfl) ?_
            refine lv_icmp_ge (tgt := 142) hx hb dX7_least_134 (by decide) (fun c23 => ?_) (fun c23 => ?_)
            · replace h := ifp c23 h
              refine lv_iload_n hx hb dX7_least_142 rfl (lv_at hl 4 rfl) ?_
              refine lv_istore_n (lv' := [(3, .int v3), (7, .int (y18 + 1)), (0, .ref (q 0)), (1, .int v1), (2, .int v2), (4, .int v4), (5, .int v5), (6, .int y18)]) hx hb dX7_least_143 rfl hl (by decide) rfl (fun ls hl => ?_)
              refine lv_iconst (v := 1) hx hb dX7_least_144 (by decide) ?_
              refine lv_istore (lv' := [(4, .int 1), (3, .int v3), (7, .int (y18 + 1)), (0, .ref (q 0)), (1, .int v1), (2, .int v2), (5, .int v5), (6, .int y18)]) hx hb dX7_least_145 hl (by decide) rfl (fun ls hl => ?_)
              refine lv_iinc (v := (v5 + 1)) (lv' := [(5, .int (v5 + 1)), (4, .int 1), (3, .int v3), (7, .int (y18 + 1)), (0, .ref (q 0)), (1, .int v1), (2, .int v2), (6, .int y18)]) hx hb dX7_least_147 hl (k := 6) rfl (by first | rfl | decide) (by decide) rfl (fun ls hl => ?_)
              refine lv_goto (tgt := 24) hx hb dX7_least_150 (by decide) ?_
              exact ih v3 1 (v5 + 1) σ19 _ _ _ h hP hD hS (lv_sub hl [4, 5, 6, 2, 1, 0] rfl)
            · replace h := ifn c23 h
              refine lv_iload hx hb dX7_least_137 (lv_at hl 0 rfl) ?_
              refine lv_goto (tgt := 143) hx hb dX7_least_139 (by decide) ?_
              refine lv_istore_n (lv' := [(3, .int (y18 + 1)), (7, .int (y18 + 1)), (0, .ref (q 0)), (1, .int v1), (2, .int v2), (4, .int v4), (5, .int v5), (6, .int y18)]) hx hb dX7_least_143 rfl hl (by decide) rfl (fun ls hl => ?_)
              refine lv_iconst (v := 1) hx hb dX7_least_144 (by decide) ?_
              refine lv_istore (lv' := [(4, .int 1), (3, .int (y18 + 1)), (7, .int (y18 + 1)), (0, .ref (q 0)), (1, .int v1), (2, .int v2), (5, .int v5), (6, .int y18)]) hx hb dX7_least_145 hl (by decide) rfl (fun ls hl => ?_)
              refine lv_iinc (v := (v5 + 1)) (lv' := [(5, .int (v5 + 1)), (4, .int 1), (3, .int (y18 + 1)), (7, .int (y18 + 1)), (0, .ref (q 0)), (1, .int v1), (2, .int v2), (6, .int y18)]) hx hb dX7_least_147 hl (k := 6) rfl (by first | rfl | decide) (by decide) rfl (fun ls hl => ?_)
              refine lv_goto (tgt := 24) hx hb dX7_least_150 (by decide) ?_
              exact ih (y18 + 1) 1 (v5 + 1) σ19 _ _ _ h hP hD hS (lv_sub hl [4, 5, 6, 2, 1, 0] rfl)
        · replace h := ifn c21 h
          refine lv_aload_n hx hb dX7_least_112 rfl (lv_at hl 0 rfl) ?_
          refine gf_RX7_59 C hP dX7_least_113 ?_
          refine lv_iload hx hb dX7_least_116 (lv_at hl 5 rfl) ?_
          obtain ⟨i24, h⟩ := gi_some h
          refine ldM_10 C hP i24 dX7_least_118 ?_
          refine lv_goto (tgt := 123) hx hb dX7_least_119 (by decide) ?_
          refine lv_iadd hx hb dX7_least_123 ?_
          refine lv_istore (lv' := [(7, .int (y18 + (σ19.2 10 v5.toNatClampNeg))), (0, .ref (q 0)), (1, .int v1), (2, .int v2), (3, .int v3), (4, .int v4), (5, .int v5), (6, .int y18)]) hx hb dX7_least_124 hl (by decide) rfl (fun ls hl => ?_)
          refine lv_iload hx hb dX7_least_126 (lv_at hl 5 rfl) ?_
          refine lv_if_eq (tgt := 137) hx hb dX7_least_128 (by decide) (fun c25 => ?_) (fun c25 => ?_)
          · replace h := ifp c25 h
            refine lv_iload hx hb dX7_least_137 (lv_at hl 0 rfl) ?_
            refine lv_goto (tgt := 143) hx hb dX7_least_139 (by decide) ?_
            refine lv_istore_n (lv' := [(3, .int (y18 + (σ19.2 10 v5.toNatClampNeg))), (7, .int (y18 + (σ19.2 10 v5.toNatClampNeg))), (0, .ref (q 0)), (1, .int v1), (2, .int v2), (4, .int v4), (5, .int v5), (6, .int y18)]) hx hb dX7_least_143 rfl hl (by decide) rfl (fun ls hl => ?_)
            refine lv_iconst (v := 1) hx hb dX7_least_144 (by decide) ?_
            refine lv_istore (lv' := [(4, .int 1), (3, .int (y18 + (σ19.2 10 v5.toNatClampNeg))), (7, .int (y18 + (σ19.2 10 v5.toNatClampNeg))), (0, .ref (q 0)), (1, .int v1), (2, .int v2), (5, .int v5), (6, .int y18)]) hx hb dX7_least_145 hl (by decide) rfl (fun ls hl => ?_)
            refine lv_iinc (v := (v5 + 1)) (lv' := [(5, .int (v5 + 1)), (4, .int 1), (3, .int (y18 + (σ19.2 10 v5.toNatClampNeg))), (7, .int (y18 + (σ19.2 10 v5.toNatClampNeg))), (0, .ref (q 0)), (1, .int v1), (2, .int v2), (6, .int y18)]) hx hb dX7_least_147 hl (k := 6) rfl (by first | rfl | decide) (by decide) rfl (fun ls hl => ?_)
            refine lv_goto (tgt := 24) hx hb dX7_least_150 (by decide) ?_
            exact ih (y18 + (σ19.2 10 v5.toNatClampNeg)) 1 (v5 + 1) σ19 _ _ _ h hP hD hS (lv_sub hl [4, 5, 6, 2, 1, 0] rfl)
          · replace h := ifn c25 h
            refine lv_iload hx hb dX7_least_131 (lv_at hl 0 rfl) ?_
            refine lv_iload_n hx hb dX7_least_133 rfl (lv_at hl 4 rfl) ?_
            refine lv_icmp_ge (tgt := 142) hx hb dX7_least_134 (by decide) (fun c26 => ?_) (fun c26 => ?_)
            · replace h := ifp c26 h
              refine lv_iload_n hx hb dX7_least_142 rfl (lv_at hl 4 rfl) ?_
              refine lv_istore_n (lv' := [(3, .int v3), (7, .int (y18 + (σ19.2 10 v5.toNatClampNeg))), (0, .ref (q 0)), (1, .int v1), (2, .int v2), (4, .int v4), (5, .int v5), (6, .int y18)]) hx hb dX7_least_143 rfl hl (by decide) rfl (fun ls hl => ?_)
              refine lv_iconst (v := 1) hx hb dX7_least_144 (by decide) ?_
              refine lv_istore (lv' := [(4, .int 1), (3, .int v3), (7, .int (y18 + (σ19.2 10 v5.toNatClampNeg))), (0, .ref (q 0)), (1, .int v1), (2, .int v2), (5, .int v5), (6, .int y18)]) hx hb dX7_least_145 hl (by decide) rfl (fun ls hl => ?_)
              refine lv_iinc (v := (v5 + 1)) (lv' := [(5, .int (v5 + 1)), (4, .int 1), (3, .int v3), (7, .int (y18 + (σ19.2 10 v5.toNatClampNeg))), (0, .ref (q 0)), (1, .int v1), (2, .int v2), (6, .int y18)]) hx hb dX7_least_147 hl (k := 6) rfl (by first | rfl | decide) (by decide) rfl (fun ls hl => ?_)
              refine lv_goto (tgt := 24) hx hb dX7_least_150 (by decide) ?_
              exact ih v3 1 (v5 + 1) σ19 _ _ _ h hP hD hS (lv_sub hl [4, 5, 6, 2, 1, 0] rfl)
            · replace h := ifn c26 h
              refine lv_iload hx hb dX7_least_137 (lv_at hl 0 rfl) ?_
              refine lv_goto (tgt := 143) hx hb dX7_least_139 (by decide) ?_
              refine lv_istore_n (lv' := [(3, .int (y18 + (σ19.2 10 v5.toNatClampNeg))), (7, .int (y18 + (σ19.2 10 v5.toNatClampNeg))), (0, .ref (q 0)), (1, .int v1), (2, .int v2), (4, .int v4), (5, .int v5), (6, .int y18)]) hx hb dX7_least_143 rfl hl (by decide) rfl (fun ls hl => ?_)
              refine lv_iconst (v := 1) hx hb dX7_least_144 (by decide) ?_
              refine lv_istore (lv' := [(4, .int 1), (3, .int (y18 + (σ19.2 10 v5.toNatClampNeg))), (7, .int (y18 + (σ19.2 10 v5.toNatClampNeg))), (0, .ref (q 0)), (1, .int v1), (2, .int v2), (5, .int v5), (6, .int y18)]) hx hb dX7_least_145 hl (by decide) rfl (fun ls hl => ?_)
              refine lv_iinc (v := (v5 + 1)) (lv' := [(5, .int (v5 + 1)), (4, .int 1), (3, .int (y18 + (σ19.2 10 v5.toNatClampNeg))), (7, .int (y18 + (σ19.2 10 v5.toNatClampNeg))), (0, .ref (q 0)), (1, .int v1), (2, .int v2), (6, .int y18)]) hx hb dX7_least_147 hl (k := 6) rfl (by first | rfl | decide) (by decide) rfl (fun ls hl => ?_)
              refine lv_goto (tgt := 24) hx hb dX7_least_150 (by decide) ?_
              exact ih (y18 + (σ19.2 10 v5.toNatClampNeg)) 1 (v5 + 1) σ19 _ _ _ h hP hD hS (lv_sub hl [4, 5, 6, 2, 1, 0] rfl)

def fM_leastB (N : Nat) (F : St → Int32 → Int32 → Option (Int32 × St)) (σ : St) (a1 : Int32) (a2 : Int32) : Option (Int32 × St) :=
  gi a1 4096 ((if (σ.2 13 a1.toNatClampNeg) = 0 then fM_least_L24 N F a1 a2 N 0 0 0 σ else gi a1 4096 (some ((σ.2 12 a1.toNatClampNeg), σ))))
def fM_least (N : Nat) : Nat → St → Int32 → Int32 → Option (Int32 × St)
  | 0, _, _, _ => none
  | D + 1, σ, a1, a2 => fM_leastB N (fM_least N D) σ a1 a2
set_option maxHeartbeats 4000000 in
set_option maxRecDepth 100000 in
theorem ctM_leastB {G : GP} {l : Launch} {q : Nat → Nat} (N : Nat) (D : Nat) (F : St → Int32 → Int32 → Option (Int32 × St)) (hF : ∀ (σ σ' : St) (a1 a2 r : Int32), F σ a1 a2 = some (r, σ') → CI G l yX7_least cX7_least 10 (some .int) (D + 2) [.ref (q 0), .int a1, .int a2] (mW G q σ) (mW G q σ') r) (σ σ' : St) (a1 a2 r : Int32) (h : fM_leastB N F σ a1 a2 = some (r, σ')) : CI G l yX7_least cX7_least 10 (some .int) (D + 3) [.ref (q 0), .int a1, .int a2] (mW G q σ) (mW G q σ') r := by
  refine enterI (own := RX7) (by decide) rfl (Nat.le_of_ble_eq_true rfl) ?_
  intro p e s m args below meth c A C hP hD hS ls hl
  obtain ⟨hx, hb, hml, hown, hts, hK, hZ, hA, hlk, hr⟩ := id C
  have hl : lv_has ls 10 [(0, .ref (q 0)), (1, .int a1), (2, .int a2)] := hl
  rw [fM_leastB.eq_1] at h
  refine lv_aload_n hx hb dX7_least_0 rfl (lv_at hl 0 rfl) ?_
  refine gf_RX7_68 C hP dX7_least_1 ?_
  refine lv_iload_n hx hb dX7_least_4 rfl (lv_at hl 1 rfl) ?_
  obtain ⟨i1, h⟩ := gi_some h
  refine ldM_13 C hP i1 dX7_least_5 ?_
  refine lv_if_eq (tgt := 16) hx hb dX7_least_6 (by decide) (fun c2 => ?_) (fun c2 => ?_)
  · replace h := ifp c2 h
    refine lv_iconst (v := 0) hx hb dX7_least_16 (by decide) ?_
    refine lv_istore_n (lv' := [(3, .int 0), (0, .ref (q 0)), (1, .int a1), (2, .int a2)]) hx hb dX7_least_17 rfl hl (by decide) rfl (fun ls hl => ?_)
    refine lv_iconst (v := 0) hx hb dX7_least_18 (by decide) ?_
    refine lv_istore (lv' := [(4, .int 0), (3, .int 0), (0, .ref (q 0)), (1, .int a1), (2, .int a2)]) hx hb dX7_least_19 hl (by decide) rfl (fun ls hl => ?_)
    refine lv_iconst (v := 0) hx hb dX7_least_21 (by decide) ?_
    refine lv_istore (lv' := [(5, .int 0), (4, .int 0), (3, .int 0), (0, .ref (q 0)), (1, .int a1), (2, .int a2)]) hx hb dX7_least_22 hl (by decide) rfl (fun ls hl => ?_)
    exact wM_least_L24 C N D F hF a1 a2 r σ' N 0 0 0 σ _ _ _ h hP hD hS (lv_sub hl [3, 4, 5, 2, 1, 0] rfl)
  · replace h := ifn c2 h
    refine lv_aload_n hx hb dX7_least_9 rfl (lv_at hl 0 rfl) ?_
    refine gf_RX7_65 C hP dX7_least_10 ?_
    refine lv_iload_n hx hb dX7_least_13 rfl (lv_at hl 1 rfl) ?_
    obtain ⟨i27, h⟩ := gi_some h
    refine ldM_12 C hP i27 dX7_least_14 ?_
    obtain ⟨rfl, rfl⟩ := so2 h
    exact retI C hP hD hS dX7_least_15

theorem ctM_least {G : GP} {l : Launch} {q : Nat → Nat} (N : Nat) : ∀ (D : Nat) (σ σ' : St) (a1 a2 r : Int32), fM_least N D σ a1 a2 = some (r, σ') → CI G l yX7_least cX7_least 10 (some .int) (D + 2) [.ref (q 0), .int a1, .int a2] (mW G q σ) (mW G q σ') r := by
  intro D
  induction D with
  | zero =>
    intro σ σ' a1 a2 r h
    cases h
  | succ D ih =>
    intro σ σ' a1 a2 r h
    rw [fM_least.eq_2] at h
    exact ctM_leastB N D (fM_least N D) ih σ σ' a1 a2 r h

def fM_left_L34 (N : Nat) (v1 : Int32) : Nat → Int32 → St → Option (Int32 × St)
  | 0, _, _ => none
  | n + 1, v2, σ => (if 4096 ≤ v2 then (if v1 = 3 then bd2 (fM_least N 20 σ (σ.1 12) 1) (fun r12 σ11 => some (r12, σ11)) else bd2 (fM_least N 20 σ (σ.1 12) 0) (fun r9 σ8 => some (r9, σ8))) else gi v2 4096 (fM_left_L34 N v1 n (v2 + 1) (sA σ 13 v2.toNatClampNeg (vp_nar .boolean 0))))
set_option maxHeartbeats 4000000 in
set_option maxRecDepth 100000 in
theorem wM_left_L34 {q : Nat → Nat} (C : Cx G p s m args meth c cX7_left 3 (some .int) (Cond.code yX7_left cX7_left 3 (some .int)) RX7 A) (N : Nat) (v1 : Int32) (r : Int32) (σ' : St) : ∀ (n : Nat) (v2 : Int32) (σ : St) (H : Heap) (locs : List Loc) (ls : Array Slot), fM_left_L34 N v1 n v2 σ = some (r, σ') → va_P G.1 vwCl (mW G q σ) H → va_D A (mW G q σ) → va_S A s.heap H locs → lv_has ls 3 [(0, .ref (q 0)), (1, .int v1), (2, .int v2)] → W p l e (rmD 23) s m args below meth c H locs 0 0 (QI G below args s A (mW G q (σ')) r) (F0 m 34 ls []) := by
  obtain ⟨hx, hb, hml, hown, hts, hK, hZ, hA, hlk, hr⟩ := id C
  intro n
  induction n with
  | zero =>
    intro v2 σ H locs ls h
    cases h
  | succ n ih =>
    intro v2 σ H locs ls h hP hD hS hl
    rw [fM_left_L34.eq_2] at h
    refine lv_iload_n hx hb dX7_left_34 rfl (lv_at hl 2 rfl) ?_
    refine lv_sipush (v := 4096) hx hb dX7_left_35 (by decide) ?_
    refine lv_icmp_ge (tgt := 54) hx hb dX7_left_38 (by decide) (fun c5 => ?_) (fun c5 => ?_)
    · replace h := ifp c5 h
      refine lv_aload_n hx hb dX7_left_54 rfl (lv_at hl 0 rfl) ?_
      refine lv_aload_n hx hb dX7_left_55 rfl (lv_at hl 0 rfl) ?_
      refine gf_RX7_194 C hP dX7_left_56 ?_
      refine lv_iload_n hx hb dX7_left_59 rfl (lv_at hl 1 rfl) ?_
      refine lv_iconst (v := 3) hx hb dX7_left_60 (by decide) ?_
      refine lv_icmp_ne (tgt := 68) hx hb dX7_left_61 (by decide) (fun c6 => ?_) (fun c6 => ?_)
      · replace h := ifn c6 h
        refine lv_iconst (v := 0) hx hb dX7_left_68 (by decide) ?_
        obtain ⟨r9, σ8, h7, h⟩ := bd2_some h
        refine goI C hD hS (runV (As := [.int (σ.1 12), .int 0]) (rest := []) (w := (mW G q σ)) C lc_RX7_212 (ctM_least N 20 σ σ8 (σ.1 12) 0 r9 h7 _) hP hD hS (va_recv C.2.2.2.2.2.1 hP (ci := 7) (q0 := 0) rfl rfl) hl.1 rfl rfl (by decide) (by decide) (Nat.le_of_ble_eq_true rfl) dX7_left_69) (fun H locs hP hD hS => ?_)
        obtain ⟨rfl, rfl⟩ := so2 h
        exact retI C hP hD hS dX7_left_72
      · replace h := ifp c6 h
        refine lv_iconst (v := 1) hx hb dX7_left_64 (by decide) ?_
        refine lv_goto (tgt := 69) hx hb dX7_left_65 (by decide) ?_
        obtain ⟨r12, σ11, h10, h⟩ := bd2_some h
        refine goI C hD hS (runV (As := [.int (σ.1 12), .int 1]) (rest := []) (w := (mW G q σ)) C lc_RX7_212 (ctM_least N 20 σ σ11 (σ.1 12) 1 r12 h10 _) hP hD hS (va_recv C.2.2.2.2.2.1 hP (ci := 7) (q0 := 0) rfl rfl) hl.1 rfl rfl (by decide) (by decide) (Nat.le_of_ble_eq_true rfl) dX7_left_69) (fun H locs hP hD hS => ?_)
        obtain ⟨rfl, rfl⟩ := so2 h
        exact retI C hP hD hS dX7_left_72
    · replace h := ifn c5 h
      refine lv_aload_n hx hb dX7_left_41 rfl (lv_at hl 0 rfl) ?_
      refine gf_RX7_68 C hP dX7_left_42 ?_
      refine lv_iload_n hx hb dX7_left_45 rfl (lv_at hl 2 rfl) ?_
      refine lv_iconst (v := 0) hx hb dX7_left_46 (by decide) ?_
      obtain ⟨i13, h⟩ := gi_some h
      refine stM_13 C hP hD hS i13 dX7_left_47 (fun H locs hP hD hS => ?_)
      refine lv_iinc (v := (v2 + 1)) (lv' := [(2, .int (v2 + 1)), (0, .ref (q 0)), (1, .int v1)]) hx hb dX7_left_48 hl (k := 2) rfl (by first | rfl | decide) (by decide) rfl (fun ls hl => ?_)
      refine lv_goto (tgt := 34) hx hb dX7_left_51 (by decide) ?_
      exact ih (v2 + 1) (sA σ 13 v2.toNatClampNeg (vp_nar .boolean 0)) _ _ _ h hP hD hS (lv_sub hl [1, 2, 0] rfl)

def fM_left (N : Nat) (σ : St) (a1 : Int32) : Option (Int32 × St) :=
  bd1 (fM_within N a1 0 3) (fun r2 => (if r2 = 0 then some ((-1), σ) else (if 2 ≤ a1 then fM_left_L34 N a1 N 0 σ else (if a1 = 0 then some ((σ.1 12), σ) else bd1 (fM_nextBest N σ ) (fun r16 => some (r16, σ))))))
set_option maxHeartbeats 4000000 in
set_option maxRecDepth 100000 in
theorem ctM_left {G : GP} {l : Launch} {q : Nat → Nat} (N : Nat) (σ σ' : St) (a1 : Int32) (r : Int32) (h : fM_left N σ a1 = some (r, σ')) : CI G l yX7_left cX7_left 3 (some .int) 23 [.ref (q 0), .int a1] (mW G q σ) (mW G q (σ')) r := by
  refine enterI (own := RX7) (by decide) rfl (Nat.le_of_ble_eq_true rfl) ?_
  intro p e s m args below meth c A C hP hD hS ls hl
  obtain ⟨hx, hb, hml, hown, hts, hK, hZ, hA, hlk, hr⟩ := id C
  have hl : lv_has ls 3 [(0, .ref (q 0)), (1, .int a1)] := hl
  rw [fM_left.eq_1] at h
  refine lv_iload_n hx hb dX7_left_0 rfl (lv_at hl 1 rfl) ?_
  refine lv_iconst (v := 0) hx hb dX7_left_1 (by decide) ?_
  refine lv_iconst (v := 3) hx hb dX7_left_2 (by decide) ?_
  obtain ⟨r2, h1, h⟩ := bd1_some h
  refine goI C hD hS (runS (As := [.int a1, .int 0, .int 3]) (rest := []) (w := (mW G q σ)) C lc_RX7_75 (ctM_within (w := (mW G q σ)) N a1 0 3 r2 h1 _) hP hD hS hl.1 rfl rfl (by decide) (by decide) (Nat.le_of_ble_eq_true rfl) dX7_left_3) (fun H locs hP hD hS => ?_)
  refine lv_if_ne (tgt := 11) hx hb dX7_left_6 (by decide) (fun c3 => ?_) (fun c3 => ?_)
  · replace h := ifn c3 h
    refine lv_iload_n hx hb dX7_left_11 rfl (lv_at hl 1 rfl) ?_
    refine lv_iconst (v := 2) hx hb dX7_left_12 (by decide) ?_
    refine lv_icmp_ge (tgt := 32) hx hb dX7_left_13 (by decide) (fun c4 => ?_) (fun c4 => ?_)
    · replace h := ifp c4 h
      refine lv_iconst (v := 0) hx hb dX7_left_32 (by decide) ?_
      refine lv_istore_n (lv' := [(2, .int 0), (0, .ref (q 0)), (1, .int a1)]) hx hb dX7_left_33 rfl hl (by decide) rfl (fun ls hl => ?_)
      exact wM_left_L34 C N a1 r σ' N 0 σ _ _ _ h hP hD hS (lv_sub hl [1, 2, 0] rfl)
    · replace h := ifn c4 h
      refine lv_iload_n hx hb dX7_left_16 rfl (lv_at hl 1 rfl) ?_
      refine lv_if_ne (tgt := 27) hx hb dX7_left_17 (by decide) (fun c14 => ?_) (fun c14 => ?_)
      · replace h := ifn c14 h
        refine lv_aload_n hx hb dX7_left_27 rfl (lv_at hl 0 rfl) ?_
        obtain ⟨r16, h15, h⟩ := bd1_some h
        refine goI C hD hS (runV (As := []) (rest := []) (w := (mW G q σ)) C lc_RX7_216 (ctM_nextBest N σ  r16 h15 _) hP hD hS (va_recv C.2.2.2.2.2.1 hP (ci := 7) (q0 := 0) rfl rfl) hl.1 rfl rfl (by decide) (by decide) (Nat.le_of_ble_eq_true rfl) dX7_left_28) (fun H locs hP hD hS => ?_)
        obtain ⟨rfl, rfl⟩ := so2 h
        exact retI C hP hD hS dX7_left_31
      · replace h := ifp c14 h
        refine lv_aload_n hx hb dX7_left_20 rfl (lv_at hl 0 rfl) ?_
        refine gf_RX7_194 C hP dX7_left_21 ?_
        refine lv_goto (tgt := 31) hx hb dX7_left_24 (by decide) ?_
        obtain ⟨rfl, rfl⟩ := so2 h
        exact retI C hP hD hS dX7_left_31
  · replace h := ifp c3 h
    refine lv_iconst (v := (-1)) hx hb dX7_left_9 (by decide) ?_
    obtain ⟨rfl, rfl⟩ := so2 h
    exact retI C hP hD hS dX7_left_10

end
