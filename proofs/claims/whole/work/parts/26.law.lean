section
variable {G : GP} {p : Program} {l : Launch} {e : Env} {s : State} {m : MethodId} {below : List Frame} {meth : Method} {c : Code} {b L : Nat} {xs : Nat → Int32}
/-- what the pure side must give -/
def StepOk (N : Nat) (Rl : St → St → Prop) : Prop := ∀ (k : Nat) (σX σM : St) (a b c : Int32), Rl σX σM → k < 32 → ∃ (r : Int32) (σX' σM' : St), opX N k σX a b c = some (r, σX') ∧ opM N k σM a b c = some (r, σM') ∧ Rl σX' σM'
set_option maxHeartbeats 40000000 in
set_option maxRecDepth 100000 in
theorem law_loop {N : Nat} {Rl : St → St → Prop} (hs0 : StepOk N Rl) (hL : L ≤ 2048) (C : Cx G p s m #[Value.ref b] meth c code 4 ret (Cond.arrayClass .int) RL (fun q : Nat => s.heap.size ≤ q)) (hX : va_X b L xs s s.heap) (hbl : b < s.heap.size) (qm : Nat → Nat) (q0 : Nat) :
    ∀ (n t : Nat) (x3 : Int32) (q : Nat → Nat) (σX σM : St) (kc ks : Nat) (H : Heap) (locs : List Loc) (ls : Array Slot), 4 * t ≤ L + 4 → 514 ≤ t + n → x3 = nI (4 * t) → kc = 100 + 5 * t → ks = 20000 + 28 * t → q 0 = q0 → Rl σX σM → va_P G.1 vwCl (xW G q σX ++ mW G qm σM) H → va_D (fun q : Nat => s.heap.size ≤ q) (xW G q σX ++ mW G qm σM) → va_S (fun q : Nat => s.heap.size ≤ q) s.heap H locs → lv_has ls 4 [(0, .ref b), (1, .ref (q 0)), (2, .ref (qm 0)), (3, .int x3)] → W p l e room_1 s m #[Value.ref b] below meth c H locs kc ks (lw_Z below #[Value.ref b] s) (F0 m 18 ls []) := by
  obtain ⟨hx, hb, hml, hown, hts, hK, hZ, hA, hlk, hr⟩ := id C
  have hK : va_K G.1 vwCl (tyG G) s := hK
  have hbA : ¬ (fun q : Nat => s.heap.size ≤ q) b := Nat.not_le.mpr hbl
  have hs : ∀ (k : Nat) (σX σM : St) (a b c : Int32), Rl σX σM → k < 32 → ∃ (r : Int32) (σX' σM' : St), opX N k σX a b c = some (r, σX') ∧ opM N k σM a b c = some (r, σM') ∧ Rl σX' σM' := hs0
  intro n
  induction n with
  | zero =>
    intro t x3 q σX σM kc ks H locs ls h1 h2
    omega
  | succ n ih =>
    intro t x3 q σX σM kc ks H locs ls ht htn ex3 hkc hks hq hR hP hD hS hl
    have hkc0 : kc + 0 ≤ room_1.cells := by show kc + 0 ≤ 600000; omega
    have hks0 : ks + 0 ≤ room_1.slots := by show ks + 0 ≤ 7302250; omega
    have hkc5 : kc + 5 ≤ room_1.cells := by show kc + 5 ≤ 600000; omega
    have hks5 : ks + 28 ≤ room_1.slots := by show ks + 28 ≤ 7302250; omega
    have hkc55 : kc + 5 + 0 ≤ room_1.cells := by show kc + 5 + 0 ≤ 600000; omega
    have hks55 : ks + 28 + 0 ≤ room_1.slots := by show ks + 28 + 0 ≤ 7302250; omega
    refine lv_iload_n hx hb dL_law_18 rfl (lv_at hl 3 rfl) ?_
    refine lv_aload_n hx hb dL_law_19 rfl (lv_at hl 0 rfl) ?_
    refine va_slen hx hb hX hbl hbA hS dL_law_20 ?_
    refine lv_iconst (v := 4) hx hb dL_law_21 (by decide) ?_
    refine lv_isub hx hb dL_law_22 ?_
    refine lv_icmp_gt (tgt := 1078) hx hb dL_law_23 (by decide) (fun c1 => ?_) (fun c1 => ?_)
    · refine lv_iconst (v := 1) hx hb dL_law_1078 (by decide) ?_
      refine va_forget (fun q hq => hS.2.2 q hq) ?_
      refine W.widen (k := 600000) (n := 7302250) (by omega) (by omega) ?_
      exact lw_ret hx hb hr hlk dL_law_1079
    · have hlt : 4 * t + 4 ≤ L := by
        have c2 : x3.toInt ≤ (Int32.ofNat L - 4).toInt := Int32.not_lt.mp c1 |> Int32.le_iff_toInt_le.mp
        have e1 : (Int32.ofNat L - 4).toInt = (L : Int) - 4 := pk_sub_toInt (a := L) (b := 4) (by omega) (by omega)
        rw [e1, ex3, nI_toInt (by omega)] at c2
        omega
      have hi0 : vp_in x3 L := by rw [ex3]; exact vp_in_nI (by omega) (by omega)
      have hi1 : vp_in (x3 + 1) L := by rw [ex3]; exact (nI_add (4 * t) 1) ▸ vp_in_nI (n := 4 * t + 1) (by omega) (by omega)
      have hi2 : vp_in (x3 + 2) L := by rw [ex3]; exact (nI_add (4 * t) 2) ▸ vp_in_nI (n := 4 * t + 2) (by omega) (by omega)
      have hi3 : vp_in (x3 + 3) L := by rw [ex3]; exact (nI_add (4 * t) 3) ▸ vp_in_nI (n := 4 * t + 3) (by omega) (by omega)
      have back : ∀ (q' : Nat → Nat) (σX2 σM2 : St) (H : Heap) (locs : List Loc) (ls : Array Slot), q' 0 = q 0 → Rl σX2 σM2 → va_P G.1 vwCl (xW G q' σX2 ++ mW G qm σM2) H → va_D (fun q : Nat => s.heap.size ≤ q) (xW G q' σX2 ++ mW G qm σM2) → va_S (fun q : Nat => s.heap.size ≤ q) s.heap H locs → lv_has ls 4 [(0, .ref b), (1, .ref (q 0)), (2, .ref (qm 0)), (3, .int x3)] → W p l e room_1 s m #[Value.ref b] below meth c H locs (kc + 5) (ks + 28) (lw_Z below #[Value.ref b] s) (F0 m 1072 ls []) := by
        intro q' σX2 σM2 H locs ls hq' hR2 hP hD hS hl
        rw [← hq'] at hl
        refine lv_iinc (v := x3 + 4) (lv' := [(3, .int (x3 + 4)), (0, .ref b), (1, .ref (q' 0)), (2, .ref (qm 0))]) hx hb dL_law_1072 hl (k := 3) rfl (by first | rfl | decide) (by decide) rfl (fun ls hl => ?_)
        refine lv_goto (tgt := 18) hx hb dL_law_1075 (by decide) ?_
        exact ih (t + 1) (x3 + 4) q' σX2 σM2 (kc + 5) (ks + 28) H locs ls (by omega) (by omega) (by rw [ex3]; exact nI_add (4 * t) 4) (by omega) (by omega) (hq'.trans hq) hR2 hP hD hS (lv_sub hl [1, 2, 3, 0] rfl)
      refine lv_aload_n hx hb dL_law_26 rfl (lv_at hl 0 rfl) ?_
      refine lv_iload_n hx hb dL_law_27 rfl (lv_at hl 3 rfl) ?_
      refine va_sld hx hb hX hbl hbA hS hi0 dL_law_28 ?_
      refine lv_bipush (v := 31) hx hb dL_law_29 (by decide) ?_
      refine lv_iand hx hb dL_law_31 ?_
      obtain ⟨j, hj32, hj⟩ := pk_andE (xs x3.toNatClampNeg) (m := 31) 5 (by decide)
      have hj32 : j < 32 := hj32
      clear ih hs0
      rcases (show j = 0 ∨ j = 1 ∨ j = 2 ∨ j = 3 ∨ j = 4 ∨ j = 5 ∨ j = 6 ∨ j = 7 ∨ j = 8 ∨ j = 9 ∨ j = 10 ∨ j = 11 ∨ j = 12 ∨ j = 13 ∨ j = 14 ∨ j = 15 ∨ j = 16 ∨ j = 17 ∨ j = 18 ∨ j = 19 ∨ j = 20 ∨ j = 21 ∨ j = 22 ∨ j = 23 ∨ j = 24 ∨ j = 25 ∨ j = 26 ∨ j = 27 ∨ j = 28 ∨ j = 29 ∨ j = 30 ∨ j = 31 by omega) with rfl | rfl | rfl | rfl | rfl | rfl | rfl | rfl | rfl | rfl | rfl | rfl | rfl | rfl | rfl | rfl | rfl | rfl | rfl | rfl | rfl | rfl | rfl | rfl | rfl | rfl | rfl | rfl | rfl | rfl | rfl | rfl
      · obtain ⟨r, σX2, σM2, e1, e2, hR2⟩ := hs 0 σX σM (xs (x3 + 1).toNatClampNeg) (xs (x3 + 2).toNatClampNeg) (xs (x3 + 3).toNatClampNeg) hR (by decide)
        refine lv_tableIn (off := 144) (tgt := 176) hx hb dL_law_32 (by rw [hj]; decide) (by rw [hj]; decide) (by rw [hj]; rfl) (by decide) ?_
        refine lv_aload_n hx hb dL_law_176 rfl (lv_at hl 1 rfl) ?_
        refine lv_aload_n hx hb dL_law_177 rfl (lv_at hl 0 rfl) ?_
        refine lv_iload_n hx hb dL_law_178 rfl (lv_at hl 3 rfl) ?_
        refine lv_iconst (v := 1) hx hb dL_law_179 (by decide) ?_
        refine lv_iadd hx hb dL_law_180 ?_
        refine va_sld hx hb hX hbl hbA hS hi1 dL_law_181 ?_
        refine lv_aload_n hx hb dL_law_182 rfl (lv_at hl 0 rfl) ?_
        refine lv_iload_n hx hb dL_law_183 rfl (lv_at hl 3 rfl) ?_
        refine lv_iconst (v := 2) hx hb dL_law_184 (by decide) ?_
        refine lv_iadd hx hb dL_law_185 ?_
        refine va_sld hx hb hX hbl hbA hS hi2 dL_law_186 ?_
        refine goIf (S := Unit) (wS := fun _ => xW G q σX2) (w := xW G q σX) (x := mW G qm σM) C hP hD hS (runVg (As := [.int (xs (x3 + 1).toNatClampNeg), .int (xs (x3 + 2).toNatClampNeg)]) (rest := []) (w := xW G q σX) C lc_RL_13 (ctX6_station N σX σX2 (xs (x3 + 1).toNatClampNeg) (xs (x3 + 2).toNatClampNeg) r e1 _) (pfP hP) (pfD hD) hS (va_recv hK (pfP hP) (ci := 6) (q0 := 0) rfl rfl) hl.1 rfl rfl rfl rfl ⟨Nat.le_of_ble_eq_true rfl, Nat.le_of_ble_eq_true rfl⟩ (Nat.le_of_ble_eq_true rfl) dL_law_187 ⟨hkc0, hks0⟩) (fun _ H locs hP hD hS => ?_)
        have hP := swP hP
        have hD := swD hD
        refine lv_aload_n hx hb dL_law_190 rfl (lv_at hl 2 rfl) ?_
        refine lv_aload_n hx hb dL_law_191 rfl (lv_at hl 0 rfl) ?_
        refine lv_iload_n hx hb dL_law_192 rfl (lv_at hl 3 rfl) ?_
        refine lv_iconst (v := 1) hx hb dL_law_193 (by decide) ?_
        refine lv_iadd hx hb dL_law_194 ?_
        refine va_sld hx hb hX hbl hbA hS hi1 dL_law_195 ?_
        refine lv_aload_n hx hb dL_law_196 rfl (lv_at hl 0 rfl) ?_
        refine lv_iload_n hx hb dL_law_197 rfl (lv_at hl 3 rfl) ?_
        refine lv_iconst (v := 2) hx hb dL_law_198 (by decide) ?_
        refine lv_iadd hx hb dL_law_199 ?_
        refine va_sld hx hb hX hbl hbA hS hi2 dL_law_200 ?_
        refine goIf (S := Unit) (wS := fun _ => mW G qm σM2) (w := mW G qm σM) (x := xW G q σX2) C hP hD hS (runVg (As := [.int (xs (x3 + 1).toNatClampNeg), .int (xs (x3 + 2).toNatClampNeg)]) (rest := [.int r]) (w := mW G qm σM) C lc_RL_17 (ctM_station N σM σM2 (xs (x3 + 1).toNatClampNeg) (xs (x3 + 2).toNatClampNeg) r e2 _) (pfP hP) (pfD hD) hS (va_recv hK (pfP hP) (ci := 7) (q0 := 0) rfl rfl) hl.1 rfl rfl rfl rfl ⟨Nat.le_of_ble_eq_true rfl, Nat.le_of_ble_eq_true rfl⟩ (Nat.le_of_ble_eq_true rfl) dL_law_201 ⟨hkc0, hks0⟩) (fun _ H locs hP hD hS => ?_)
        have hP := swP hP
        have hD := swD hD
        refine lv_icmp_eq (tgt := 1072) hx hb dL_law_204 (by decide) (fun _ => ?_) (fun c1 => absurd rfl c1)
        refine W.widen (k := kc + 5) (n := ks + 28) (by omega) (by omega) ?_
        exact back q σX2 σM2 H locs ls rfl hR2 hP hD hS hl
      · obtain ⟨r, σX2, σM2, e1, e2, hR2⟩ := hs 1 σX σM (xs (x3 + 1).toNatClampNeg) (xs (x3 + 2).toNatClampNeg) (xs (x3 + 3).toNatClampNeg) hR (by decide)
        refine lv_tableIn (off := 177) (tgt := 209) hx hb dL_law_32 (by rw [hj]; decide) (by rw [hj]; decide) (by rw [hj]; rfl) (by decide) ?_
        refine lv_aload_n hx hb dL_law_209 rfl (lv_at hl 1 rfl) ?_
        refine lv_aload_n hx hb dL_law_210 rfl (lv_at hl 0 rfl) ?_
        refine lv_iload_n hx hb dL_law_211 rfl (lv_at hl 3 rfl) ?_
        refine lv_iconst (v := 1) hx hb dL_law_212 (by decide) ?_
        refine lv_iadd hx hb dL_law_213 ?_
        refine va_sld hx hb hX hbl hbA hS hi1 dL_law_214 ?_
        refine lv_aload_n hx hb dL_law_215 rfl (lv_at hl 0 rfl) ?_
        refine lv_iload_n hx hb dL_law_216 rfl (lv_at hl 3 rfl) ?_
        refine lv_iconst (v := 2) hx hb dL_law_217 (by decide) ?_
        refine lv_iadd hx hb dL_law_218 ?_
        refine va_sld hx hb hX hbl hbA hS hi2 dL_law_219 ?_
        refine goIf (S := Unit) (wS := fun _ => xW G q σX2) (w := xW G q σX) (x := mW G qm σM) C hP hD hS (runVg (As := [.int (xs (x3 + 1).toNatClampNeg), .int (xs (x3 + 2).toNatClampNeg)]) (rest := []) (w := xW G q σX) C lc_RL_18 (ctX6_plan N σX σX2 (xs (x3 + 1).toNatClampNeg) (xs (x3 + 2).toNatClampNeg) r e1 _) (pfP hP) (pfD hD) hS (va_recv hK (pfP hP) (ci := 6) (q0 := 0) rfl rfl) hl.1 rfl rfl rfl rfl ⟨Nat.le_of_ble_eq_true rfl, Nat.le_of_ble_eq_true rfl⟩ (Nat.le_of_ble_eq_true rfl) dL_law_220 ⟨hkc0, hks0⟩) (fun _ H locs hP hD hS => ?_)
        have hP := swP hP
        have hD := swD hD
        refine lv_aload_n hx hb dL_law_223 rfl (lv_at hl 2 rfl) ?_
        refine lv_aload_n hx hb dL_law_224 rfl (lv_at hl 0 rfl) ?_
        refine lv_iload_n hx hb dL_law_225 rfl (lv_at hl 3 rfl) ?_
        refine lv_iconst (v := 1) hx hb dL_law_226 (by decide) ?_
        refine lv_iadd hx hb dL_law_227 ?_
        refine va_sld hx hb hX hbl hbA hS hi1 dL_law_228 ?_
        refine lv_aload_n hx hb dL_law_229 rfl (lv_at hl 0 rfl) ?_
        refine lv_iload_n hx hb dL_law_230 rfl (lv_at hl 3 rfl) ?_
        refine lv_iconst (v := 2) hx hb dL_law_231 (by decide) ?_
        refine lv_iadd hx hb dL_law_232 ?_
        refine va_sld hx hb hX hbl hbA hS hi2 dL_law_233 ?_
        refine goIf (S := Unit) (wS := fun _ => mW G qm σM2) (w := mW G qm σM) (x := xW G q σX2) C hP hD hS (runVg (As := [.int (xs (x3 + 1).toNatClampNeg), .int (xs (x3 + 2).toNatClampNeg)]) (rest := [.int r]) (w := mW G qm σM) C lc_RL_21 (ctM_plan N σM σM2 (xs (x3 + 1).toNatClampNeg) (xs (x3 + 2).toNatClampNeg) r e2 _) (pfP hP) (pfD hD) hS (va_recv hK (pfP hP) (ci := 7) (q0 := 0) rfl rfl) hl.1 rfl rfl rfl rfl ⟨Nat.le_of_ble_eq_true rfl, Nat.le_of_ble_eq_true rfl⟩ (Nat.le_of_ble_eq_true rfl) dL_law_234 ⟨hkc0, hks0⟩) (fun _ H locs hP hD hS => ?_)
        have hP := swP hP
        have hD := swD hD
        refine lv_icmp_eq (tgt := 1072) hx hb dL_law_237 (by decide) (fun _ => ?_) (fun c1 => absurd rfl c1)
        refine W.widen (k := kc + 5) (n := ks + 28) (by omega) (by omega) ?_
        exact back q σX2 σM2 H locs ls rfl hR2 hP hD hS hl
      · obtain ⟨r, σX2, σM2, e1, e2, hR2⟩ := hs 2 σX σM (xs (x3 + 1).toNatClampNeg) (xs (x3 + 2).toNatClampNeg) (xs (x3 + 3).toNatClampNeg) hR (by decide)
        obtain ⟨f1, rfl⟩ := lf_some e1
        obtain ⟨f2, rfl⟩ := lf_some e2
        refine lv_tableIn (off := 210) (tgt := 242) hx hb dL_law_32 (by rw [hj]; decide) (by rw [hj]; decide) (by rw [hj]; rfl) (by decide) ?_
        refine lv_aload_n hx hb dL_law_242 rfl (lv_at hl 1 rfl) ?_
        refine lv_aload_n hx hb dL_law_243 rfl (lv_at hl 0 rfl) ?_
        refine lv_iload_n hx hb dL_law_244 rfl (lv_at hl 3 rfl) ?_
        refine lv_iconst (v := 1) hx hb dL_law_245 (by decide) ?_
        refine lv_iadd hx hb dL_law_246 ?_
        refine va_sld hx hb hX hbl hbA hS hi1 dL_law_247 ?_
        refine goIf (S := Unit) (wS := fun _ => xW G q σX) (w := xW G q σX) (x := mW G qm σM) C hP hD hS (runVg (As := [.int (xs (x3 + 1).toNatClampNeg)]) (rest := []) (w := xW G q σX) C lc_RL_22 (ctX6_oscillator N σX (xs (x3 + 1).toNatClampNeg) r f1 _) (pfP hP) (pfD hD) hS (va_recv hK (pfP hP) (ci := 6) (q0 := 0) rfl rfl) hl.1 rfl rfl rfl rfl ⟨Nat.le_of_ble_eq_true rfl, Nat.le_of_ble_eq_true rfl⟩ (Nat.le_of_ble_eq_true rfl) dL_law_248 ⟨hkc0, hks0⟩) (fun _ H locs hP hD hS => ?_)
        have hP := swP hP
        have hD := swD hD
        refine lv_aload_n hx hb dL_law_251 rfl (lv_at hl 2 rfl) ?_
        refine lv_aload_n hx hb dL_law_252 rfl (lv_at hl 0 rfl) ?_
        refine lv_iload_n hx hb dL_law_253 rfl (lv_at hl 3 rfl) ?_
        refine lv_iconst (v := 1) hx hb dL_law_254 (by decide) ?_
        refine lv_iadd hx hb dL_law_255 ?_
        refine va_sld hx hb hX hbl hbA hS hi1 dL_law_256 ?_
        refine goIf (S := Unit) (wS := fun _ => mW G qm σM) (w := mW G qm σM) (x := xW G q σX) C hP hD hS (runVg (As := [.int (xs (x3 + 1).toNatClampNeg)]) (rest := [.int r]) (w := mW G qm σM) C lc_RL_26 (ctM_oscillator N σM (xs (x3 + 1).toNatClampNeg) r f2 _) (pfP hP) (pfD hD) hS (va_recv hK (pfP hP) (ci := 7) (q0 := 0) rfl rfl) hl.1 rfl rfl rfl rfl ⟨Nat.le_of_ble_eq_true rfl, Nat.le_of_ble_eq_true rfl⟩ (Nat.le_of_ble_eq_true rfl) dL_law_257 ⟨hkc0, hks0⟩) (fun _ H locs hP hD hS => ?_)
        have hP := swP hP
        have hD := swD hD
        refine lv_icmp_eq (tgt := 1072) hx hb dL_law_260 (by decide) (fun _ => ?_) (fun c1 => absurd rfl c1)
        refine W.widen (k := kc + 5) (n := ks + 28) (by omega) (by omega) ?_
        exact back q σX σM H locs ls rfl hR2 hP hD hS hl
      · obtain ⟨r, σX2, σM2, e1, e2, hR2⟩ := hs 3 σX σM (xs (x3 + 1).toNatClampNeg) (xs (x3 + 2).toNatClampNeg) (xs (x3 + 3).toNatClampNeg) hR (by decide)
        refine lv_tableIn (off := 233) (tgt := 265) hx hb dL_law_32 (by rw [hj]; decide) (by rw [hj]; decide) (by rw [hj]; rfl) (by decide) ?_
        refine lv_aload_n hx hb dL_law_265 rfl (lv_at hl 1 rfl) ?_
        refine lv_aload_n hx hb dL_law_266 rfl (lv_at hl 0 rfl) ?_
        refine lv_iload_n hx hb dL_law_267 rfl (lv_at hl 3 rfl) ?_
        refine lv_iconst (v := 1) hx hb dL_law_268 (by decide) ?_
        refine lv_iadd hx hb dL_law_269 ?_
        refine va_sld hx hb hX hbl hbA hS hi1 dL_law_270 ?_
        refine goIf (S := Unit) (wS := fun _ => xW G q σX2) (w := xW G q σX) (x := mW G qm σM) C hP hD hS (runVg (As := [.int (xs (x3 + 1).toNatClampNeg)]) (rest := []) (w := xW G q σX) C lc_RL_27 (ctX6_spurs N σX σX2 (xs (x3 + 1).toNatClampNeg) r e1 _) (pfP hP) (pfD hD) hS (va_recv hK (pfP hP) (ci := 6) (q0 := 0) rfl rfl) hl.1 rfl rfl rfl rfl ⟨Nat.le_of_ble_eq_true rfl, Nat.le_of_ble_eq_true rfl⟩ (Nat.le_of_ble_eq_true rfl) dL_law_271 ⟨hkc0, hks0⟩) (fun _ H locs hP hD hS => ?_)
        have hP := swP hP
        have hD := swD hD
        refine lv_aload_n hx hb dL_law_274 rfl (lv_at hl 2 rfl) ?_
        refine lv_aload_n hx hb dL_law_275 rfl (lv_at hl 0 rfl) ?_
        refine lv_iload_n hx hb dL_law_276 rfl (lv_at hl 3 rfl) ?_
        refine lv_iconst (v := 1) hx hb dL_law_277 (by decide) ?_
        refine lv_iadd hx hb dL_law_278 ?_
        refine va_sld hx hb hX hbl hbA hS hi1 dL_law_279 ?_
        refine goIf (S := Unit) (wS := fun _ => mW G qm σM2) (w := mW G qm σM) (x := xW G q σX2) C hP hD hS (runVg (As := [.int (xs (x3 + 1).toNatClampNeg)]) (rest := [.int r]) (w := mW G qm σM) C lc_RL_30 (ctM_spurs N σM σM2 (xs (x3 + 1).toNatClampNeg) r e2 _) (pfP hP) (pfD hD) hS (va_recv hK (pfP hP) (ci := 7) (q0 := 0) rfl rfl) hl.1 rfl rfl rfl rfl ⟨Nat.le_of_ble_eq_true rfl, Nat.le_of_ble_eq_true rfl⟩ (Nat.le_of_ble_eq_true rfl) dL_law_280 ⟨hkc0, hks0⟩) (fun _ H locs hP hD hS => ?_)
        have hP := swP hP
        have hD := swD hD
        refine lv_icmp_eq (tgt := 1072) hx hb dL_law_283 (by decide) (fun _ => ?_) (fun c1 => absurd rfl c1)
        refine W.widen (k := kc + 5) (n := ks + 28) (by omega) (by omega) ?_
        exact back q σX2 σM2 H locs ls rfl hR2 hP hD hS hl
      · obtain ⟨r, σX2, σM2, e1, e2, hR2⟩ := hs 4 σX σM (xs (x3 + 1).toNatClampNeg) (xs (x3 + 2).toNatClampNeg) (xs (x3 + 3).toNatClampNeg) hR (by decide)
        refine lv_tableIn (off := 256) (tgt := 288) hx hb dL_law_32 (by rw [hj]; decide) (by rw [hj]; decide) (by rw [hj]; rfl) (by decide) ?_
        refine lv_aload_n hx hb dL_law_288 rfl (lv_at hl 1 rfl) ?_
        refine lv_aload_n hx hb dL_law_289 rfl (lv_at hl 0 rfl) ?_
        refine lv_iload_n hx hb dL_law_290 rfl (lv_at hl 3 rfl) ?_
        refine lv_iconst (v := 1) hx hb dL_law_291 (by decide) ?_
        refine lv_iadd hx hb dL_law_292 ?_
        refine va_sld hx hb hX hbl hbA hS hi1 dL_law_293 ?_
        refine lv_aload_n hx hb dL_law_294 rfl (lv_at hl 0 rfl) ?_
        refine lv_iload_n hx hb dL_law_295 rfl (lv_at hl 3 rfl) ?_
        refine lv_iconst (v := 2) hx hb dL_law_296 (by decide) ?_
        refine lv_iadd hx hb dL_law_297 ?_
        refine va_sld hx hb hX hbl hbA hS hi2 dL_law_298 ?_
        refine lv_aload_n hx hb dL_law_299 rfl (lv_at hl 0 rfl) ?_
        refine lv_iload_n hx hb dL_law_300 rfl (lv_at hl 3 rfl) ?_
        refine lv_iconst (v := 3) hx hb dL_law_301 (by decide) ?_
        refine lv_iadd hx hb dL_law_302 ?_
        refine va_sld hx hb hX hbl hbA hS hi3 dL_law_303 ?_
        refine goIf (S := Unit) (wS := fun _ => xW G q σX2) (w := xW G q σX) (x := mW G qm σM) C hP hD hS (runVg (As := [.int (xs (x3 + 1).toNatClampNeg), .int (xs (x3 + 2).toNatClampNeg), .int (xs (x3 + 3).toNatClampNeg)]) (rest := []) (w := xW G q σX) C lc_RL_31 (ctX6_spur N σX σX2 (xs (x3 + 1).toNatClampNeg) (xs (x3 + 2).toNatClampNeg) (xs (x3 + 3).toNatClampNeg) r e1 _) (pfP hP) (pfD hD) hS (va_recv hK (pfP hP) (ci := 6) (q0 := 0) rfl rfl) hl.1 rfl rfl rfl rfl ⟨Nat.le_of_ble_eq_true rfl, Nat.le_of_ble_eq_true rfl⟩ (Nat.le_of_ble_eq_true rfl) dL_law_304 ⟨hkc0, hks0⟩) (fun _ H locs hP hD hS => ?_)
        have hP := swP hP
        have hD := swD hD
        refine lv_aload_n hx hb dL_law_307 rfl (lv_at hl 2 rfl) ?_
        refine lv_aload_n hx hb dL_law_308 rfl (lv_at hl 0 rfl) ?_
        refine lv_iload_n hx hb dL_law_309 rfl (lv_at hl 3 rfl) ?_
        refine lv_iconst (v := 1) hx hb dL_law_310 (by decide) ?_
        refine lv_iadd hx hb dL_law_311 ?_
        refine va_sld hx hb hX hbl hbA hS hi1 dL_law_312 ?_
        refine lv_aload_n hx hb dL_law_313 rfl (lv_at hl 0 rfl) ?_
        refine lv_iload_n hx hb dL_law_314 rfl (lv_at hl 3 rfl) ?_
        refine lv_iconst (v := 2) hx hb dL_law_315 (by decide) ?_
        refine lv_iadd hx hb dL_law_316 ?_
        refine va_sld hx hb hX hbl hbA hS hi2 dL_law_317 ?_
        refine lv_aload_n hx hb dL_law_318 rfl (lv_at hl 0 rfl) ?_
        refine lv_iload_n hx hb dL_law_319 rfl (lv_at hl 3 rfl) ?_
        refine lv_iconst (v := 3) hx hb dL_law_320 (by decide) ?_
        refine lv_iadd hx hb dL_law_321 ?_
        refine va_sld hx hb hX hbl hbA hS hi3 dL_law_322 ?_
        refine goIf (S := Unit) (wS := fun _ => mW G qm σM2) (w := mW G qm σM) (x := xW G q σX2) C hP hD hS (runVg (As := [.int (xs (x3 + 1).toNatClampNeg), .int (xs (x3 + 2).toNatClampNeg), .int (xs (x3 + 3).toNatClampNeg)]) (rest := [.int r]) (w := mW G qm σM) C lc_RL_35 (ctM_spur N σM σM2 (xs (x3 + 1).toNatClampNeg) (xs (x3 + 2).toNatClampNeg) (xs (x3 + 3).toNatClampNeg) r e2 _) (pfP hP) (pfD hD) hS (va_recv hK (pfP hP) (ci := 7) (q0 := 0) rfl rfl) hl.1 rfl rfl rfl rfl ⟨Nat.le_of_ble_eq_true rfl, Nat.le_of_ble_eq_true rfl⟩ (Nat.le_of_ble_eq_true rfl) dL_law_323 ⟨hkc0, hks0⟩) (fun _ H locs hP hD hS => ?_)
        have hP := swP hP
        have hD := swD hD
        refine lv_icmp_eq (tgt := 1072) hx hb dL_law_326 (by decide) (fun _ => ?_) (fun c1 => absurd rfl c1)
        refine W.widen (k := kc + 5) (n := ks + 28) (by omega) (by omega) ?_
        exact back q σX2 σM2 H locs ls rfl hR2 hP hD hS hl
      · obtain ⟨r, σX2, σM2, e1, e2, hR2⟩ := hs 5 σX σM (xs (x3 + 1).toNatClampNeg) (xs (x3 + 2).toNatClampNeg) (xs (x3 + 3).toNatClampNeg) hR (by decide)
        obtain ⟨f1, rfl⟩ := lf_some e1
        obtain ⟨f2, rfl⟩ := lf_some e2
        refine lv_tableIn (off := 299) (tgt := 331) hx hb dL_law_32 (by rw [hj]; decide) (by rw [hj]; decide) (by rw [hj]; rfl) (by decide) ?_
        refine lv_aload_n hx hb dL_law_331 rfl (lv_at hl 1 rfl) ?_
        refine lv_aload_n hx hb dL_law_332 rfl (lv_at hl 0 rfl) ?_
        refine lv_iload_n hx hb dL_law_333 rfl (lv_at hl 3 rfl) ?_
        refine lv_iconst (v := 1) hx hb dL_law_334 (by decide) ?_
        refine lv_iadd hx hb dL_law_335 ?_
        refine va_sld hx hb hX hbl hbA hS hi1 dL_law_336 ?_
        refine lv_aload_n hx hb dL_law_337 rfl (lv_at hl 0 rfl) ?_
        refine lv_iload_n hx hb dL_law_338 rfl (lv_at hl 3 rfl) ?_
        refine lv_iconst (v := 2) hx hb dL_law_339 (by decide) ?_
        refine lv_iadd hx hb dL_law_340 ?_
        refine va_sld hx hb hX hbl hbA hS hi2 dL_law_341 ?_
        refine goIf (S := Unit) (wS := fun _ => xW G q σX) (w := xW G q σX) (x := mW G qm σM) C hP hD hS (runVg (As := [.int (xs (x3 + 1).toNatClampNeg), .int (xs (x3 + 2).toNatClampNeg)]) (rest := []) (w := xW G q σX) C lc_RL_36 (ctX6_image N σX (xs (x3 + 1).toNatClampNeg) (xs (x3 + 2).toNatClampNeg) r f1 _) (pfP hP) (pfD hD) hS (va_recv hK (pfP hP) (ci := 6) (q0 := 0) rfl rfl) hl.1 rfl rfl rfl rfl ⟨Nat.le_of_ble_eq_true rfl, Nat.le_of_ble_eq_true rfl⟩ (Nat.le_of_ble_eq_true rfl) dL_law_342 ⟨hkc0, hks0⟩) (fun _ H locs hP hD hS => ?_)
        have hP := swP hP
        have hD := swD hD
        refine lv_aload_n hx hb dL_law_345 rfl (lv_at hl 2 rfl) ?_
        refine lv_aload_n hx hb dL_law_346 rfl (lv_at hl 0 rfl) ?_
        refine lv_iload_n hx hb dL_law_347 rfl (lv_at hl 3 rfl) ?_
        refine lv_iconst (v := 1) hx hb dL_law_348 (by decide) ?_
        refine lv_iadd hx hb dL_law_349 ?_
        refine va_sld hx hb hX hbl hbA hS hi1 dL_law_350 ?_
        refine lv_aload_n hx hb dL_law_351 rfl (lv_at hl 0 rfl) ?_
        refine lv_iload_n hx hb dL_law_352 rfl (lv_at hl 3 rfl) ?_
        refine lv_iconst (v := 2) hx hb dL_law_353 (by decide) ?_
        refine lv_iadd hx hb dL_law_354 ?_
        refine va_sld hx hb hX hbl hbA hS hi2 dL_law_355 ?_
        refine goIf (S := Unit) (wS := fun _ => mW G qm σM) (w := mW G qm σM) (x := xW G q σX) C hP hD hS (runVg (As := [.int (xs (x3 + 1).toNatClampNeg), .int (xs (x3 + 2).toNatClampNeg)]) (rest := [.int r]) (w := mW G qm σM) C lc_RL_39 (ctM_image N σM (xs (x3 + 1).toNatClampNeg) (xs (x3 + 2).toNatClampNeg) r f2 _) (pfP hP) (pfD hD) hS (va_recv hK (pfP hP) (ci := 7) (q0 := 0) rfl rfl) hl.1 rfl rfl rfl rfl ⟨Nat.le_of_ble_eq_true rfl, Nat.le_of_ble_eq_true rfl⟩ (Nat.le_of_ble_eq_true rfl) dL_law_356 ⟨hkc0, hks0⟩) (fun _ H locs hP hD hS => ?_)
        have hP := swP hP
        have hD := swD hD
        refine lv_icmp_eq (tgt := 1072) hx hb dL_law_359 (by decide) (fun _ => ?_) (fun c1 => absurd rfl c1)
        refine W.widen (k := kc + 5) (n := ks + 28) (by omega) (by omega) ?_
        exact back q σX σM H locs ls rfl hR2 hP hD hS hl
      · obtain ⟨r, σX2, σM2, e1, e2, hR2⟩ := hs 6 σX σM (xs (x3 + 1).toNatClampNeg) (xs (x3 + 2).toNatClampNeg) (xs (x3 + 3).toNatClampNeg) hR (by decide)
        refine lv_tableIn (off := 332) (tgt := 364) hx hb dL_law_32 (by rw [hj]; decide) (by rw [hj]; decide) (by rw [hj]; rfl) (by decide) ?_
        refine lv_aload_n hx hb dL_law_364 rfl (lv_at hl 1 rfl) ?_
        refine lv_aload_n hx hb dL_law_365 rfl (lv_at hl 0 rfl) ?_
        refine lv_iload_n hx hb dL_law_366 rfl (lv_at hl 3 rfl) ?_
        refine lv_iconst (v := 1) hx hb dL_law_367 (by decide) ?_
        refine lv_iadd hx hb dL_law_368 ?_
        refine va_sld hx hb hX hbl hbA hS hi1 dL_law_369 ?_
        refine goIf (S := Unit) (wS := fun _ => xW G q σX2) (w := xW G q σX) (x := mW G qm σM) C hP hD hS (runVg (As := [.int (xs (x3 + 1).toNatClampNeg)]) (rest := []) (w := xW G q σX) C lc_RL_40 (ctX6_worst N σX σX2 (xs (x3 + 1).toNatClampNeg) r e1 _) (pfP hP) (pfD hD) hS (va_recv hK (pfP hP) (ci := 6) (q0 := 0) rfl rfl) hl.1 rfl rfl rfl rfl ⟨Nat.le_of_ble_eq_true rfl, Nat.le_of_ble_eq_true rfl⟩ (Nat.le_of_ble_eq_true rfl) dL_law_370 ⟨hkc0, hks0⟩) (fun _ H locs hP hD hS => ?_)
        have hP := swP hP
        have hD := swD hD
        refine lv_aload_n hx hb dL_law_373 rfl (lv_at hl 2 rfl) ?_
        refine lv_aload_n hx hb dL_law_374 rfl (lv_at hl 0 rfl) ?_
        refine lv_iload_n hx hb dL_law_375 rfl (lv_at hl 3 rfl) ?_
        refine lv_iconst (v := 1) hx hb dL_law_376 (by decide) ?_
        refine lv_iadd hx hb dL_law_377 ?_
        refine va_sld hx hb hX hbl hbA hS hi1 dL_law_378 ?_
        refine goIf (S := Unit) (wS := fun _ => mW G qm σM2) (w := mW G qm σM) (x := xW G q σX2) C hP hD hS (runVg (As := [.int (xs (x3 + 1).toNatClampNeg)]) (rest := [.int r]) (w := mW G qm σM) C lc_RL_43 (ctM_worst N σM σM2 (xs (x3 + 1).toNatClampNeg) r e2 _) (pfP hP) (pfD hD) hS (va_recv hK (pfP hP) (ci := 7) (q0 := 0) rfl rfl) hl.1 rfl rfl rfl rfl ⟨Nat.le_of_ble_eq_true rfl, Nat.le_of_ble_eq_true rfl⟩ (Nat.le_of_ble_eq_true rfl) dL_law_379 ⟨hkc0, hks0⟩) (fun _ H locs hP hD hS => ?_)
        have hP := swP hP
        have hD := swD hD
        refine lv_icmp_eq (tgt := 1072) hx hb dL_law_382 (by decide) (fun _ => ?_) (fun c1 => absurd rfl c1)
        refine W.widen (k := kc + 5) (n := ks + 28) (by omega) (by omega) ?_
        exact back q σX2 σM2 H locs ls rfl hR2 hP hD hS hl
      · obtain ⟨r, σX2, σM2, e1, e2, hR2⟩ := hs 7 σX σM (xs (x3 + 1).toNatClampNeg) (xs (x3 + 2).toNatClampNeg) (xs (x3 + 3).toNatClampNeg) hR (by decide)
        obtain ⟨f1, rfl⟩ := lf_some e1
        obtain ⟨f2, rfl⟩ := lf_some e2
        refine lv_tableIn (off := 355) (tgt := 387) hx hb dL_law_32 (by rw [hj]; decide) (by rw [hj]; decide) (by rw [hj]; rfl) (by decide) ?_
        refine lv_aload_n hx hb dL_law_387 rfl (lv_at hl 1 rfl) ?_
        refine goIf (S := Unit) (wS := fun _ => xW G q σX) (w := xW G q σX) (x := mW G qm σM) C hP hD hS (runVg (As := []) (rest := []) (w := xW G q σX) C lc_RL_44 (ctX6_birdies N σX  r f1 _) (pfP hP) (pfD hD) hS (va_recv hK (pfP hP) (ci := 6) (q0 := 0) rfl rfl) hl.1 rfl rfl rfl rfl ⟨Nat.le_of_ble_eq_true rfl, Nat.le_of_ble_eq_true rfl⟩ (Nat.le_of_ble_eq_true rfl) dL_law_388 ⟨hkc0, hks0⟩) (fun _ H locs hP hD hS => ?_)
        have hP := swP hP
        have hD := swD hD
        refine lv_aload_n hx hb dL_law_391 rfl (lv_at hl 2 rfl) ?_
        refine goIf (S := Unit) (wS := fun _ => mW G qm σM) (w := mW G qm σM) (x := xW G q σX) C hP hD hS (runVg (As := []) (rest := [.int r]) (w := mW G qm σM) C lc_RL_48 (ctM_birdies N σM  r f2 _) (pfP hP) (pfD hD) hS (va_recv hK (pfP hP) (ci := 7) (q0 := 0) rfl rfl) hl.1 rfl rfl rfl rfl ⟨Nat.le_of_ble_eq_true rfl, Nat.le_of_ble_eq_true rfl⟩ (Nat.le_of_ble_eq_true rfl) dL_law_392 ⟨hkc0, hks0⟩) (fun _ H locs hP hD hS => ?_)
        have hP := swP hP
        have hD := swD hD
        refine lv_icmp_eq (tgt := 1072) hx hb dL_law_395 (by decide) (fun _ => ?_) (fun c1 => absurd rfl c1)
        refine W.widen (k := kc + 5) (n := ks + 28) (by omega) (by omega) ?_
        exact back q σX σM H locs ls rfl hR2 hP hD hS hl
      · obtain ⟨r, σX2, σM2, e1, e2, hR2⟩ := hs 8 σX σM (xs (x3 + 1).toNatClampNeg) (xs (x3 + 2).toNatClampNeg) (xs (x3 + 3).toNatClampNeg) hR (by decide)
        obtain ⟨f2, rfl⟩ := lf_some e2
        refine lv_tableIn (off := 368) (tgt := 400) hx hb dL_law_32 (by rw [hj]; decide) (by rw [hj]; decide) (by rw [hj]; rfl) (by decide) ?_
        refine lv_aload_n hx hb dL_law_400 rfl (lv_at hl 1 rfl) ?_
        refine lv_aload_n hx hb dL_law_401 rfl (lv_at hl 0 rfl) ?_
        refine lv_iload_n hx hb dL_law_402 rfl (lv_at hl 3 rfl) ?_
        refine lv_iconst (v := 1) hx hb dL_law_403 (by decide) ?_
        refine lv_iadd hx hb dL_law_404 ?_
        refine va_sld hx hb hX hbl hbA hS hi1 dL_law_405 ?_
        refine goIf (S := Unit) (wS := fun _ => xW G q σX2) (w := xW G q σX) (x := mW G qm σM) C hP hD hS (runVg (As := [.int (xs (x3 + 1).toNatClampNeg)]) (rest := []) (w := xW G q σX) C lc_RL_49 (ctX6_load N σX σX2 (xs (x3 + 1).toNatClampNeg) r e1 _) (pfP hP) (pfD hD) hS (va_recv hK (pfP hP) (ci := 6) (q0 := 0) rfl rfl) hl.1 rfl rfl rfl rfl ⟨Nat.le_of_ble_eq_true rfl, Nat.le_of_ble_eq_true rfl⟩ (Nat.le_of_ble_eq_true rfl) dL_law_406 ⟨hkc0, hks0⟩) (fun _ H locs hP hD hS => ?_)
        have hP := swP hP
        have hD := swD hD
        refine lv_aload_n hx hb dL_law_409 rfl (lv_at hl 2 rfl) ?_
        refine lv_aload_n hx hb dL_law_410 rfl (lv_at hl 0 rfl) ?_
        refine lv_iload_n hx hb dL_law_411 rfl (lv_at hl 3 rfl) ?_
        refine lv_iconst (v := 1) hx hb dL_law_412 (by decide) ?_
        refine lv_iadd hx hb dL_law_413 ?_
        refine va_sld hx hb hX hbl hbA hS hi1 dL_law_414 ?_
        refine goIf (S := Unit) (wS := fun _ => mW G qm σM) (w := mW G qm σM) (x := xW G q σX2) C hP hD hS (runVg (As := [.int (xs (x3 + 1).toNatClampNeg)]) (rest := [.int r]) (w := mW G qm σM) C lc_RL_52 (ctM_load N σM (xs (x3 + 1).toNatClampNeg) r f2 _) (pfP hP) (pfD hD) hS (va_recv hK (pfP hP) (ci := 7) (q0 := 0) rfl rfl) hl.1 rfl rfl rfl rfl ⟨Nat.le_of_ble_eq_true rfl, Nat.le_of_ble_eq_true rfl⟩ (Nat.le_of_ble_eq_true rfl) dL_law_415 ⟨hkc0, hks0⟩) (fun _ H locs hP hD hS => ?_)
        have hP := swP hP
        have hD := swD hD
        refine lv_icmp_eq (tgt := 1072) hx hb dL_law_418 (by decide) (fun _ => ?_) (fun c1 => absurd rfl c1)
        refine W.widen (k := kc + 5) (n := ks + 28) (by omega) (by omega) ?_
        exact back q σX2 σM H locs ls rfl hR2 hP hD hS hl
      · obtain ⟨r, σX2, σM2, e1, e2, hR2⟩ := hs 9 σX σM (xs (x3 + 1).toNatClampNeg) (xs (x3 + 2).toNatClampNeg) (xs (x3 + 3).toNatClampNeg) hR (by decide)
        obtain ⟨f2, rfl⟩ := lf_some e2
        refine lv_tableIn (off := 391) (tgt := 423) hx hb dL_law_32 (by rw [hj]; decide) (by rw [hj]; decide) (by rw [hj]; rfl) (by decide) ?_
        refine lv_aload_n hx hb dL_law_423 rfl (lv_at hl 1 rfl) ?_
        refine lv_aload_n hx hb dL_law_424 rfl (lv_at hl 0 rfl) ?_
        refine lv_iload_n hx hb dL_law_425 rfl (lv_at hl 3 rfl) ?_
        refine lv_iconst (v := 1) hx hb dL_law_426 (by decide) ?_
        refine lv_iadd hx hb dL_law_427 ?_
        refine va_sld hx hb hX hbl hbA hS hi1 dL_law_428 ?_
        refine lv_aload_n hx hb dL_law_429 rfl (lv_at hl 0 rfl) ?_
        refine lv_iload_n hx hb dL_law_430 rfl (lv_at hl 3 rfl) ?_
        refine lv_iconst (v := 2) hx hb dL_law_431 (by decide) ?_
        refine lv_iadd hx hb dL_law_432 ?_
        refine va_sld hx hb hX hbl hbA hS hi2 dL_law_433 ?_
        refine lv_aload_n hx hb dL_law_434 rfl (lv_at hl 0 rfl) ?_
        refine lv_iload_n hx hb dL_law_435 rfl (lv_at hl 3 rfl) ?_
        refine lv_iconst (v := 3) hx hb dL_law_436 (by decide) ?_
        refine lv_iadd hx hb dL_law_437 ?_
        refine va_sld hx hb hX hbl hbA hS hi3 dL_law_438 ?_
        refine goIf (S := Unit) (wS := fun _ => xW G q σX2) (w := xW G q σX) (x := mW G qm σM) C hP hD hS (runVg (As := [.int (xs (x3 + 1).toNatClampNeg), .int (xs (x3 + 2).toNatClampNeg), .int (xs (x3 + 3).toNatClampNeg)]) (rest := []) (w := xW G q σX) C lc_RL_53 (ctX6_best N σX σX2 (xs (x3 + 1).toNatClampNeg) (xs (x3 + 2).toNatClampNeg) (xs (x3 + 3).toNatClampNeg) r e1 _) (pfP hP) (pfD hD) hS (va_recv hK (pfP hP) (ci := 6) (q0 := 0) rfl rfl) hl.1 rfl rfl rfl rfl ⟨Nat.le_of_ble_eq_true rfl, Nat.le_of_ble_eq_true rfl⟩ (Nat.le_of_ble_eq_true rfl) dL_law_439 ⟨hkc0, hks0⟩) (fun _ H locs hP hD hS => ?_)
        have hP := swP hP
        have hD := swD hD
        refine lv_aload_n hx hb dL_law_442 rfl (lv_at hl 2 rfl) ?_
        refine lv_aload_n hx hb dL_law_443 rfl (lv_at hl 0 rfl) ?_
        refine lv_iload_n hx hb dL_law_444 rfl (lv_at hl 3 rfl) ?_
        refine lv_iconst (v := 1) hx hb dL_law_445 (by decide) ?_
        refine lv_iadd hx hb dL_law_446 ?_
        refine va_sld hx hb hX hbl hbA hS hi1 dL_law_447 ?_
        refine lv_aload_n hx hb dL_law_448 rfl (lv_at hl 0 rfl) ?_
        refine lv_iload_n hx hb dL_law_449 rfl (lv_at hl 3 rfl) ?_
        refine lv_iconst (v := 2) hx hb dL_law_450 (by decide) ?_
        refine lv_iadd hx hb dL_law_451 ?_
        refine va_sld hx hb hX hbl hbA hS hi2 dL_law_452 ?_
        refine lv_aload_n hx hb dL_law_453 rfl (lv_at hl 0 rfl) ?_
        refine lv_iload_n hx hb dL_law_454 rfl (lv_at hl 3 rfl) ?_
        refine lv_iconst (v := 3) hx hb dL_law_455 (by decide) ?_
        refine lv_iadd hx hb dL_law_456 ?_
        refine va_sld hx hb hX hbl hbA hS hi3 dL_law_457 ?_
        refine goIf (S := Unit) (wS := fun _ => mW G qm σM) (w := mW G qm σM) (x := xW G q σX2) C hP hD hS (runVg (As := [.int (xs (x3 + 1).toNatClampNeg), .int (xs (x3 + 2).toNatClampNeg), .int (xs (x3 + 3).toNatClampNeg)]) (rest := [.int r]) (w := mW G qm σM) C lc_RL_56 (ctM_best N σM (xs (x3 + 1).toNatClampNeg) (xs (x3 + 2).toNatClampNeg) (xs (x3 + 3).toNatClampNeg) r f2 _) (pfP hP) (pfD hD) hS (va_recv hK (pfP hP) (ci := 7) (q0 := 0) rfl rfl) hl.1 rfl rfl rfl rfl ⟨Nat.le_of_ble_eq_true rfl, Nat.le_of_ble_eq_true rfl⟩ (Nat.le_of_ble_eq_true rfl) dL_law_458 ⟨hkc0, hks0⟩) (fun _ H locs hP hD hS => ?_)
        have hP := swP hP
        have hD := swD hD
        refine lv_icmp_eq (tgt := 1072) hx hb dL_law_461 (by decide) (fun _ => ?_) (fun c1 => absurd rfl c1)
        refine W.widen (k := kc + 5) (n := ks + 28) (by omega) (by omega) ?_
        exact back q σX2 σM H locs ls rfl hR2 hP hD hS hl
      · obtain ⟨r, σX2, σM2, e1, e2, hR2⟩ := hs 10 σX σM (xs (x3 + 1).toNatClampNeg) (xs (x3 + 2).toNatClampNeg) (xs (x3 + 3).toNatClampNeg) hR (by decide)
        refine lv_tableIn (off := 434) (tgt := 466) hx hb dL_law_32 (by rw [hj]; decide) (by rw [hj]; decide) (by rw [hj]; rfl) (by decide) ?_
        refine lv_aload_n hx hb dL_law_466 rfl (lv_at hl 1 rfl) ?_
        refine lv_aload_n hx hb dL_law_467 rfl (lv_at hl 0 rfl) ?_
        refine lv_iload_n hx hb dL_law_468 rfl (lv_at hl 3 rfl) ?_
        refine lv_iconst (v := 1) hx hb dL_law_469 (by decide) ?_
        refine lv_iadd hx hb dL_law_470 ?_
        refine va_sld hx hb hX hbl hbA hS hi1 dL_law_471 ?_
        refine lv_aload_n hx hb dL_law_472 rfl (lv_at hl 0 rfl) ?_
        refine lv_iload_n hx hb dL_law_473 rfl (lv_at hl 3 rfl) ?_
        refine lv_iconst (v := 2) hx hb dL_law_474 (by decide) ?_
        refine lv_iadd hx hb dL_law_475 ?_
        refine va_sld hx hb hX hbl hbA hS hi2 dL_law_476 ?_
        refine goIf (S := Unit) (wS := fun _ => xW G q σX2) (w := xW G q σX) (x := mW G qm σM) C hP hD hS (runVg (As := [.int (xs (x3 + 1).toNatClampNeg), .int (xs (x3 + 2).toNatClampNeg)]) (rest := []) (w := xW G q σX) C lc_RL_57 (ctX6_gang N σX σX2 (xs (x3 + 1).toNatClampNeg) (xs (x3 + 2).toNatClampNeg) r e1 _) (pfP hP) (pfD hD) hS (va_recv hK (pfP hP) (ci := 6) (q0 := 0) rfl rfl) hl.1 rfl rfl rfl rfl ⟨Nat.le_of_ble_eq_true rfl, Nat.le_of_ble_eq_true rfl⟩ (Nat.le_of_ble_eq_true rfl) dL_law_477 ⟨hkc0, hks0⟩) (fun _ H locs hP hD hS => ?_)
        have hP := swP hP
        have hD := swD hD
        refine lv_aload_n hx hb dL_law_480 rfl (lv_at hl 2 rfl) ?_
        refine lv_aload_n hx hb dL_law_481 rfl (lv_at hl 0 rfl) ?_
        refine lv_iload_n hx hb dL_law_482 rfl (lv_at hl 3 rfl) ?_
        refine lv_iconst (v := 1) hx hb dL_law_483 (by decide) ?_
        refine lv_iadd hx hb dL_law_484 ?_
        refine va_sld hx hb hX hbl hbA hS hi1 dL_law_485 ?_
        refine lv_aload_n hx hb dL_law_486 rfl (lv_at hl 0 rfl) ?_
        refine lv_iload_n hx hb dL_law_487 rfl (lv_at hl 3 rfl) ?_
        refine lv_iconst (v := 2) hx hb dL_law_488 (by decide) ?_
        refine lv_iadd hx hb dL_law_489 ?_
        refine va_sld hx hb hX hbl hbA hS hi2 dL_law_490 ?_
        refine goIf (S := Unit) (wS := fun _ => mW G qm σM2) (w := mW G qm σM) (x := xW G q σX2) C hP hD hS (runVg (As := [.int (xs (x3 + 1).toNatClampNeg), .int (xs (x3 + 2).toNatClampNeg)]) (rest := [.int r]) (w := mW G qm σM) C lc_RL_60 (ctM_gang N σM σM2 (xs (x3 + 1).toNatClampNeg) (xs (x3 + 2).toNatClampNeg) r e2 _) (pfP hP) (pfD hD) hS (va_recv hK (pfP hP) (ci := 7) (q0 := 0) rfl rfl) hl.1 rfl rfl rfl rfl ⟨Nat.le_of_ble_eq_true rfl, Nat.le_of_ble_eq_true rfl⟩ (Nat.le_of_ble_eq_true rfl) dL_law_491 ⟨hkc0, hks0⟩) (fun _ H locs hP hD hS => ?_)
        have hP := swP hP
        have hD := swD hD
        refine lv_icmp_eq (tgt := 1072) hx hb dL_law_494 (by decide) (fun _ => ?_) (fun c1 => absurd rfl c1)
        refine W.widen (k := kc + 5) (n := ks + 28) (by omega) (by omega) ?_
        exact back q σX2 σM2 H locs ls rfl hR2 hP hD hS hl
      · obtain ⟨r, σX2, σM2, e1, e2, hR2⟩ := hs 11 σX σM (xs (x3 + 1).toNatClampNeg) (xs (x3 + 2).toNatClampNeg) (xs (x3 + 3).toNatClampNeg) hR (by decide)
        refine lv_tableIn (off := 467) (tgt := 499) hx hb dL_law_32 (by rw [hj]; decide) (by rw [hj]; decide) (by rw [hj]; rfl) (by decide) ?_
        refine lv_aload_n hx hb dL_law_499 rfl (lv_at hl 1 rfl) ?_
        refine lv_aload_n hx hb dL_law_500 rfl (lv_at hl 0 rfl) ?_
        refine lv_iload_n hx hb dL_law_501 rfl (lv_at hl 3 rfl) ?_
        refine lv_iconst (v := 1) hx hb dL_law_502 (by decide) ?_
        refine lv_iadd hx hb dL_law_503 ?_
        refine va_sld hx hb hX hbl hbA hS hi1 dL_law_504 ?_
        refine lv_aload_n hx hb dL_law_505 rfl (lv_at hl 0 rfl) ?_
        refine lv_iload_n hx hb dL_law_506 rfl (lv_at hl 3 rfl) ?_
        refine lv_iconst (v := 2) hx hb dL_law_507 (by decide) ?_
        refine lv_iadd hx hb dL_law_508 ?_
        refine va_sld hx hb hX hbl hbA hS hi2 dL_law_509 ?_
        refine goIf (S := Unit) (wS := fun _ => xW G q σX2) (w := xW G q σX) (x := mW G qm σM) C hP hD hS (runVg (As := [.int (xs (x3 + 1).toNatClampNeg), .int (xs (x3 + 2).toNatClampNeg)]) (rest := []) (w := xW G q σX) C lc_RL_61 (ctX6_part N σX σX2 (xs (x3 + 1).toNatClampNeg) (xs (x3 + 2).toNatClampNeg) r e1 _) (pfP hP) (pfD hD) hS (va_recv hK (pfP hP) (ci := 6) (q0 := 0) rfl rfl) hl.1 rfl rfl rfl rfl ⟨Nat.le_of_ble_eq_true rfl, Nat.le_of_ble_eq_true rfl⟩ (Nat.le_of_ble_eq_true rfl) dL_law_510 ⟨hkc0, hks0⟩) (fun _ H locs hP hD hS => ?_)
        have hP := swP hP
        have hD := swD hD
        refine lv_aload_n hx hb dL_law_513 rfl (lv_at hl 2 rfl) ?_
        refine lv_aload_n hx hb dL_law_514 rfl (lv_at hl 0 rfl) ?_
        refine lv_iload_n hx hb dL_law_515 rfl (lv_at hl 3 rfl) ?_
        refine lv_iconst (v := 1) hx hb dL_law_516 (by decide) ?_
        refine lv_iadd hx hb dL_law_517 ?_
        refine va_sld hx hb hX hbl hbA hS hi1 dL_law_518 ?_
        refine lv_aload_n hx hb dL_law_519 rfl (lv_at hl 0 rfl) ?_
        refine lv_iload_n hx hb dL_law_520 rfl (lv_at hl 3 rfl) ?_
        refine lv_iconst (v := 2) hx hb dL_law_521 (by decide) ?_
        refine lv_iadd hx hb dL_law_522 ?_
        refine va_sld hx hb hX hbl hbA hS hi2 dL_law_523 ?_
        refine goIf (S := Unit) (wS := fun _ => mW G qm σM2) (w := mW G qm σM) (x := xW G q σX2) C hP hD hS (runVg (As := [.int (xs (x3 + 1).toNatClampNeg), .int (xs (x3 + 2).toNatClampNeg)]) (rest := [.int r]) (w := mW G qm σM) C lc_RL_64 (ctM_part N σM σM2 (xs (x3 + 1).toNatClampNeg) (xs (x3 + 2).toNatClampNeg) r e2 _) (pfP hP) (pfD hD) hS (va_recv hK (pfP hP) (ci := 7) (q0 := 0) rfl rfl) hl.1 rfl rfl rfl rfl ⟨Nat.le_of_ble_eq_true rfl, Nat.le_of_ble_eq_true rfl⟩ (Nat.le_of_ble_eq_true rfl) dL_law_524 ⟨hkc0, hks0⟩) (fun _ H locs hP hD hS => ?_)
        have hP := swP hP
        have hD := swD hD
        refine lv_icmp_eq (tgt := 1072) hx hb dL_law_527 (by decide) (fun _ => ?_) (fun c1 => absurd rfl c1)
        refine W.widen (k := kc + 5) (n := ks + 28) (by omega) (by omega) ?_
        exact back q σX2 σM2 H locs ls rfl hR2 hP hD hS hl
      · obtain ⟨r, σX2, σM2, e1, e2, hR2⟩ := hs 12 σX σM (xs (x3 + 1).toNatClampNeg) (xs (x3 + 2).toNatClampNeg) (xs (x3 + 3).toNatClampNeg) hR (by decide)
        obtain ⟨f1, rfl⟩ := lf_some e1
        obtain ⟨f2, rfl⟩ := lf_some e2
        refine lv_tableIn (off := 500) (tgt := 532) hx hb dL_law_32 (by rw [hj]; decide) (by rw [hj]; decide) (by rw [hj]; rfl) (by decide) ?_
        refine lv_aload_n hx hb dL_law_532 rfl (lv_at hl 1 rfl) ?_
        refine lv_aload_n hx hb dL_law_533 rfl (lv_at hl 0 rfl) ?_
        refine lv_iload_n hx hb dL_law_534 rfl (lv_at hl 3 rfl) ?_
        refine lv_iconst (v := 1) hx hb dL_law_535 (by decide) ?_
        refine lv_iadd hx hb dL_law_536 ?_
        refine va_sld hx hb hX hbl hbA hS hi1 dL_law_537 ?_
        refine lv_aload_n hx hb dL_law_538 rfl (lv_at hl 0 rfl) ?_
        refine lv_iload_n hx hb dL_law_539 rfl (lv_at hl 3 rfl) ?_
        refine lv_iconst (v := 2) hx hb dL_law_540 (by decide) ?_
        refine lv_iadd hx hb dL_law_541 ?_
        refine va_sld hx hb hX hbl hbA hS hi2 dL_law_542 ?_
        refine goIf (S := Unit) (wS := fun _ => xW G q σX) (w := xW G q σX) (x := mW G qm σM) C hP hD hS (runVg (As := [.int (xs (x3 + 1).toNatClampNeg), .int (xs (x3 + 2).toNatClampNeg)]) (rest := []) (w := xW G q σX) C lc_RL_65 (ctX6_tuned N σX (xs (x3 + 1).toNatClampNeg) (xs (x3 + 2).toNatClampNeg) r f1 _) (pfP hP) (pfD hD) hS (va_recv hK (pfP hP) (ci := 6) (q0 := 0) rfl rfl) hl.1 rfl rfl rfl rfl ⟨Nat.le_of_ble_eq_true rfl, Nat.le_of_ble_eq_true rfl⟩ (Nat.le_of_ble_eq_true rfl) dL_law_543 ⟨hkc0, hks0⟩) (fun _ H locs hP hD hS => ?_)
        have hP := swP hP
        have hD := swD hD
        refine lv_aload_n hx hb dL_law_546 rfl (lv_at hl 2 rfl) ?_
        refine lv_aload_n hx hb dL_law_547 rfl (lv_at hl 0 rfl) ?_
        refine lv_iload_n hx hb dL_law_548 rfl (lv_at hl 3 rfl) ?_
        refine lv_iconst (v := 1) hx hb dL_law_549 (by decide) ?_
        refine lv_iadd hx hb dL_law_550 ?_
        refine va_sld hx hb hX hbl hbA hS hi1 dL_law_551 ?_
        refine lv_aload_n hx hb dL_law_552 rfl (lv_at hl 0 rfl) ?_
        refine lv_iload_n hx hb dL_law_553 rfl (lv_at hl 3 rfl) ?_
        refine lv_iconst (v := 2) hx hb dL_law_554 (by decide) ?_
        refine lv_iadd hx hb dL_law_555 ?_
        refine va_sld hx hb hX hbl hbA hS hi2 dL_law_556 ?_
        refine goIf (S := Unit) (wS := fun _ => mW G qm σM) (w := mW G qm σM) (x := xW G q σX) C hP hD hS (runVg (As := [.int (xs (x3 + 1).toNatClampNeg), .int (xs (x3 + 2).toNatClampNeg)]) (rest := [.int r]) (w := mW G qm σM) C lc_RL_68 (ctM_tuned N σM (xs (x3 + 1).toNatClampNeg) (xs (x3 + 2).toNatClampNeg) r f2 _) (pfP hP) (pfD hD) hS (va_recv hK (pfP hP) (ci := 7) (q0 := 0) rfl rfl) hl.1 rfl rfl rfl rfl ⟨Nat.le_of_ble_eq_true rfl, Nat.le_of_ble_eq_true rfl⟩ (Nat.le_of_ble_eq_true rfl) dL_law_557 ⟨hkc0, hks0⟩) (fun _ H locs hP hD hS => ?_)
        have hP := swP hP
        have hD := swD hD
        refine lv_icmp_eq (tgt := 1072) hx hb dL_law_560 (by decide) (fun _ => ?_) (fun c1 => absurd rfl c1)
        refine W.widen (k := kc + 5) (n := ks + 28) (by omega) (by omega) ?_
        exact back q σX σM H locs ls rfl hR2 hP hD hS hl
      · obtain ⟨r, σX2, σM2, e1, e2, hR2⟩ := hs 13 σX σM (xs (x3 + 1).toNatClampNeg) (xs (x3 + 2).toNatClampNeg) (xs (x3 + 3).toNatClampNeg) hR (by decide)
        obtain ⟨f2, rfl⟩ := lf_some e2
        refine lv_tableIn (off := 533) (tgt := 565) hx hb dL_law_32 (by rw [hj]; decide) (by rw [hj]; decide) (by rw [hj]; rfl) (by decide) ?_
        refine lv_aload_n hx hb dL_law_565 rfl (lv_at hl 1 rfl) ?_
        refine lv_aload_n hx hb dL_law_566 rfl (lv_at hl 0 rfl) ?_
        refine lv_iload_n hx hb dL_law_567 rfl (lv_at hl 3 rfl) ?_
        refine lv_iconst (v := 1) hx hb dL_law_568 (by decide) ?_
        refine lv_iadd hx hb dL_law_569 ?_
        refine va_sld hx hb hX hbl hbA hS hi1 dL_law_570 ?_
        refine goIf (S := Unit) (wS := fun _ => xW G q σX2) (w := xW G q σX) (x := mW G qm σM) C hP hD hS (runVg (As := [.int (xs (x3 + 1).toNatClampNeg)]) (rest := []) (w := xW G q σX) C lc_RL_69 (ctX6_error N σX σX2 (xs (x3 + 1).toNatClampNeg) r e1 _) (pfP hP) (pfD hD) hS (va_recv hK (pfP hP) (ci := 6) (q0 := 0) rfl rfl) hl.1 rfl rfl rfl rfl ⟨Nat.le_of_ble_eq_true rfl, Nat.le_of_ble_eq_true rfl⟩ (Nat.le_of_ble_eq_true rfl) dL_law_571 ⟨hkc0, hks0⟩) (fun _ H locs hP hD hS => ?_)
        have hP := swP hP
        have hD := swD hD
        refine lv_aload_n hx hb dL_law_574 rfl (lv_at hl 2 rfl) ?_
        refine lv_aload_n hx hb dL_law_575 rfl (lv_at hl 0 rfl) ?_
        refine lv_iload_n hx hb dL_law_576 rfl (lv_at hl 3 rfl) ?_
        refine lv_iconst (v := 1) hx hb dL_law_577 (by decide) ?_
        refine lv_iadd hx hb dL_law_578 ?_
        refine va_sld hx hb hX hbl hbA hS hi1 dL_law_579 ?_
        refine goIf (S := Unit) (wS := fun _ => mW G qm σM) (w := mW G qm σM) (x := xW G q σX2) C hP hD hS (runVg (As := [.int (xs (x3 + 1).toNatClampNeg)]) (rest := [.int r]) (w := mW G qm σM) C lc_RL_72 (ctM_error N σM (xs (x3 + 1).toNatClampNeg) r f2 _) (pfP hP) (pfD hD) hS (va_recv hK (pfP hP) (ci := 7) (q0 := 0) rfl rfl) hl.1 rfl rfl rfl rfl ⟨Nat.le_of_ble_eq_true rfl, Nat.le_of_ble_eq_true rfl⟩ (Nat.le_of_ble_eq_true rfl) dL_law_580 ⟨hkc0, hks0⟩) (fun _ H locs hP hD hS => ?_)
        have hP := swP hP
        have hD := swD hD
        refine lv_icmp_eq (tgt := 1072) hx hb dL_law_583 (by decide) (fun _ => ?_) (fun c1 => absurd rfl c1)
        refine W.widen (k := kc + 5) (n := ks + 28) (by omega) (by omega) ?_
        exact back q σX2 σM H locs ls rfl hR2 hP hD hS hl
      · obtain ⟨r, σX2, σM2, e1, e2, hR2⟩ := hs 14 σX σM (xs (x3 + 1).toNatClampNeg) (xs (x3 + 2).toNatClampNeg) (xs (x3 + 3).toNatClampNeg) hR (by decide)
        refine lv_tableIn (off := 556) (tgt := 588) hx hb dL_law_32 (by rw [hj]; decide) (by rw [hj]; decide) (by rw [hj]; rfl) (by decide) ?_
        refine lv_aload_n hx hb dL_law_588 rfl (lv_at hl 1 rfl) ?_
        refine lv_aload_n hx hb dL_law_589 rfl (lv_at hl 0 rfl) ?_
        refine lv_iload_n hx hb dL_law_590 rfl (lv_at hl 3 rfl) ?_
        refine lv_iconst (v := 1) hx hb dL_law_591 (by decide) ?_
        refine lv_iadd hx hb dL_law_592 ?_
        refine va_sld hx hb hX hbl hbA hS hi1 dL_law_593 ?_
        refine lv_aload_n hx hb dL_law_594 rfl (lv_at hl 0 rfl) ?_
        refine lv_iload_n hx hb dL_law_595 rfl (lv_at hl 3 rfl) ?_
        refine lv_iconst (v := 2) hx hb dL_law_596 (by decide) ?_
        refine lv_iadd hx hb dL_law_597 ?_
        refine va_sld hx hb hX hbl hbA hS hi2 dL_law_598 ?_
        refine goIf (S := Unit) (wS := fun _ => xW G q σX2) (w := xW G q σX) (x := mW G qm σM) C hP hD hS (runVg (As := [.int (xs (x3 + 1).toNatClampNeg), .int (xs (x3 + 2).toNatClampNeg)]) (rest := []) (w := xW G q σX) C lc_RL_73 (ctX6_point N σX σX2 (xs (x3 + 1).toNatClampNeg) (xs (x3 + 2).toNatClampNeg) r e1 _) (pfP hP) (pfD hD) hS (va_recv hK (pfP hP) (ci := 6) (q0 := 0) rfl rfl) hl.1 rfl rfl rfl rfl ⟨Nat.le_of_ble_eq_true rfl, Nat.le_of_ble_eq_true rfl⟩ (Nat.le_of_ble_eq_true rfl) dL_law_599 ⟨hkc0, hks0⟩) (fun _ H locs hP hD hS => ?_)
        have hP := swP hP
        have hD := swD hD
        refine lv_aload_n hx hb dL_law_602 rfl (lv_at hl 2 rfl) ?_
        refine lv_aload_n hx hb dL_law_603 rfl (lv_at hl 0 rfl) ?_
        refine lv_iload_n hx hb dL_law_604 rfl (lv_at hl 3 rfl) ?_
        refine lv_iconst (v := 1) hx hb dL_law_605 (by decide) ?_
        refine lv_iadd hx hb dL_law_606 ?_
        refine va_sld hx hb hX hbl hbA hS hi1 dL_law_607 ?_
        refine lv_aload_n hx hb dL_law_608 rfl (lv_at hl 0 rfl) ?_
        refine lv_iload_n hx hb dL_law_609 rfl (lv_at hl 3 rfl) ?_
        refine lv_iconst (v := 2) hx hb dL_law_610 (by decide) ?_
        refine lv_iadd hx hb dL_law_611 ?_
        refine va_sld hx hb hX hbl hbA hS hi2 dL_law_612 ?_
        refine goIf (S := Unit) (wS := fun _ => mW G qm σM2) (w := mW G qm σM) (x := xW G q σX2) C hP hD hS (runVg (As := [.int (xs (x3 + 1).toNatClampNeg), .int (xs (x3 + 2).toNatClampNeg)]) (rest := [.int r]) (w := mW G qm σM) C lc_RL_76 (ctM_point N σM σM2 (xs (x3 + 1).toNatClampNeg) (xs (x3 + 2).toNatClampNeg) r e2 _) (pfP hP) (pfD hD) hS (va_recv hK (pfP hP) (ci := 7) (q0 := 0) rfl rfl) hl.1 rfl rfl rfl rfl ⟨Nat.le_of_ble_eq_true rfl, Nat.le_of_ble_eq_true rfl⟩ (Nat.le_of_ble_eq_true rfl) dL_law_613 ⟨hkc0, hks0⟩) (fun _ H locs hP hD hS => ?_)
        have hP := swP hP
        have hD := swD hD
        refine lv_icmp_eq (tgt := 1072) hx hb dL_law_616 (by decide) (fun _ => ?_) (fun c1 => absurd rfl c1)
        refine W.widen (k := kc + 5) (n := ks + 28) (by omega) (by omega) ?_
        exact back q σX2 σM2 H locs ls rfl hR2 hP hD hS hl
      · obtain ⟨r, σX2, σM2, e1, e2, hR2⟩ := hs 15 σX σM (xs (x3 + 1).toNatClampNeg) (xs (x3 + 2).toNatClampNeg) (xs (x3 + 3).toNatClampNeg) hR (by decide)
        obtain ⟨f2, rfl⟩ := lf_some e2
        refine lv_tableIn (off := 589) (tgt := 621) hx hb dL_law_32 (by rw [hj]; decide) (by rw [hj]; decide) (by rw [hj]; rfl) (by decide) ?_
        refine lv_aload_n hx hb dL_law_621 rfl (lv_at hl 1 rfl) ?_
        refine goIf (S := Unit) (wS := fun _ => xW G q σX2) (w := xW G q σX) (x := mW G qm σM) C hP hD hS (runVg (As := []) (rest := []) (w := xW G q σX) C lc_RL_77 (ctX6_off N σX σX2  r e1 _) (pfP hP) (pfD hD) hS (va_recv hK (pfP hP) (ci := 6) (q0 := 0) rfl rfl) hl.1 rfl rfl rfl rfl ⟨Nat.le_of_ble_eq_true rfl, Nat.le_of_ble_eq_true rfl⟩ (Nat.le_of_ble_eq_true rfl) dL_law_622 ⟨hkc0, hks0⟩) (fun _ H locs hP hD hS => ?_)
        have hP := swP hP
        have hD := swD hD
        refine lv_aload_n hx hb dL_law_625 rfl (lv_at hl 2 rfl) ?_
        refine goIf (S := Unit) (wS := fun _ => mW G qm σM) (w := mW G qm σM) (x := xW G q σX2) C hP hD hS (runVg (As := []) (rest := [.int r]) (w := mW G qm σM) C lc_RL_80 (ctM_off N σM  r f2 _) (pfP hP) (pfD hD) hS (va_recv hK (pfP hP) (ci := 7) (q0 := 0) rfl rfl) hl.1 rfl rfl rfl rfl ⟨Nat.le_of_ble_eq_true rfl, Nat.le_of_ble_eq_true rfl⟩ (Nat.le_of_ble_eq_true rfl) dL_law_626 ⟨hkc0, hks0⟩) (fun _ H locs hP hD hS => ?_)
        have hP := swP hP
        have hD := swD hD
        refine lv_icmp_eq (tgt := 1072) hx hb dL_law_629 (by decide) (fun _ => ?_) (fun c1 => absurd rfl c1)
        refine W.widen (k := kc + 5) (n := ks + 28) (by omega) (by omega) ?_
        exact back q σX2 σM H locs ls rfl hR2 hP hD hS hl
      · obtain ⟨r, σX2, σM2, e1, e2, hR2⟩ := hs 16 σX σM (xs (x3 + 1).toNatClampNeg) (xs (x3 + 2).toNatClampNeg) (xs (x3 + 3).toNatClampNeg) hR (by decide)
        obtain ⟨f2, rfl⟩ := lf_some e2
        refine lv_tableIn (off := 602) (tgt := 634) hx hb dL_law_32 (by rw [hj]; decide) (by rw [hj]; decide) (by rw [hj]; rfl) (by decide) ?_
        refine lv_aload_n hx hb dL_law_634 rfl (lv_at hl 1 rfl) ?_
        refine lv_aload_n hx hb dL_law_635 rfl (lv_at hl 0 rfl) ?_
        refine lv_iload_n hx hb dL_law_636 rfl (lv_at hl 3 rfl) ?_
        refine lv_iconst (v := 1) hx hb dL_law_637 (by decide) ?_
        refine lv_iadd hx hb dL_law_638 ?_
        refine va_sld hx hb hX hbl hbA hS hi1 dL_law_639 ?_
        refine lv_aload_n hx hb dL_law_640 rfl (lv_at hl 0 rfl) ?_
        refine lv_iload_n hx hb dL_law_641 rfl (lv_at hl 3 rfl) ?_
        refine lv_iconst (v := 2) hx hb dL_law_642 (by decide) ?_
        refine lv_iadd hx hb dL_law_643 ?_
        refine va_sld hx hb hX hbl hbA hS hi2 dL_law_644 ?_
        refine goIf (S := Unit) (wS := fun _ => xW G q σX2) (w := xW G q σX) (x := mW G qm σM) C hP hD hS (runVg (As := [.int (xs (x3 + 1).toNatClampNeg), .int (xs (x3 + 2).toNatClampNeg)]) (rest := []) (w := xW G q σX) C lc_RL_81 (ctX6_trimmed N σX σX2 (xs (x3 + 1).toNatClampNeg) (xs (x3 + 2).toNatClampNeg) r e1 _) (pfP hP) (pfD hD) hS (va_recv hK (pfP hP) (ci := 6) (q0 := 0) rfl rfl) hl.1 rfl rfl rfl rfl ⟨Nat.le_of_ble_eq_true rfl, Nat.le_of_ble_eq_true rfl⟩ (Nat.le_of_ble_eq_true rfl) dL_law_645 ⟨hkc0, hks0⟩) (fun _ H locs hP hD hS => ?_)
        have hP := swP hP
        have hD := swD hD
        refine lv_aload_n hx hb dL_law_648 rfl (lv_at hl 2 rfl) ?_
        refine lv_aload_n hx hb dL_law_649 rfl (lv_at hl 0 rfl) ?_
        refine lv_iload_n hx hb dL_law_650 rfl (lv_at hl 3 rfl) ?_
        refine lv_iconst (v := 1) hx hb dL_law_651 (by decide) ?_
        refine lv_iadd hx hb dL_law_652 ?_
        refine va_sld hx hb hX hbl hbA hS hi1 dL_law_653 ?_
        refine lv_aload_n hx hb dL_law_654 rfl (lv_at hl 0 rfl) ?_
        refine lv_iload_n hx hb dL_law_655 rfl (lv_at hl 3 rfl) ?_
        refine lv_iconst (v := 2) hx hb dL_law_656 (by decide) ?_
        refine lv_iadd hx hb dL_law_657 ?_
        refine va_sld hx hb hX hbl hbA hS hi2 dL_law_658 ?_
        refine goIf (S := Unit) (wS := fun _ => mW G qm σM) (w := mW G qm σM) (x := xW G q σX2) C hP hD hS (runVg (As := [.int (xs (x3 + 1).toNatClampNeg), .int (xs (x3 + 2).toNatClampNeg)]) (rest := [.int r]) (w := mW G qm σM) C lc_RL_84 (ctM_trimmed N σM (xs (x3 + 1).toNatClampNeg) (xs (x3 + 2).toNatClampNeg) r f2 _) (pfP hP) (pfD hD) hS (va_recv hK (pfP hP) (ci := 7) (q0 := 0) rfl rfl) hl.1 rfl rfl rfl rfl ⟨Nat.le_of_ble_eq_true rfl, Nat.le_of_ble_eq_true rfl⟩ (Nat.le_of_ble_eq_true rfl) dL_law_659 ⟨hkc0, hks0⟩) (fun _ H locs hP hD hS => ?_)
        have hP := swP hP
        have hD := swD hD
        refine lv_icmp_eq (tgt := 1072) hx hb dL_law_662 (by decide) (fun _ => ?_) (fun c1 => absurd rfl c1)
        refine W.widen (k := kc + 5) (n := ks + 28) (by omega) (by omega) ?_
        exact back q σX2 σM H locs ls rfl hR2 hP hD hS hl
      · obtain ⟨r, σX2, σM2, e1, e2, hR2⟩ := hs 17 σX σM (xs (x3 + 1).toNatClampNeg) (xs (x3 + 2).toNatClampNeg) (xs (x3 + 3).toNatClampNeg) hR (by decide)
        obtain ⟨f1, rfl⟩ := lf_some e1
        obtain ⟨f2, rfl⟩ := lf_some e2
        refine lv_tableIn (off := 635) (tgt := 667) hx hb dL_law_32 (by rw [hj]; decide) (by rw [hj]; decide) (by rw [hj]; rfl) (by decide) ?_
        refine lv_aload_n hx hb dL_law_667 rfl (lv_at hl 1 rfl) ?_
        refine lv_aload_n hx hb dL_law_668 rfl (lv_at hl 0 rfl) ?_
        refine lv_iload_n hx hb dL_law_669 rfl (lv_at hl 3 rfl) ?_
        refine lv_iconst (v := 1) hx hb dL_law_670 (by decide) ?_
        refine lv_iadd hx hb dL_law_671 ?_
        refine va_sld hx hb hX hbl hbA hS hi1 dL_law_672 ?_
        refine goIf (S := Unit) (wS := fun _ => xW G q σX) (w := xW G q σX) (x := mW G qm σM) C hP hD hS (runVg (As := [.int (xs (x3 + 1).toNatClampNeg)]) (rest := []) (w := xW G q σX) C lc_RL_85 (ctX6_mark N σX (xs (x3 + 1).toNatClampNeg) r f1 _) (pfP hP) (pfD hD) hS (va_recv hK (pfP hP) (ci := 6) (q0 := 0) rfl rfl) hl.1 rfl rfl rfl rfl ⟨Nat.le_of_ble_eq_true rfl, Nat.le_of_ble_eq_true rfl⟩ (Nat.le_of_ble_eq_true rfl) dL_law_673 ⟨hkc0, hks0⟩) (fun _ H locs hP hD hS => ?_)
        have hP := swP hP
        have hD := swD hD
        refine lv_aload_n hx hb dL_law_676 rfl (lv_at hl 2 rfl) ?_
        refine lv_aload_n hx hb dL_law_677 rfl (lv_at hl 0 rfl) ?_
        refine lv_iload_n hx hb dL_law_678 rfl (lv_at hl 3 rfl) ?_
        refine lv_iconst (v := 1) hx hb dL_law_679 (by decide) ?_
        refine lv_iadd hx hb dL_law_680 ?_
        refine va_sld hx hb hX hbl hbA hS hi1 dL_law_681 ?_
        refine goIf (S := Unit) (wS := fun _ => mW G qm σM) (w := mW G qm σM) (x := xW G q σX) C hP hD hS (runVg (As := [.int (xs (x3 + 1).toNatClampNeg)]) (rest := [.int r]) (w := mW G qm σM) C lc_RL_88 (ctM_mark N σM (xs (x3 + 1).toNatClampNeg) r f2 _) (pfP hP) (pfD hD) hS (va_recv hK (pfP hP) (ci := 7) (q0 := 0) rfl rfl) hl.1 rfl rfl rfl rfl ⟨Nat.le_of_ble_eq_true rfl, Nat.le_of_ble_eq_true rfl⟩ (Nat.le_of_ble_eq_true rfl) dL_law_682 ⟨hkc0, hks0⟩) (fun _ H locs hP hD hS => ?_)
        have hP := swP hP
        have hD := swD hD
        refine lv_icmp_eq (tgt := 1072) hx hb dL_law_685 (by decide) (fun _ => ?_) (fun c1 => absurd rfl c1)
        refine W.widen (k := kc + 5) (n := ks + 28) (by omega) (by omega) ?_
        exact back q σX σM H locs ls rfl hR2 hP hD hS hl
      · obtain ⟨r, σX2, σM2, e1, e2, hR2⟩ := hs 18 σX σM (xs (x3 + 1).toNatClampNeg) (xs (x3 + 2).toNatClampNeg) (xs (x3 + 3).toNatClampNeg) hR (by decide)
        refine lv_tableIn (off := 658) (tgt := 690) hx hb dL_law_32 (by rw [hj]; decide) (by rw [hj]; decide) (by rw [hj]; rfl) (by decide) ?_
        refine lv_aload_n hx hb dL_law_690 rfl (lv_at hl 1 rfl) ?_
        refine goIf (wS := fun (u : {u : Nat → Nat // ∀ i : Nat, i < 22 → u i = q i}) => xW G u.1 σX2) (w := xW G q σX) (x := mW G qm σM) C hP hD hS (runVg (As := []) (rest := []) (w := xW G q σX) C lc_RL_89 (ctX6_set N σX σX2  r e1 _) (pfP hP) (pfD hD) hS (va_recv hK (pfP hP) (ci := 6) (q0 := 0) rfl rfl) hl.1 rfl rfl rfl rfl ⟨Nat.le_of_ble_eq_true rfl, Nat.le_of_ble_eq_true rfl⟩ (Nat.le_of_ble_eq_true rfl) dL_law_691 ⟨hkc5, hks5⟩) (fun u H locs hP hD hS => ?_)
        have hP := swP hP
        have hD := swD hD
        refine lv_aload_n hx hb dL_law_694 rfl (lv_at hl 2 rfl) ?_
        refine goIf (S := Unit) (wS := fun _ => mW G qm σM2) (w := mW G qm σM) (x := xW G u.1 σX2) C hP hD hS (runVg (As := []) (rest := [.int r]) (w := mW G qm σM) C lc_RL_92 (ctM_set N σM σM2  r e2 _) (pfP hP) (pfD hD) hS (va_recv hK (pfP hP) (ci := 7) (q0 := 0) rfl rfl) hl.1 rfl rfl rfl rfl ⟨Nat.le_of_ble_eq_true rfl, Nat.le_of_ble_eq_true rfl⟩ (Nat.le_of_ble_eq_true rfl) dL_law_695 ⟨hkc55, hks55⟩) (fun _ H locs hP hD hS => ?_)
        have hP := swP hP
        have hD := swD hD
        refine lv_icmp_eq (tgt := 1072) hx hb dL_law_698 (by decide) (fun _ => ?_) (fun c1 => absurd rfl c1)
        refine W.widen (k := kc + 5) (n := ks + 28) (by omega) (by omega) ?_
        exact back u.1 σX2 σM2 H locs ls (u.2 0 (by decide)) hR2 hP hD hS hl
      · obtain ⟨r, σX2, σM2, e1, e2, hR2⟩ := hs 19 σX σM (xs (x3 + 1).toNatClampNeg) (xs (x3 + 2).toNatClampNeg) (xs (x3 + 3).toNatClampNeg) hR (by decide)
        refine lv_tableIn (off := 671) (tgt := 703) hx hb dL_law_32 (by rw [hj]; decide) (by rw [hj]; decide) (by rw [hj]; rfl) (by decide) ?_
        refine lv_aload_n hx hb dL_law_703 rfl (lv_at hl 1 rfl) ?_
        refine lv_aload_n hx hb dL_law_704 rfl (lv_at hl 0 rfl) ?_
        refine lv_iload_n hx hb dL_law_705 rfl (lv_at hl 3 rfl) ?_
        refine lv_iconst (v := 1) hx hb dL_law_706 (by decide) ?_
        refine lv_iadd hx hb dL_law_707 ?_
        refine va_sld hx hb hX hbl hbA hS hi1 dL_law_708 ?_
        refine lv_aload_n hx hb dL_law_709 rfl (lv_at hl 0 rfl) ?_
        refine lv_iload_n hx hb dL_law_710 rfl (lv_at hl 3 rfl) ?_
        refine lv_iconst (v := 2) hx hb dL_law_711 (by decide) ?_
        refine lv_iadd hx hb dL_law_712 ?_
        refine va_sld hx hb hX hbl hbA hS hi2 dL_law_713 ?_
        refine lv_aload_n hx hb dL_law_714 rfl (lv_at hl 0 rfl) ?_
        refine lv_iload_n hx hb dL_law_715 rfl (lv_at hl 3 rfl) ?_
        refine lv_iconst (v := 3) hx hb dL_law_716 (by decide) ?_
        refine lv_iadd hx hb dL_law_717 ?_
        refine va_sld hx hb hX hbl hbA hS hi3 dL_law_718 ?_
        refine goIf (S := Unit) (wS := fun _ => xW G q σX2) (w := xW G q σX) (x := mW G qm σM) C hP hD hS (runVg (As := [.int (xs (x3 + 1).toNatClampNeg), .int (xs (x3 + 2).toNatClampNeg), .int (xs (x3 + 3).toNatClampNeg)]) (rest := []) (w := xW G q σX) C lc_RL_93 (ctX6_offBy N σX σX2 (xs (x3 + 1).toNatClampNeg) (xs (x3 + 2).toNatClampNeg) (xs (x3 + 3).toNatClampNeg) r e1 _) (pfP hP) (pfD hD) hS (va_recv hK (pfP hP) (ci := 6) (q0 := 0) rfl rfl) hl.1 rfl rfl rfl rfl ⟨Nat.le_of_ble_eq_true rfl, Nat.le_of_ble_eq_true rfl⟩ (Nat.le_of_ble_eq_true rfl) dL_law_719 ⟨hkc0, hks0⟩) (fun _ H locs hP hD hS => ?_)
        have hP := swP hP
        have hD := swD hD
        refine lv_aload_n hx hb dL_law_722 rfl (lv_at hl 2 rfl) ?_
        refine lv_aload_n hx hb dL_law_723 rfl (lv_at hl 0 rfl) ?_
        refine lv_iload_n hx hb dL_law_724 rfl (lv_at hl 3 rfl) ?_
        refine lv_iconst (v := 1) hx hb dL_law_725 (by decide) ?_
        refine lv_iadd hx hb dL_law_726 ?_
        refine va_sld hx hb hX hbl hbA hS hi1 dL_law_727 ?_
        refine lv_aload_n hx hb dL_law_728 rfl (lv_at hl 0 rfl) ?_
        refine lv_iload_n hx hb dL_law_729 rfl (lv_at hl 3 rfl) ?_
        refine lv_iconst (v := 2) hx hb dL_law_730 (by decide) ?_
        refine lv_iadd hx hb dL_law_731 ?_
        refine va_sld hx hb hX hbl hbA hS hi2 dL_law_732 ?_
        refine lv_aload_n hx hb dL_law_733 rfl (lv_at hl 0 rfl) ?_
        refine lv_iload_n hx hb dL_law_734 rfl (lv_at hl 3 rfl) ?_
        refine lv_iconst (v := 3) hx hb dL_law_735 (by decide) ?_
        refine lv_iadd hx hb dL_law_736 ?_
        refine va_sld hx hb hX hbl hbA hS hi3 dL_law_737 ?_
        refine goIf (S := Unit) (wS := fun _ => mW G qm σM2) (w := mW G qm σM) (x := xW G q σX2) C hP hD hS (runVg (As := [.int (xs (x3 + 1).toNatClampNeg), .int (xs (x3 + 2).toNatClampNeg), .int (xs (x3 + 3).toNatClampNeg)]) (rest := [.int r]) (w := mW G qm σM) C lc_RL_96 (ctM_offBy N σM σM2 (xs (x3 + 1).toNatClampNeg) (xs (x3 + 2).toNatClampNeg) (xs (x3 + 3).toNatClampNeg) r e2 _) (pfP hP) (pfD hD) hS (va_recv hK (pfP hP) (ci := 7) (q0 := 0) rfl rfl) hl.1 rfl rfl rfl rfl ⟨Nat.le_of_ble_eq_true rfl, Nat.le_of_ble_eq_true rfl⟩ (Nat.le_of_ble_eq_true rfl) dL_law_738 ⟨hkc0, hks0⟩) (fun _ H locs hP hD hS => ?_)
        have hP := swP hP
        have hD := swD hD
        refine lv_icmp_eq (tgt := 1072) hx hb dL_law_741 (by decide) (fun _ => ?_) (fun c1 => absurd rfl c1)
        refine W.widen (k := kc + 5) (n := ks + 28) (by omega) (by omega) ?_
        exact back q σX2 σM2 H locs ls rfl hR2 hP hD hS hl
      · obtain ⟨r, σX2, σM2, e1, e2, hR2⟩ := hs 20 σX σM (xs (x3 + 1).toNatClampNeg) (xs (x3 + 2).toNatClampNeg) (xs (x3 + 3).toNatClampNeg) hR (by decide)
        obtain ⟨f1, rfl⟩ := lf_some e1
        obtain ⟨f2, rfl⟩ := lf_some e2
        refine lv_tableIn (off := 714) (tgt := 746) hx hb dL_law_32 (by rw [hj]; decide) (by rw [hj]; decide) (by rw [hj]; rfl) (by decide) ?_
        refine lv_aload_n hx hb dL_law_746 rfl (lv_at hl 1 rfl) ?_
        refine lv_aload_n hx hb dL_law_747 rfl (lv_at hl 0 rfl) ?_
        refine lv_iload_n hx hb dL_law_748 rfl (lv_at hl 3 rfl) ?_
        refine lv_iconst (v := 1) hx hb dL_law_749 (by decide) ?_
        refine lv_iadd hx hb dL_law_750 ?_
        refine va_sld hx hb hX hbl hbA hS hi1 dL_law_751 ?_
        refine lv_aload_n hx hb dL_law_752 rfl (lv_at hl 0 rfl) ?_
        refine lv_iload_n hx hb dL_law_753 rfl (lv_at hl 3 rfl) ?_
        refine lv_iconst (v := 2) hx hb dL_law_754 (by decide) ?_
        refine lv_iadd hx hb dL_law_755 ?_
        refine va_sld hx hb hX hbl hbA hS hi2 dL_law_756 ?_
        refine lv_aload_n hx hb dL_law_757 rfl (lv_at hl 0 rfl) ?_
        refine lv_iload_n hx hb dL_law_758 rfl (lv_at hl 3 rfl) ?_
        refine lv_iconst (v := 3) hx hb dL_law_759 (by decide) ?_
        refine lv_iadd hx hb dL_law_760 ?_
        refine va_sld hx hb hX hbl hbA hS hi3 dL_law_761 ?_
        refine goIf (S := Unit) (wS := fun _ => xW G q σX) (w := xW G q σX) (x := mW G qm σM) C hP hD hS (runVg (As := [.int (xs (x3 + 1).toNatClampNeg), .int (xs (x3 + 2).toNatClampNeg), .int (xs (x3 + 3).toNatClampNeg)]) (rest := []) (w := xW G q σX) C lc_RL_97 (ctX6_ofSet N σX (xs (x3 + 1).toNatClampNeg) (xs (x3 + 2).toNatClampNeg) (xs (x3 + 3).toNatClampNeg) r f1 _) (pfP hP) (pfD hD) hS (va_recv hK (pfP hP) (ci := 6) (q0 := 0) rfl rfl) hl.1 rfl rfl rfl rfl ⟨Nat.le_of_ble_eq_true rfl, Nat.le_of_ble_eq_true rfl⟩ (Nat.le_of_ble_eq_true rfl) dL_law_762 ⟨hkc0, hks0⟩) (fun _ H locs hP hD hS => ?_)
        have hP := swP hP
        have hD := swD hD
        refine lv_aload_n hx hb dL_law_765 rfl (lv_at hl 2 rfl) ?_
        refine lv_aload_n hx hb dL_law_766 rfl (lv_at hl 0 rfl) ?_
        refine lv_iload_n hx hb dL_law_767 rfl (lv_at hl 3 rfl) ?_
        refine lv_iconst (v := 1) hx hb dL_law_768 (by decide) ?_
        refine lv_iadd hx hb dL_law_769 ?_
        refine va_sld hx hb hX hbl hbA hS hi1 dL_law_770 ?_
        refine lv_aload_n hx hb dL_law_771 rfl (lv_at hl 0 rfl) ?_
        refine lv_iload_n hx hb dL_law_772 rfl (lv_at hl 3 rfl) ?_
        refine lv_iconst (v := 2) hx hb dL_law_773 (by decide) ?_
        refine lv_iadd hx hb dL_law_774 ?_
        refine va_sld hx hb hX hbl hbA hS hi2 dL_law_775 ?_
        refine lv_aload_n hx hb dL_law_776 rfl (lv_at hl 0 rfl) ?_
        refine lv_iload_n hx hb dL_law_777 rfl (lv_at hl 3 rfl) ?_
        refine lv_iconst (v := 3) hx hb dL_law_778 (by decide) ?_
        refine lv_iadd hx hb dL_law_779 ?_
        refine va_sld hx hb hX hbl hbA hS hi3 dL_law_780 ?_
        refine goIf (S := Unit) (wS := fun _ => mW G qm σM) (w := mW G qm σM) (x := xW G q σX) C hP hD hS (runVg (As := [.int (xs (x3 + 1).toNatClampNeg), .int (xs (x3 + 2).toNatClampNeg), .int (xs (x3 + 3).toNatClampNeg)]) (rest := [.int r]) (w := mW G qm σM) C lc_RL_100 (ctM_ofSet N σM (xs (x3 + 1).toNatClampNeg) (xs (x3 + 2).toNatClampNeg) (xs (x3 + 3).toNatClampNeg) r f2 _) (pfP hP) (pfD hD) hS (va_recv hK (pfP hP) (ci := 7) (q0 := 0) rfl rfl) hl.1 rfl rfl rfl rfl ⟨Nat.le_of_ble_eq_true rfl, Nat.le_of_ble_eq_true rfl⟩ (Nat.le_of_ble_eq_true rfl) dL_law_781 ⟨hkc0, hks0⟩) (fun _ H locs hP hD hS => ?_)
        have hP := swP hP
        have hD := swD hD
        refine lv_icmp_eq (tgt := 1072) hx hb dL_law_784 (by decide) (fun _ => ?_) (fun c1 => absurd rfl c1)
        refine W.widen (k := kc + 5) (n := ks + 28) (by omega) (by omega) ?_
        exact back q σX σM H locs ls rfl hR2 hP hD hS hl
      · obtain ⟨r, σX2, σM2, e1, e2, hR2⟩ := hs 21 σX σM (xs (x3 + 1).toNatClampNeg) (xs (x3 + 2).toNatClampNeg) (xs (x3 + 3).toNatClampNeg) hR (by decide)
        obtain ⟨f1, rfl⟩ := lf_some e1
        obtain ⟨f2, rfl⟩ := lf_some e2
        refine lv_tableIn (off := 757) (tgt := 789) hx hb dL_law_32 (by rw [hj]; decide) (by rw [hj]; decide) (by rw [hj]; rfl) (by decide) ?_
        refine lv_aload_n hx hb dL_law_789 rfl (lv_at hl 1 rfl) ?_
        refine lv_aload_n hx hb dL_law_790 rfl (lv_at hl 0 rfl) ?_
        refine lv_iload_n hx hb dL_law_791 rfl (lv_at hl 3 rfl) ?_
        refine lv_iconst (v := 1) hx hb dL_law_792 (by decide) ?_
        refine lv_iadd hx hb dL_law_793 ?_
        refine va_sld hx hb hX hbl hbA hS hi1 dL_law_794 ?_
        refine goIf (S := Unit) (wS := fun _ => xW G q σX) (w := xW G q σX) (x := mW G qm σM) C hP hD hS (runVg (As := [.int (xs (x3 + 1).toNatClampNeg)]) (rest := []) (w := xW G q σX) C lc_RL_101 (ctX6_errorOf N σX (xs (x3 + 1).toNatClampNeg) r f1 _) (pfP hP) (pfD hD) hS (va_recv hK (pfP hP) (ci := 6) (q0 := 0) rfl rfl) hl.1 rfl rfl rfl rfl ⟨Nat.le_of_ble_eq_true rfl, Nat.le_of_ble_eq_true rfl⟩ (Nat.le_of_ble_eq_true rfl) dL_law_795 ⟨hkc0, hks0⟩) (fun _ H locs hP hD hS => ?_)
        have hP := swP hP
        have hD := swD hD
        refine lv_aload_n hx hb dL_law_798 rfl (lv_at hl 2 rfl) ?_
        refine lv_aload_n hx hb dL_law_799 rfl (lv_at hl 0 rfl) ?_
        refine lv_iload_n hx hb dL_law_800 rfl (lv_at hl 3 rfl) ?_
        refine lv_iconst (v := 1) hx hb dL_law_801 (by decide) ?_
        refine lv_iadd hx hb dL_law_802 ?_
        refine va_sld hx hb hX hbl hbA hS hi1 dL_law_803 ?_
        refine goIf (S := Unit) (wS := fun _ => mW G qm σM) (w := mW G qm σM) (x := xW G q σX) C hP hD hS (runVg (As := [.int (xs (x3 + 1).toNatClampNeg)]) (rest := [.int r]) (w := mW G qm σM) C lc_RL_104 (ctM_errorOf N σM (xs (x3 + 1).toNatClampNeg) r f2 _) (pfP hP) (pfD hD) hS (va_recv hK (pfP hP) (ci := 7) (q0 := 0) rfl rfl) hl.1 rfl rfl rfl rfl ⟨Nat.le_of_ble_eq_true rfl, Nat.le_of_ble_eq_true rfl⟩ (Nat.le_of_ble_eq_true rfl) dL_law_804 ⟨hkc0, hks0⟩) (fun _ H locs hP hD hS => ?_)
        have hP := swP hP
        have hD := swD hD
        refine lv_icmp_eq (tgt := 1072) hx hb dL_law_807 (by decide) (fun _ => ?_) (fun c1 => absurd rfl c1)
        refine W.widen (k := kc + 5) (n := ks + 28) (by omega) (by omega) ?_
        exact back q σX σM H locs ls rfl hR2 hP hD hS hl
      · obtain ⟨r, σX2, σM2, e1, e2, hR2⟩ := hs 22 σX σM (xs (x3 + 1).toNatClampNeg) (xs (x3 + 2).toNatClampNeg) (xs (x3 + 3).toNatClampNeg) hR (by decide)
        refine lv_tableIn (off := 780) (tgt := 812) hx hb dL_law_32 (by rw [hj]; decide) (by rw [hj]; decide) (by rw [hj]; rfl) (by decide) ?_
        refine lv_aload_n hx hb dL_law_812 rfl (lv_at hl 1 rfl) ?_
        refine lv_aload_n hx hb dL_law_813 rfl (lv_at hl 0 rfl) ?_
        refine lv_iload_n hx hb dL_law_814 rfl (lv_at hl 3 rfl) ?_
        refine lv_iconst (v := 1) hx hb dL_law_815 (by decide) ?_
        refine lv_iadd hx hb dL_law_816 ?_
        refine va_sld hx hb hX hbl hbA hS hi1 dL_law_817 ?_
        refine lv_aload_n hx hb dL_law_818 rfl (lv_at hl 0 rfl) ?_
        refine lv_iload_n hx hb dL_law_819 rfl (lv_at hl 3 rfl) ?_
        refine lv_iconst (v := 2) hx hb dL_law_820 (by decide) ?_
        refine lv_iadd hx hb dL_law_821 ?_
        refine va_sld hx hb hX hbl hbA hS hi2 dL_law_822 ?_
        refine goIf (S := Unit) (wS := fun _ => xW G q σX2) (w := xW G q σX) (x := mW G qm σM) C hP hD hS (runVg (As := [.int (xs (x3 + 1).toNatClampNeg), .int (xs (x3 + 2).toNatClampNeg)]) (rest := []) (w := xW G q σX) C lc_RL_105 (ctX6_sheet N σX σX2 (xs (x3 + 1).toNatClampNeg) (xs (x3 + 2).toNatClampNeg) r e1 _) (pfP hP) (pfD hD) hS (va_recv hK (pfP hP) (ci := 6) (q0 := 0) rfl rfl) hl.1 rfl rfl rfl rfl ⟨Nat.le_of_ble_eq_true rfl, Nat.le_of_ble_eq_true rfl⟩ (Nat.le_of_ble_eq_true rfl) dL_law_823 ⟨hkc0, hks0⟩) (fun _ H locs hP hD hS => ?_)
        have hP := swP hP
        have hD := swD hD
        refine lv_aload_n hx hb dL_law_826 rfl (lv_at hl 2 rfl) ?_
        refine lv_aload_n hx hb dL_law_827 rfl (lv_at hl 0 rfl) ?_
        refine lv_iload_n hx hb dL_law_828 rfl (lv_at hl 3 rfl) ?_
        refine lv_iconst (v := 1) hx hb dL_law_829 (by decide) ?_
        refine lv_iadd hx hb dL_law_830 ?_
        refine va_sld hx hb hX hbl hbA hS hi1 dL_law_831 ?_
        refine lv_aload_n hx hb dL_law_832 rfl (lv_at hl 0 rfl) ?_
        refine lv_iload_n hx hb dL_law_833 rfl (lv_at hl 3 rfl) ?_
        refine lv_iconst (v := 2) hx hb dL_law_834 (by decide) ?_
        refine lv_iadd hx hb dL_law_835 ?_
        refine va_sld hx hb hX hbl hbA hS hi2 dL_law_836 ?_
        refine goIf (S := Unit) (wS := fun _ => mW G qm σM2) (w := mW G qm σM) (x := xW G q σX2) C hP hD hS (runVg (As := [.int (xs (x3 + 1).toNatClampNeg), .int (xs (x3 + 2).toNatClampNeg)]) (rest := [.int r]) (w := mW G qm σM) C lc_RL_108 (ctM_sheet N σM σM2 (xs (x3 + 1).toNatClampNeg) (xs (x3 + 2).toNatClampNeg) r e2 _) (pfP hP) (pfD hD) hS (va_recv hK (pfP hP) (ci := 7) (q0 := 0) rfl rfl) hl.1 rfl rfl rfl rfl ⟨Nat.le_of_ble_eq_true rfl, Nat.le_of_ble_eq_true rfl⟩ (Nat.le_of_ble_eq_true rfl) dL_law_837 ⟨hkc0, hks0⟩) (fun _ H locs hP hD hS => ?_)
        have hP := swP hP
        have hD := swD hD
        refine lv_icmp_eq (tgt := 1072) hx hb dL_law_840 (by decide) (fun _ => ?_) (fun c1 => absurd rfl c1)
        refine W.widen (k := kc + 5) (n := ks + 28) (by omega) (by omega) ?_
        exact back q σX2 σM2 H locs ls rfl hR2 hP hD hS hl
      · obtain ⟨r, σX2, σM2, e1, e2, hR2⟩ := hs 23 σX σM (xs (x3 + 1).toNatClampNeg) (xs (x3 + 2).toNatClampNeg) (xs (x3 + 3).toNatClampNeg) hR (by decide)
        refine lv_tableIn (off := 813) (tgt := 845) hx hb dL_law_32 (by rw [hj]; decide) (by rw [hj]; decide) (by rw [hj]; rfl) (by decide) ?_
        refine lv_aload_n hx hb dL_law_845 rfl (lv_at hl 1 rfl) ?_
        refine lv_aload_n hx hb dL_law_846 rfl (lv_at hl 0 rfl) ?_
        refine lv_iload_n hx hb dL_law_847 rfl (lv_at hl 3 rfl) ?_
        refine lv_iconst (v := 1) hx hb dL_law_848 (by decide) ?_
        refine lv_iadd hx hb dL_law_849 ?_
        refine va_sld hx hb hX hbl hbA hS hi1 dL_law_850 ?_
        refine goIf (S := Unit) (wS := fun _ => xW G q σX2) (w := xW G q σX) (x := mW G qm σM) C hP hD hS (runVg (As := [.int (xs (x3 + 1).toNatClampNeg)]) (rest := []) (w := xW G q σX) C lc_RL_109 (ctX6_round N σX σX2 (xs (x3 + 1).toNatClampNeg) r e1 _) (pfP hP) (pfD hD) hS (va_recv hK (pfP hP) (ci := 6) (q0 := 0) rfl rfl) hl.1 rfl rfl rfl rfl ⟨Nat.le_of_ble_eq_true rfl, Nat.le_of_ble_eq_true rfl⟩ (Nat.le_of_ble_eq_true rfl) dL_law_851 ⟨hkc0, hks0⟩) (fun _ H locs hP hD hS => ?_)
        have hP := swP hP
        have hD := swD hD
        refine lv_aload_n hx hb dL_law_854 rfl (lv_at hl 2 rfl) ?_
        refine lv_aload_n hx hb dL_law_855 rfl (lv_at hl 0 rfl) ?_
        refine lv_iload_n hx hb dL_law_856 rfl (lv_at hl 3 rfl) ?_
        refine lv_iconst (v := 1) hx hb dL_law_857 (by decide) ?_
        refine lv_iadd hx hb dL_law_858 ?_
        refine va_sld hx hb hX hbl hbA hS hi1 dL_law_859 ?_
        refine goIf (S := Unit) (wS := fun _ => mW G qm σM2) (w := mW G qm σM) (x := xW G q σX2) C hP hD hS (runVg (As := [.int (xs (x3 + 1).toNatClampNeg)]) (rest := [.int r]) (w := mW G qm σM) C lc_RL_112 (ctM_round N σM σM2 (xs (x3 + 1).toNatClampNeg) r e2 _) (pfP hP) (pfD hD) hS (va_recv hK (pfP hP) (ci := 7) (q0 := 0) rfl rfl) hl.1 rfl rfl rfl rfl ⟨Nat.le_of_ble_eq_true rfl, Nat.le_of_ble_eq_true rfl⟩ (Nat.le_of_ble_eq_true rfl) dL_law_860 ⟨hkc0, hks0⟩) (fun _ H locs hP hD hS => ?_)
        have hP := swP hP
        have hD := swD hD
        refine lv_icmp_eq (tgt := 1072) hx hb dL_law_863 (by decide) (fun _ => ?_) (fun c1 => absurd rfl c1)
        refine W.widen (k := kc + 5) (n := ks + 28) (by omega) (by omega) ?_
        exact back q σX2 σM2 H locs ls rfl hR2 hP hD hS hl
      · obtain ⟨r, σX2, σM2, e1, e2, hR2⟩ := hs 24 σX σM (xs (x3 + 1).toNatClampNeg) (xs (x3 + 2).toNatClampNeg) (xs (x3 + 3).toNatClampNeg) hR (by decide)
        refine lv_tableIn (off := 836) (tgt := 868) hx hb dL_law_32 (by rw [hj]; decide) (by rw [hj]; decide) (by rw [hj]; rfl) (by decide) ?_
        refine lv_aload_n hx hb dL_law_868 rfl (lv_at hl 1 rfl) ?_
        refine lv_aload_n hx hb dL_law_869 rfl (lv_at hl 0 rfl) ?_
        refine lv_iload_n hx hb dL_law_870 rfl (lv_at hl 3 rfl) ?_
        refine lv_iconst (v := 1) hx hb dL_law_871 (by decide) ?_
        refine lv_iadd hx hb dL_law_872 ?_
        refine va_sld hx hb hX hbl hbA hS hi1 dL_law_873 ?_
        refine goIf (S := Unit) (wS := fun _ => xW G q σX2) (w := xW G q σX) (x := mW G qm σM) C hP hD hS (runVg (As := [.int (xs (x3 + 1).toNatClampNeg)]) (rest := []) (w := xW G q σX) C lc_RL_113 (ctX6_align N σX σX2 (xs (x3 + 1).toNatClampNeg) r e1 _) (pfP hP) (pfD hD) hS (va_recv hK (pfP hP) (ci := 6) (q0 := 0) rfl rfl) hl.1 rfl rfl rfl rfl ⟨Nat.le_of_ble_eq_true rfl, Nat.le_of_ble_eq_true rfl⟩ (Nat.le_of_ble_eq_true rfl) dL_law_874 ⟨hkc0, hks0⟩) (fun _ H locs hP hD hS => ?_)
        have hP := swP hP
        have hD := swD hD
        refine lv_aload_n hx hb dL_law_877 rfl (lv_at hl 2 rfl) ?_
        refine lv_aload_n hx hb dL_law_878 rfl (lv_at hl 0 rfl) ?_
        refine lv_iload_n hx hb dL_law_879 rfl (lv_at hl 3 rfl) ?_
        refine lv_iconst (v := 1) hx hb dL_law_880 (by decide) ?_
        refine lv_iadd hx hb dL_law_881 ?_
        refine va_sld hx hb hX hbl hbA hS hi1 dL_law_882 ?_
        refine goIf (S := Unit) (wS := fun _ => mW G qm σM2) (w := mW G qm σM) (x := xW G q σX2) C hP hD hS (runVg (As := [.int (xs (x3 + 1).toNatClampNeg)]) (rest := [.int r]) (w := mW G qm σM) C lc_RL_116 (ctM_align N σM σM2 (xs (x3 + 1).toNatClampNeg) r e2 _) (pfP hP) (pfD hD) hS (va_recv hK (pfP hP) (ci := 7) (q0 := 0) rfl rfl) hl.1 rfl rfl rfl rfl ⟨Nat.le_of_ble_eq_true rfl, Nat.le_of_ble_eq_true rfl⟩ (Nat.le_of_ble_eq_true rfl) dL_law_883 ⟨hkc0, hks0⟩) (fun _ H locs hP hD hS => ?_)
        have hP := swP hP
        have hD := swD hD
        refine lv_icmp_eq (tgt := 1072) hx hb dL_law_886 (by decide) (fun _ => ?_) (fun c1 => absurd rfl c1)
        refine W.widen (k := kc + 5) (n := ks + 28) (by omega) (by omega) ?_
        exact back q σX2 σM2 H locs ls rfl hR2 hP hD hS hl
      · obtain ⟨r, σX2, σM2, e1, e2, hR2⟩ := hs 25 σX σM (xs (x3 + 1).toNatClampNeg) (xs (x3 + 2).toNatClampNeg) (xs (x3 + 3).toNatClampNeg) hR (by decide)
        refine lv_tableIn (off := 859) (tgt := 891) hx hb dL_law_32 (by rw [hj]; decide) (by rw [hj]; decide) (by rw [hj]; rfl) (by decide) ?_
        refine lv_aload_n hx hb dL_law_891 rfl (lv_at hl 1 rfl) ?_
        refine lv_aload_n hx hb dL_law_892 rfl (lv_at hl 0 rfl) ?_
        refine lv_iload_n hx hb dL_law_893 rfl (lv_at hl 3 rfl) ?_
        refine lv_iconst (v := 1) hx hb dL_law_894 (by decide) ?_
        refine lv_iadd hx hb dL_law_895 ?_
        refine va_sld hx hb hX hbl hbA hS hi1 dL_law_896 ?_
        refine goIf (S := Unit) (wS := fun _ => xW G q σX2) (w := xW G q σX) (x := mW G qm σM) C hP hD hS (runVg (As := [.int (xs (x3 + 1).toNatClampNeg)]) (rest := []) (w := xW G q σX) C lc_RL_117 (ctX6_fault N σX σX2 (xs (x3 + 1).toNatClampNeg) r e1 _) (pfP hP) (pfD hD) hS (va_recv hK (pfP hP) (ci := 6) (q0 := 0) rfl rfl) hl.1 rfl rfl rfl rfl ⟨Nat.le_of_ble_eq_true rfl, Nat.le_of_ble_eq_true rfl⟩ (Nat.le_of_ble_eq_true rfl) dL_law_897 ⟨hkc0, hks0⟩) (fun _ H locs hP hD hS => ?_)
        have hP := swP hP
        have hD := swD hD
        refine lv_aload_n hx hb dL_law_900 rfl (lv_at hl 2 rfl) ?_
        refine lv_aload_n hx hb dL_law_901 rfl (lv_at hl 0 rfl) ?_
        refine lv_iload_n hx hb dL_law_902 rfl (lv_at hl 3 rfl) ?_
        refine lv_iconst (v := 1) hx hb dL_law_903 (by decide) ?_
        refine lv_iadd hx hb dL_law_904 ?_
        refine va_sld hx hb hX hbl hbA hS hi1 dL_law_905 ?_
        refine goIf (S := Unit) (wS := fun _ => mW G qm σM2) (w := mW G qm σM) (x := xW G q σX2) C hP hD hS (runVg (As := [.int (xs (x3 + 1).toNatClampNeg)]) (rest := [.int r]) (w := mW G qm σM) C lc_RL_120 (ctM_fault N σM σM2 (xs (x3 + 1).toNatClampNeg) r e2 _) (pfP hP) (pfD hD) hS (va_recv hK (pfP hP) (ci := 7) (q0 := 0) rfl rfl) hl.1 rfl rfl rfl rfl ⟨Nat.le_of_ble_eq_true rfl, Nat.le_of_ble_eq_true rfl⟩ (Nat.le_of_ble_eq_true rfl) dL_law_906 ⟨hkc0, hks0⟩) (fun _ H locs hP hD hS => ?_)
        have hP := swP hP
        have hD := swD hD
        refine lv_icmp_eq (tgt := 1072) hx hb dL_law_909 (by decide) (fun _ => ?_) (fun c1 => absurd rfl c1)
        refine W.widen (k := kc + 5) (n := ks + 28) (by omega) (by omega) ?_
        exact back q σX2 σM2 H locs ls rfl hR2 hP hD hS hl
      · obtain ⟨r, σX2, σM2, e1, e2, hR2⟩ := hs 26 σX σM (xs (x3 + 1).toNatClampNeg) (xs (x3 + 2).toNatClampNeg) (xs (x3 + 3).toNatClampNeg) hR (by decide)
        refine lv_tableIn (off := 882) (tgt := 914) hx hb dL_law_32 (by rw [hj]; decide) (by rw [hj]; decide) (by rw [hj]; rfl) (by decide) ?_
        refine lv_aload_n hx hb dL_law_914 rfl (lv_at hl 1 rfl) ?_
        refine lv_aload_n hx hb dL_law_915 rfl (lv_at hl 0 rfl) ?_
        refine lv_iload_n hx hb dL_law_916 rfl (lv_at hl 3 rfl) ?_
        refine lv_iconst (v := 1) hx hb dL_law_917 (by decide) ?_
        refine lv_iadd hx hb dL_law_918 ?_
        refine va_sld hx hb hX hbl hbA hS hi1 dL_law_919 ?_
        refine goIf (S := Unit) (wS := fun _ => xW G q σX2) (w := xW G q σX) (x := mW G qm σM) C hP hD hS (runVg (As := [.int (xs (x3 + 1).toNatClampNeg)]) (rest := []) (w := xW G q σX) C lc_RL_121 (ctX6_test N σX σX2 (xs (x3 + 1).toNatClampNeg) r e1 _) (pfP hP) (pfD hD) hS (va_recv hK (pfP hP) (ci := 6) (q0 := 0) rfl rfl) hl.1 rfl rfl rfl rfl ⟨Nat.le_of_ble_eq_true rfl, Nat.le_of_ble_eq_true rfl⟩ (Nat.le_of_ble_eq_true rfl) dL_law_920 ⟨hkc0, hks0⟩) (fun _ H locs hP hD hS => ?_)
        have hP := swP hP
        have hD := swD hD
        refine lv_aload_n hx hb dL_law_923 rfl (lv_at hl 2 rfl) ?_
        refine lv_aload_n hx hb dL_law_924 rfl (lv_at hl 0 rfl) ?_
        refine lv_iload_n hx hb dL_law_925 rfl (lv_at hl 3 rfl) ?_
        refine lv_iconst (v := 1) hx hb dL_law_926 (by decide) ?_
        refine lv_iadd hx hb dL_law_927 ?_
        refine va_sld hx hb hX hbl hbA hS hi1 dL_law_928 ?_
        refine goIf (S := Unit) (wS := fun _ => mW G qm σM2) (w := mW G qm σM) (x := xW G q σX2) C hP hD hS (runVg (As := [.int (xs (x3 + 1).toNatClampNeg)]) (rest := [.int r]) (w := mW G qm σM) C lc_RL_124 (ctM_test N σM σM2 (xs (x3 + 1).toNatClampNeg) r e2 _) (pfP hP) (pfD hD) hS (va_recv hK (pfP hP) (ci := 7) (q0 := 0) rfl rfl) hl.1 rfl rfl rfl rfl ⟨Nat.le_of_ble_eq_true rfl, Nat.le_of_ble_eq_true rfl⟩ (Nat.le_of_ble_eq_true rfl) dL_law_929 ⟨hkc0, hks0⟩) (fun _ H locs hP hD hS => ?_)
        have hP := swP hP
        have hD := swD hD
        refine lv_icmp_eq (tgt := 1072) hx hb dL_law_932 (by decide) (fun _ => ?_) (fun c1 => absurd rfl c1)
        refine W.widen (k := kc + 5) (n := ks + 28) (by omega) (by omega) ?_
        exact back q σX2 σM2 H locs ls rfl hR2 hP hD hS hl
      · obtain ⟨r, σX2, σM2, e1, e2, hR2⟩ := hs 27 σX σM (xs (x3 + 1).toNatClampNeg) (xs (x3 + 2).toNatClampNeg) (xs (x3 + 3).toNatClampNeg) hR (by decide)
        refine lv_tableIn (off := 905) (tgt := 937) hx hb dL_law_32 (by rw [hj]; decide) (by rw [hj]; decide) (by rw [hj]; rfl) (by decide) ?_
        refine lv_aload_n hx hb dL_law_937 rfl (lv_at hl 1 rfl) ?_
        refine lv_aload_n hx hb dL_law_938 rfl (lv_at hl 0 rfl) ?_
        refine lv_iload_n hx hb dL_law_939 rfl (lv_at hl 3 rfl) ?_
        refine lv_iconst (v := 1) hx hb dL_law_940 (by decide) ?_
        refine lv_iadd hx hb dL_law_941 ?_
        refine va_sld hx hb hX hbl hbA hS hi1 dL_law_942 ?_
        refine lv_aload_n hx hb dL_law_943 rfl (lv_at hl 0 rfl) ?_
        refine lv_iload_n hx hb dL_law_944 rfl (lv_at hl 3 rfl) ?_
        refine lv_iconst (v := 2) hx hb dL_law_945 (by decide) ?_
        refine lv_iadd hx hb dL_law_946 ?_
        refine va_sld hx hb hX hbl hbA hS hi2 dL_law_947 ?_
        refine lv_aload_n hx hb dL_law_948 rfl (lv_at hl 0 rfl) ?_
        refine lv_iload_n hx hb dL_law_949 rfl (lv_at hl 3 rfl) ?_
        refine lv_iconst (v := 3) hx hb dL_law_950 (by decide) ?_
        refine lv_iadd hx hb dL_law_951 ?_
        refine va_sld hx hb hX hbl hbA hS hi3 dL_law_952 ?_
        refine goIf (S := Unit) (wS := fun _ => xW G q σX2) (w := xW G q σX) (x := mW G qm σM) C hP hD hS (runVg (As := [.int (xs (x3 + 1).toNatClampNeg), .int (xs (x3 + 2).toNatClampNeg), .int (xs (x3 + 3).toNatClampNeg)]) (rest := []) (w := xW G q σX) C lc_RL_125 (ctX6_reading N σX σX2 (xs (x3 + 1).toNatClampNeg) (xs (x3 + 2).toNatClampNeg) (xs (x3 + 3).toNatClampNeg) r e1 _) (pfP hP) (pfD hD) hS (va_recv hK (pfP hP) (ci := 6) (q0 := 0) rfl rfl) hl.1 rfl rfl rfl rfl ⟨Nat.le_of_ble_eq_true rfl, Nat.le_of_ble_eq_true rfl⟩ (Nat.le_of_ble_eq_true rfl) dL_law_953 ⟨hkc0, hks0⟩) (fun _ H locs hP hD hS => ?_)
        have hP := swP hP
        have hD := swD hD
        refine lv_aload_n hx hb dL_law_956 rfl (lv_at hl 2 rfl) ?_
        refine lv_aload_n hx hb dL_law_957 rfl (lv_at hl 0 rfl) ?_
        refine lv_iload_n hx hb dL_law_958 rfl (lv_at hl 3 rfl) ?_
        refine lv_iconst (v := 1) hx hb dL_law_959 (by decide) ?_
        refine lv_iadd hx hb dL_law_960 ?_
        refine va_sld hx hb hX hbl hbA hS hi1 dL_law_961 ?_
        refine lv_aload_n hx hb dL_law_962 rfl (lv_at hl 0 rfl) ?_
        refine lv_iload_n hx hb dL_law_963 rfl (lv_at hl 3 rfl) ?_
        refine lv_iconst (v := 2) hx hb dL_law_964 (by decide) ?_
        refine lv_iadd hx hb dL_law_965 ?_
        refine va_sld hx hb hX hbl hbA hS hi2 dL_law_966 ?_
        refine lv_aload_n hx hb dL_law_967 rfl (lv_at hl 0 rfl) ?_
        refine lv_iload_n hx hb dL_law_968 rfl (lv_at hl 3 rfl) ?_
        refine lv_iconst (v := 3) hx hb dL_law_969 (by decide) ?_
        refine lv_iadd hx hb dL_law_970 ?_
        refine va_sld hx hb hX hbl hbA hS hi3 dL_law_971 ?_
        refine goIf (S := Unit) (wS := fun _ => mW G qm σM2) (w := mW G qm σM) (x := xW G q σX2) C hP hD hS (runVg (As := [.int (xs (x3 + 1).toNatClampNeg), .int (xs (x3 + 2).toNatClampNeg), .int (xs (x3 + 3).toNatClampNeg)]) (rest := [.int r]) (w := mW G qm σM) C lc_RL_128 (ctM_reading N σM σM2 (xs (x3 + 1).toNatClampNeg) (xs (x3 + 2).toNatClampNeg) (xs (x3 + 3).toNatClampNeg) r e2 _) (pfP hP) (pfD hD) hS (va_recv hK (pfP hP) (ci := 7) (q0 := 0) rfl rfl) hl.1 rfl rfl rfl rfl ⟨Nat.le_of_ble_eq_true rfl, Nat.le_of_ble_eq_true rfl⟩ (Nat.le_of_ble_eq_true rfl) dL_law_972 ⟨hkc0, hks0⟩) (fun _ H locs hP hD hS => ?_)
        have hP := swP hP
        have hD := swD hD
        refine lv_icmp_eq (tgt := 1072) hx hb dL_law_975 (by decide) (fun _ => ?_) (fun c1 => absurd rfl c1)
        refine W.widen (k := kc + 5) (n := ks + 28) (by omega) (by omega) ?_
        exact back q σX2 σM2 H locs ls rfl hR2 hP hD hS hl
      · obtain ⟨r, σX2, σM2, e1, e2, hR2⟩ := hs 28 σX σM (xs (x3 + 1).toNatClampNeg) (xs (x3 + 2).toNatClampNeg) (xs (x3 + 3).toNatClampNeg) hR (by decide)
        refine lv_tableIn (off := 948) (tgt := 980) hx hb dL_law_32 (by rw [hj]; decide) (by rw [hj]; decide) (by rw [hj]; rfl) (by decide) ?_
        refine lv_aload_n hx hb dL_law_980 rfl (lv_at hl 1 rfl) ?_
        refine lv_aload_n hx hb dL_law_981 rfl (lv_at hl 0 rfl) ?_
        refine lv_iload_n hx hb dL_law_982 rfl (lv_at hl 3 rfl) ?_
        refine lv_iconst (v := 1) hx hb dL_law_983 (by decide) ?_
        refine lv_iadd hx hb dL_law_984 ?_
        refine va_sld hx hb hX hbl hbA hS hi1 dL_law_985 ?_
        refine lv_aload_n hx hb dL_law_986 rfl (lv_at hl 0 rfl) ?_
        refine lv_iload_n hx hb dL_law_987 rfl (lv_at hl 3 rfl) ?_
        refine lv_iconst (v := 2) hx hb dL_law_988 (by decide) ?_
        refine lv_iadd hx hb dL_law_989 ?_
        refine va_sld hx hb hX hbl hbA hS hi2 dL_law_990 ?_
        refine goIf (S := Unit) (wS := fun _ => xW G q σX2) (w := xW G q σX) (x := mW G qm σM) C hP hD hS (runVg (As := [.int (xs (x3 + 1).toNatClampNeg), .int (xs (x3 + 2).toNatClampNeg)]) (rest := []) (w := xW G q σX) C lc_RL_129 (ctX6_read N σX σX2 (xs (x3 + 1).toNatClampNeg) (xs (x3 + 2).toNatClampNeg) r e1 _) (pfP hP) (pfD hD) hS (va_recv hK (pfP hP) (ci := 6) (q0 := 0) rfl rfl) hl.1 rfl rfl rfl rfl ⟨Nat.le_of_ble_eq_true rfl, Nat.le_of_ble_eq_true rfl⟩ (Nat.le_of_ble_eq_true rfl) dL_law_991 ⟨hkc0, hks0⟩) (fun _ H locs hP hD hS => ?_)
        have hP := swP hP
        have hD := swD hD
        refine lv_aload_n hx hb dL_law_994 rfl (lv_at hl 2 rfl) ?_
        refine lv_aload_n hx hb dL_law_995 rfl (lv_at hl 0 rfl) ?_
        refine lv_iload_n hx hb dL_law_996 rfl (lv_at hl 3 rfl) ?_
        refine lv_iconst (v := 1) hx hb dL_law_997 (by decide) ?_
        refine lv_iadd hx hb dL_law_998 ?_
        refine va_sld hx hb hX hbl hbA hS hi1 dL_law_999 ?_
        refine lv_aload_n hx hb dL_law_1000 rfl (lv_at hl 0 rfl) ?_
        refine lv_iload_n hx hb dL_law_1001 rfl (lv_at hl 3 rfl) ?_
        refine lv_iconst (v := 2) hx hb dL_law_1002 (by decide) ?_
        refine lv_iadd hx hb dL_law_1003 ?_
        refine va_sld hx hb hX hbl hbA hS hi2 dL_law_1004 ?_
        refine goIf (S := Unit) (wS := fun _ => mW G qm σM2) (w := mW G qm σM) (x := xW G q σX2) C hP hD hS (runVg (As := [.int (xs (x3 + 1).toNatClampNeg), .int (xs (x3 + 2).toNatClampNeg)]) (rest := [.int r]) (w := mW G qm σM) C lc_RL_132 (ctM_read N σM σM2 (xs (x3 + 1).toNatClampNeg) (xs (x3 + 2).toNatClampNeg) r e2 _) (pfP hP) (pfD hD) hS (va_recv hK (pfP hP) (ci := 7) (q0 := 0) rfl rfl) hl.1 rfl rfl rfl rfl ⟨Nat.le_of_ble_eq_true rfl, Nat.le_of_ble_eq_true rfl⟩ (Nat.le_of_ble_eq_true rfl) dL_law_1005 ⟨hkc0, hks0⟩) (fun _ H locs hP hD hS => ?_)
        have hP := swP hP
        have hD := swD hD
        refine lv_icmp_eq (tgt := 1072) hx hb dL_law_1008 (by decide) (fun _ => ?_) (fun c1 => absurd rfl c1)
        refine W.widen (k := kc + 5) (n := ks + 28) (by omega) (by omega) ?_
        exact back q σX2 σM2 H locs ls rfl hR2 hP hD hS hl
      · obtain ⟨r, σX2, σM2, e1, e2, hR2⟩ := hs 29 σX σM (xs (x3 + 1).toNatClampNeg) (xs (x3 + 2).toNatClampNeg) (xs (x3 + 3).toNatClampNeg) hR (by decide)
        refine lv_tableIn (off := 981) (tgt := 1013) hx hb dL_law_32 (by rw [hj]; decide) (by rw [hj]; decide) (by rw [hj]; rfl) (by decide) ?_
        refine lv_aload_n hx hb dL_law_1013 rfl (lv_at hl 1 rfl) ?_
        refine goIf (S := Unit) (wS := fun _ => xW G q σX2) (w := xW G q σX) (x := mW G qm σM) C hP hD hS (runVg (As := []) (rest := []) (w := xW G q σX) C lc_RL_133 (ctX6_again N σX σX2  r e1 _) (pfP hP) (pfD hD) hS (va_recv hK (pfP hP) (ci := 6) (q0 := 0) rfl rfl) hl.1 rfl rfl rfl rfl ⟨Nat.le_of_ble_eq_true rfl, Nat.le_of_ble_eq_true rfl⟩ (Nat.le_of_ble_eq_true rfl) dL_law_1014 ⟨hkc0, hks0⟩) (fun _ H locs hP hD hS => ?_)
        have hP := swP hP
        have hD := swD hD
        refine lv_aload_n hx hb dL_law_1017 rfl (lv_at hl 2 rfl) ?_
        refine goIf (S := Unit) (wS := fun _ => mW G qm σM2) (w := mW G qm σM) (x := xW G q σX2) C hP hD hS (runVg (As := []) (rest := [.int r]) (w := mW G qm σM) C lc_RL_136 (ctM_again N σM σM2  r e2 _) (pfP hP) (pfD hD) hS (va_recv hK (pfP hP) (ci := 7) (q0 := 0) rfl rfl) hl.1 rfl rfl rfl rfl ⟨Nat.le_of_ble_eq_true rfl, Nat.le_of_ble_eq_true rfl⟩ (Nat.le_of_ble_eq_true rfl) dL_law_1018 ⟨hkc0, hks0⟩) (fun _ H locs hP hD hS => ?_)
        have hP := swP hP
        have hD := swD hD
        refine lv_icmp_eq (tgt := 1072) hx hb dL_law_1021 (by decide) (fun _ => ?_) (fun c1 => absurd rfl c1)
        refine W.widen (k := kc + 5) (n := ks + 28) (by omega) (by omega) ?_
        exact back q σX2 σM2 H locs ls rfl hR2 hP hD hS hl
      · obtain ⟨r, σX2, σM2, e1, e2, hR2⟩ := hs 30 σX σM (xs (x3 + 1).toNatClampNeg) (xs (x3 + 2).toNatClampNeg) (xs (x3 + 3).toNatClampNeg) hR (by decide)
        refine lv_tableIn (off := 994) (tgt := 1026) hx hb dL_law_32 (by rw [hj]; decide) (by rw [hj]; decide) (by rw [hj]; rfl) (by decide) ?_
        refine lv_aload_n hx hb dL_law_1026 rfl (lv_at hl 1 rfl) ?_
        refine lv_aload_n hx hb dL_law_1027 rfl (lv_at hl 0 rfl) ?_
        refine lv_iload_n hx hb dL_law_1028 rfl (lv_at hl 3 rfl) ?_
        refine lv_iconst (v := 1) hx hb dL_law_1029 (by decide) ?_
        refine lv_iadd hx hb dL_law_1030 ?_
        refine va_sld hx hb hX hbl hbA hS hi1 dL_law_1031 ?_
        refine goIf (S := Unit) (wS := fun _ => xW G q σX2) (w := xW G q σX) (x := mW G qm σM) C hP hD hS (runVg (As := [.int (xs (x3 + 1).toNatClampNeg)]) (rest := []) (w := xW G q σX) C lc_RL_137 (ctX6_left N σX σX2 (xs (x3 + 1).toNatClampNeg) r e1 _) (pfP hP) (pfD hD) hS (va_recv hK (pfP hP) (ci := 6) (q0 := 0) rfl rfl) hl.1 rfl rfl rfl rfl ⟨Nat.le_of_ble_eq_true rfl, Nat.le_of_ble_eq_true rfl⟩ (Nat.le_of_ble_eq_true rfl) dL_law_1032 ⟨hkc0, hks0⟩) (fun _ H locs hP hD hS => ?_)
        have hP := swP hP
        have hD := swD hD
        refine lv_aload_n hx hb dL_law_1035 rfl (lv_at hl 2 rfl) ?_
        refine lv_aload_n hx hb dL_law_1036 rfl (lv_at hl 0 rfl) ?_
        refine lv_iload_n hx hb dL_law_1037 rfl (lv_at hl 3 rfl) ?_
        refine lv_iconst (v := 1) hx hb dL_law_1038 (by decide) ?_
        refine lv_iadd hx hb dL_law_1039 ?_
        refine va_sld hx hb hX hbl hbA hS hi1 dL_law_1040 ?_
        refine goIf (S := Unit) (wS := fun _ => mW G qm σM2) (w := mW G qm σM) (x := xW G q σX2) C hP hD hS (runVg (As := [.int (xs (x3 + 1).toNatClampNeg)]) (rest := [.int r]) (w := mW G qm σM) C lc_RL_140 (ctM_left N σM σM2 (xs (x3 + 1).toNatClampNeg) r e2 _) (pfP hP) (pfD hD) hS (va_recv hK (pfP hP) (ci := 7) (q0 := 0) rfl rfl) hl.1 rfl rfl rfl rfl ⟨Nat.le_of_ble_eq_true rfl, Nat.le_of_ble_eq_true rfl⟩ (Nat.le_of_ble_eq_true rfl) dL_law_1041 ⟨hkc0, hks0⟩) (fun _ H locs hP hD hS => ?_)
        have hP := swP hP
        have hD := swD hD
        refine lv_icmp_eq (tgt := 1072) hx hb dL_law_1044 (by decide) (fun _ => ?_) (fun c1 => absurd rfl c1)
        refine W.widen (k := kc + 5) (n := ks + 28) (by omega) (by omega) ?_
        exact back q σX2 σM2 H locs ls rfl hR2 hP hD hS hl
      · obtain ⟨r, σX2, σM2, e1, e2, hR2⟩ := hs 31 σX σM (xs (x3 + 1).toNatClampNeg) (xs (x3 + 2).toNatClampNeg) (xs (x3 + 3).toNatClampNeg) hR (by decide)
        refine lv_tableIn (off := 1017) (tgt := 1049) hx hb dL_law_32 (by rw [hj]; decide) (by rw [hj]; decide) (by rw [hj]; rfl) (by decide) ?_
        refine lv_aload_n hx hb dL_law_1049 rfl (lv_at hl 1 rfl) ?_
        refine lv_aload_n hx hb dL_law_1050 rfl (lv_at hl 0 rfl) ?_
        refine lv_iload_n hx hb dL_law_1051 rfl (lv_at hl 3 rfl) ?_
        refine lv_iconst (v := 1) hx hb dL_law_1052 (by decide) ?_
        refine lv_iadd hx hb dL_law_1053 ?_
        refine va_sld hx hb hX hbl hbA hS hi1 dL_law_1054 ?_
        refine goIf (S := Unit) (wS := fun _ => xW G q σX2) (w := xW G q σX) (x := mW G qm σM) C hP hD hS (runVg (As := [.int (xs (x3 + 1).toNatClampNeg)]) (rest := []) (w := xW G q σX) C lc_RL_141 (ctX6_count N σX σX2 (xs (x3 + 1).toNatClampNeg) r e1 _) (pfP hP) (pfD hD) hS (va_recv hK (pfP hP) (ci := 6) (q0 := 0) rfl rfl) hl.1 rfl rfl rfl rfl ⟨Nat.le_of_ble_eq_true rfl, Nat.le_of_ble_eq_true rfl⟩ (Nat.le_of_ble_eq_true rfl) dL_law_1055 ⟨hkc0, hks0⟩) (fun _ H locs hP hD hS => ?_)
        have hP := swP hP
        have hD := swD hD
        refine lv_aload_n hx hb dL_law_1058 rfl (lv_at hl 2 rfl) ?_
        refine lv_aload_n hx hb dL_law_1059 rfl (lv_at hl 0 rfl) ?_
        refine lv_iload_n hx hb dL_law_1060 rfl (lv_at hl 3 rfl) ?_
        refine lv_iconst (v := 1) hx hb dL_law_1061 (by decide) ?_
        refine lv_iadd hx hb dL_law_1062 ?_
        refine va_sld hx hb hX hbl hbA hS hi1 dL_law_1063 ?_
        refine goIf (S := Unit) (wS := fun _ => mW G qm σM2) (w := mW G qm σM) (x := xW G q σX2) C hP hD hS (runVg (As := [.int (xs (x3 + 1).toNatClampNeg)]) (rest := [.int r]) (w := mW G qm σM) C lc_RL_144 (ctM_count N σM σM2 (xs (x3 + 1).toNatClampNeg) r e2 _) (pfP hP) (pfD hD) hS (va_recv hK (pfP hP) (ci := 7) (q0 := 0) rfl rfl) hl.1 rfl rfl rfl rfl ⟨Nat.le_of_ble_eq_true rfl, Nat.le_of_ble_eq_true rfl⟩ (Nat.le_of_ble_eq_true rfl) dL_law_1064 ⟨hkc0, hks0⟩) (fun _ H locs hP hD hS => ?_)
        have hP := swP hP
        have hD := swD hD
        refine lv_icmp_eq (tgt := 1072) hx hb dL_law_1067 (by decide) (fun _ => ?_) (fun c1 => absurd rfl c1)
        refine W.widen (k := kc + 5) (n := ks + 28) (by omega) (by omega) ?_
        exact back q σX2 σM2 H locs ls rfl hR2 hP hD hS hl
end
