/-! Bench.build and RadioRoom.set -/
section
variable {G : GP} {p : Program} {l : Launch} {e : Env} {R : Room} {s : State} {m : MethodId} {args : Array Value} {below : List Frame} {meth : Method} {c : Code} {H H1 : Heap} {locs : List Loc} {cells slots : Nat} {Q : State → Prop} {cc : ByteArray} {nL : Nat} {ret : Option FieldType} {k : Cond} {own : String} {A : Nat → Prop} {pc : Nat} {ls : Array Slot} {rest : List Value} {w : va_W} {y : MethodName} {d mc ms : Nat} {av : List Value} {q : Nat → Nat} {σ σ' : St}
def oP (σ : St) : St := sA σ 4 (5 : Int32).toNatClampNeg (σ.2 2 (0 : Int32).toNatClampNeg)
theorem oP_eq (N : Nat) (σ : St) : fX5_ownParts N σ = some (oP σ) := rfl
def nS (σ : St) : St := (upd σ.1 10 (σ.1 10 + 1), fun b => if b = 15 + 4 * (σ.1 10).toNatClampNeg ∨ b = 18 + 4 * (σ.1 10).toNatClampNeg then σ.2 4 else if b = 16 + 4 * (σ.1 10).toNatClampNeg ∨ b = 17 + 4 * (σ.1 10).toNatClampNeg then (fun _ => 0) else σ.2 b)
def qN (q : Nat → Nat) (n h : Nat) (u : Nat → Nat) : Nat → Nat := fun i => if i < 22 + 5 * n then q i else if i = 22 + 5 * n then h else u (i - (23 + 5 * n))
theorem qN_lo {n h i : Nat} {u : Nat → Nat} (hi : i < 22 + 5 * n) : qN q n h u i = q i := if_pos hi
theorem qN_22 {n h i : Nat} {u : Nat → Nat} (hi : i < 22) : qN q n h u i = q i := if_pos (by omega)
theorem qN_h {n h : Nat} {u : Nat → Nat} : qN q n h u (22 + 5 * n) = h := by
  unfold qN
  rw [if_neg (by omega), if_pos rfl]
theorem qN_u {n h j : Nat} {u : Nat → Nat} : qN q n h u (23 + j + 5 * n) = u j := by
  unfold qN
  rw [if_neg (by omega), if_neg (by omega)]
  congr 1
  omega
abbrev five (G : GP) (h : Nat) (u : Nat → Nat) (f : Nat → Int32) : va_W := [(h, .inr (3, [.ref (u 2), .ref (u 0), .ref (u 1), .ref (u 3)])), (u 0, .inl (G.2.1, 6, .inl (fun _ => 0))), (u 1, .inl (G.2.1, 6, .inl (fun _ => 0))), (u 2, .inl (G.2.1, 6, .inl f)), (u 3, .inl (G.2.1, 6, .inl f))]
theorem nS_lo {b : Nat} (h : b < 15 + 4 * (σ.1 10).toNatClampNeg) : (nS σ).2 b = σ.2 b := by
  show (if _ then _ else if _ then _ else _) = _
  rw [if_neg (by omega), if_neg (by omega)]
theorem xC_build {a h : Nat} {u : Nat → Nat} (ha : a < (σ.1 10).toNatClampNeg) : xC G (qN q (σ.1 10).toNatClampNeg h u) (nS σ) a = xC G q σ a := by
  unfold xC
  rw [qN_lo (by omega), qN_lo (by omega), qN_lo (by omega), qN_lo (by omega), qN_lo (by omega), nS_lo (by omega), nS_lo (by omega), nS_lo (by omega), nS_lo (by omega)]
theorem xC_new {h : Nat} {u : Nat → Nat} : xC G (qN q (σ.1 10).toNatClampNeg h u) (nS σ) (σ.1 10).toNatClampNeg = five G h u (σ.2 4) := by
  have e15 : (nS σ).2 (15 + 4 * (σ.1 10).toNatClampNeg) = σ.2 4 := by
    show (if _ then _ else if _ then _ else _) = _
    rw [if_pos (Or.inl rfl)]
  have e18 : (nS σ).2 (18 + 4 * (σ.1 10).toNatClampNeg) = σ.2 4 := by
    show (if _ then _ else if _ then _ else _) = _
    rw [if_pos (Or.inr rfl)]
  have e16 : (nS σ).2 (16 + 4 * (σ.1 10).toNatClampNeg) = (fun _ => 0) := by
    show (if _ then _ else if _ then _ else _) = _
    rw [if_neg (by omega), if_pos (Or.inl rfl)]
  have e17 : (nS σ).2 (17 + 4 * (σ.1 10).toNatClampNeg) = (fun _ => 0) := by
    show (if _ then _ else if _ then _ else _) = _
    rw [if_neg (by omega), if_pos (Or.inr rfl)]
  have u0 : qN q (σ.1 10).toNatClampNeg h u (23 + 5 * (σ.1 10).toNatClampNeg) = u 0 := qN_u (j := 0)
  have u1 : qN q (σ.1 10).toNatClampNeg h u (24 + 5 * (σ.1 10).toNatClampNeg) = u 1 := qN_u (j := 1)
  have u2 : qN q (σ.1 10).toNatClampNeg h u (25 + 5 * (σ.1 10).toNatClampNeg) = u 2 := qN_u (j := 2)
  have u3 : qN q (σ.1 10).toNatClampNeg h u (26 + 5 * (σ.1 10).toNatClampNeg) = u 3 := qN_u (j := 3)
  unfold xC
  rw [qN_h, u0, u1, u2, u3, e15, e16, e17, e18]
theorem xS_build {n h : Nat} {u : Nat → Nat} (hn : n ≤ (σ.1 10).toNatClampNeg) : xS G (qN q (σ.1 10).toNatClampNeg h u) (nS σ) n = xS G q σ n := by
  induction n with
  | zero => rfl
  | succ n ih => rw [xS_succ, xS_succ, ih (by omega), xC_build (by omega)]
set_option maxHeartbeats 4000000 in
theorem xW_build {h i : Nat} {u : Nat → Nat} (hi : i = (σ.1 10).toNatClampNeg) (hn : (σ.1 10 + 1).toNatClampNeg = (σ.1 10).toNatClampNeg + 1) :
    (((xW G q σ ++ five G h u (σ.2 4)).set 21 (q 21, .inl (G.2.2.2.1, 10, .inr (.inr (.inr (.inr (va_up (fun k => if k < (σ.1 10).toNatClampNeg then some (q (22 + 5 * k)) else none) i (some h)))))))).set 4 (q 4, .inr (0, [.ref (q 3), .ref (q 21), .ref (q 15), .ref (q 16), .int (σ.1 10 + 1), .int (σ.1 11)]))) = xW G (qN q (σ.1 10).toNatClampNeg h u) (nS σ) := by
  subst hi
  have e1 : xW G (qN q (σ.1 10).toNatClampNeg h u) (nS σ) = xF G (qN q (σ.1 10).toNatClampNeg h u) (nS σ) ++ (xS G q σ (σ.1 10).toNatClampNeg ++ five G h u (σ.2 4)) := by
    show _ ++ xS G _ (nS σ) (σ.1 10 + 1).toNatClampNeg = _
    rw [hn, xS_succ, xS_build (Nat.le_refl _), xC_new]
  rw [e1]
  have e2 : xF G (qN q (σ.1 10).toNatClampNeg h u) (nS σ) = ((xF G q σ).set 21 (q 21, .inl (G.2.2.2.1, 10, .inr (.inr (.inr (.inr (va_up (fun k => if k < (σ.1 10).toNatClampNeg then some (q (22 + 5 * k)) else none) (σ.1 10).toNatClampNeg (some h)))))))).set 4 (q 4, .inr (0, [.ref (q 3), .ref (q 21), .ref (q 15), .ref (q 16), .int (σ.1 10 + 1), .int (σ.1 11)])) := by
    have er : (fun k => if k < ((nS σ).1 10).toNatClampNeg then some (qN q (σ.1 10).toNatClampNeg h u (22 + 5 * k)) else none) = va_up (fun k => if k < (σ.1 10).toNatClampNeg then some (q (22 + 5 * k)) else none) (σ.1 10).toNatClampNeg (some h) := by
      funext k
      show (if k < (σ.1 10 + 1).toNatClampNeg then _ else none) = (if k = (σ.1 10).toNatClampNeg then some h else if k < (σ.1 10).toNatClampNeg then some (q (22 + 5 * k)) else none)
      rw [hn]
      by_cases h1 : k = (σ.1 10).toNatClampNeg
      · rw [if_pos (by omega), if_pos h1, h1, qN_h]
      · rw [if_neg h1]
        by_cases h2 : k < (σ.1 10).toNatClampNeg
        · rw [if_pos (by omega), if_pos h2, qN_lo (by omega)]
        · rw [if_neg (by omega), if_neg h2]
    unfold xF
    rw [er]
    rw [qN_22 (i := 0) (by omega), qN_22 (i := 1) (by omega), qN_22 (i := 2) (by omega), qN_22 (i := 3) (by omega), qN_22 (i := 4) (by omega), qN_22 (i := 5) (by omega), qN_22 (i := 6) (by omega), qN_22 (i := 7) (by omega), qN_22 (i := 8) (by omega), qN_22 (i := 9) (by omega), qN_22 (i := 10) (by omega), qN_22 (i := 11) (by omega), qN_22 (i := 12) (by omega), qN_22 (i := 13) (by omega), qN_22 (i := 14) (by omega), qN_22 (i := 15) (by omega), qN_22 (i := 16) (by omega), qN_22 (i := 17) (by omega), qN_22 (i := 18) (by omega), qN_22 (i := 19) (by omega), qN_22 (i := 20) (by omega), qN_22 (i := 21) (by omega)]
    rw [nS_lo (b := 0) (by omega), nS_lo (b := 1) (by omega), nS_lo (b := 2) (by omega), nS_lo (b := 3) (by omega), nS_lo (b := 4) (by omega), nS_lo (b := 5) (by omega), nS_lo (b := 6) (by omega), nS_lo (b := 7) (by omega), nS_lo (b := 8) (by omega), nS_lo (b := 9) (by omega), nS_lo (b := 10) (by omega), nS_lo (b := 11) (by omega), nS_lo (b := 12) (by omega), nS_lo (b := 13) (by omega), nS_lo (b := 14) (by omega)]
    rfl
  rw [e2]
  unfold xW
  rw [List.append_assoc, stl (by show 21 < 22; decide), stl (by rw [List.length_set]; show 4 < 22; decide)]
def fX0_build (N : Nat) (σ : St) : Option (Int32 × St) :=
  (if σ.1 10 < 10 then gi (σ.1 10) 10 (some ((σ.1 10 + 1) - 1, nS (oP σ))) else some (-2, σ))
def fX6_set (N : Nat) (σ : St) : Option (Int32 × St) := bd2 (fX0_build N σ) (fun r σ' => some (r, σ'))
/-- the contract of a call that may make a set -/
def CIN (G : GP) (l : Launch) (y : MethodName) (cc : ByteArray) (nL : Nat) (ret : Option FieldType) (d mc ms : Nat) (av : List Value) (q : Nat → Nat) (σ σ' : St) (r : Int32) : Prop :=
  ∀ sz, Met l y (Cond.code y cc nL ret :: TB) (rmC d mc ms) (va_Pc av (gPre G sz (xW G q σ))) (va_Qi (fun (r' : Int32) (_ : {u : Nat → Nat // ∀ i : Nat, i < 22 → u i = q i}) => r' = r) (fun u t => gB G (va_A (xW G q σ) sz) (xW G u.1 σ') t) (va_A (xW G q σ) sz)) mc ms (va_A (xW G q σ) sz)
abbrev QIN (G : GP) (below : List Frame) (args : Array Value) (s : State) (A : Nat → Prop) (mc ms : Nat) (q : Nat → Nat) (σ' : St) (r : Int32) : State → Prop := MQ below (va_Qi (fun (r' : Int32) (_ : {u : Nat → Nat // ∀ i : Nat, i < 22 → u i = q i}) => r' = r) (fun u t => gB G A (xW G u.1 σ') t) A) args s mc ms A
theorem enterIN {r : Int32} (hy : plainName y.cls = true) (ho : y.cls = own) (hav : (lg_sl av).length ≤ nL)
    (body : ∀ p e s m args below meth c A, Cx G p s m args meth c cc nL ret (Cond.code y cc nL ret) own A → va_P G.1 vwCl (xW G q σ) s.heap → va_D A (xW G q σ) → va_S A s.heap s.heap [] → ∀ ls, lv_has ls nL (lv_args 0 av) → W p l e (rmC d mc ms) s m args below meth c s.heap [] 0 0 (QIN G below args s A mc ms q σ' r) (F0 m 0 ls [])) : CIN G l y cc nL ret d mc ms av q σ σ' r := by
  intro sz
  refine Met.ofW (cc := cc) (maxL := nL) (ret := ret) hy rfl ?_
  intro p e s m args below meth c s₁ B hml hv
  obtain ⟨rfl, hsz, hP, hK, hD0, hZ⟩ := hv
  subst hsz
  rw [lg_entry_eq]
  exact body p e s m _ below meth c _ ⟨B.exec, B.bytes, hml, by rw [← ho]; exact findClass_of_methodNamed B.named, atoms_spec (ws := Cond.code y cc nL ret :: TB) B.pre, hK, hZ, fun q h => Or.inr h, B.notSynchronized, B.returns⟩ hP hD0.self va_S.rf _ (lv_entry av hav)
theorem retIN {r : Int32} (u : Nat → Nat) (hu : ∀ i : Nat, i < 22 → u i = q i) (C : Cx G p s m args meth c cc nL (some .int) k own A) (hP : va_P G.1 vwCl (xW G u σ') H) (hD : va_D A (xW G u σ')) (hS : va_S A s.heap H locs) (hdg : decode cc pc = .ok (.ireturn, 1)) : W p l e R s m args below meth c H locs cells slots (QIN G below args s A cells slots q σ' r) (F0 m pc ls [.int r]) :=
  W.iret C.1 C.2.1 C.2.2.2.2.2.2.2.2.2 (fun t ht _ => ⟨⟨r, ⟨u, hu⟩, rfl, rfl, gB_mk hP hD ht⟩, hS.F ht⟩) hS.2.2 hdg C.2.2.2.2.2.2.2.2.1
set_option maxHeartbeats 4000000 in
set_option maxRecDepth 100000 in
theorem ctX0_build {G : GP} {l : Launch} {q : Nat → Nat} (N : Nat) (σ σ' : St) (r : Int32) (h : fX0_build N σ = some (r, σ')) : CIN G l yX0_build cX0_build 1 (some .int) 4 5 28 [.ref (q 4)] q σ σ' r := by
  refine enterIN (own := RX0) (by decide) rfl (Nat.le_of_ble_eq_true rfl) ?_
  intro p e s m args below meth c A C hP hD hS ls hl
  obtain ⟨hx, hb, hml, hown, hts, hK, hZ, hA, hlk, hr⟩ := id C
  have hl : lv_has ls 1 [(0, .ref (q 4))] := hl
  have hK : va_K G.1 vwCl (tyG G) s := hK
  rw [fX0_build.eq_1] at h
  refine lv_aload_n hx hb dX0_build_0 rfl (lv_at hl 0 rfl) ?_
  refine gf_RX0_24 C hP dX0_build_1 ?_
  refine lv_bipush (v := 10) hx hb dX0_build_4 (by decide) ?_
  refine lv_icmp_lt (tgt := 12) hx hb dX0_build_6 (by decide) (fun c1 => ?_) (fun c1 => ?_)
  · replace h := ifp c1 h
    obtain ⟨hi, h⟩ := gi_some h
    obtain ⟨rfl, rfl⟩ := so2 h
    obtain ⟨j, hj, ej⟩ := vp_in_of hi (by decide)
    have hn : ((oP σ).1 10 + 1).toNatClampNeg = ((oP σ).1 10).toNatClampNeg + 1 := by
      show (σ.1 10 + 1).toNatClampNeg = (σ.1 10).toNatClampNeg + 1
      rw [ej, nI_1, nI_clamp (by omega), nI_clamp (by omega)]
    refine lv_aload_n hx hb dX0_build_12 rfl (lv_at hl 0 rfl) ?_
    refine gf_RX0_11 C hP dX0_build_13 ?_
    refine lv_aload_n hx hb dX0_build_16 rfl (lv_at hl 0 rfl) ?_
    refine gf_RX0_24 C hP dX0_build_17 ?_
    refine va_new (D := G.1) (ci := 3) (fs := [.null, .null, .null, .null]) (C := RX3) (T := TX3) (N := 4) hx hb hts (inB inX3) tyX3 tyX3_ok hown (hts _ (List.mem_cons_of_mem _ (tbT 110 (by decide +kernel) rfl : Cond.classLink RX0 9 RX3 ∈ TB))) (hts _ (List.mem_cons_of_mem _ (tbT 441 (by decide +kernel) rfl : Cond.instantiable RX3 4 ∈ TB))) (hts _ (List.mem_cons_of_mem _ mi_RX3)) hK hP hD hS hA rfl (fun j hj => by rcases (show j = 0 ∨ j = 1 ∨ j = 2 ∨ j = 3 by omega) with rfl | rfl | rfl | rfl <;> rfl) (Nat.le_of_ble_eq_true rfl) (Nat.le_of_ble_eq_true rfl) dX0_build_20 (fun q5 H hP hD hS => ?_)
    refine W.widen (k := 1) (n := 4) (Nat.le_of_ble_eq_true rfl) (Nat.le_of_ble_eq_true rfl) ?_
    refine lv_dup hx hb dX0_build_23 rfl ?_
    refine lv_aload_n hx hb dX0_build_24 rfl (lv_at hl 0 rfl) ?_
    refine gf_RX0_31 C (pfP hP) dX0_build_25 ?_
    refine goQf (w := xW G q σ) (w' := xW G q (oP σ)) C hP hD hS (runVg (As := []) (rest := [.ref q5, .ref q5, .int (σ.1 10), .ref (q 21)]) (w := xW G q σ) C lc_RX0_35 (ctX5_ownParts N σ (oP σ) (oP_eq N σ) _) (pfP hP) (pfD hD) hS (va_recv hK (pfP hP) (ci := 5) (q0 := 3) rfl rfl) hl.1 rfl rfl rfl rfl ⟨Nat.le_of_ble_eq_true rfl, Nat.le_of_ble_eq_true rfl⟩ (Nat.le_of_ble_eq_true rfl) dX0_build_28 ⟨Nat.le_of_ble_eq_true rfl, Nat.le_of_ble_eq_true rfl⟩) (fun H locs hP hD hS => ?_)
    refine lv_cvv (y := .ref (q 10)) rfl ?_
    refine goNw (w := xW G q (oP σ) ++ [(q5, .inr (3, [.null, .null, .null, .null]))]) C hD hS (runI (d := 4) (MC := 5) (MS := 28) (As := [.ref (q 10)]) (rest := [.ref q5, .int (σ.1 10), .ref (q 21)]) (w := xW G q (oP σ) ++ [(q5, .inr (3, [.null, .null, .null, .null]))]) C (⟨tbT 445 (by decide +kernel) rfl, tbT 443 (by decide +kernel) rfl, tbT 444 (by decide +kernel) rfl, mi_RX3, rfl, ⟨by decide +kernel, by decide +kernel, by decide +kernel⟩⟩ : lkI RX0 41 yX3_init cX3_init 2 1) (cn_set (xW G q (oP σ)) q5 (q 10) 10 ((oP σ).2 4) rfl _) hP hD hS hl.1 rfl rfl (by decide) (by decide) (Nat.le_of_ble_eq_true rfl) dX0_build_31 ⟨Nat.le_of_ble_eq_true rfl, Nat.le_of_ble_eq_true rfl⟩) (fun u H locs hP hD hS => ?_)
    refine W.widen (k := 5) (n := 28) (Nat.le_of_ble_eq_true rfl) (Nat.le_of_ble_eq_true rfl) ?_
    have hP : va_P G.1 vwCl (xW G q (oP σ) ++ five G q5 u ((oP σ).2 4)) H := hP
    have hD : va_D A (xW G q (oP σ) ++ five G q5 u ((oP σ).2 4)) := hD
    refine va_astq (r := (RX3, TX3, 4)) hx hb hK hP hD hS 21 2 ((xW G q (oP σ)).length + 0) 3 (ixl rfl) rfl (ixr.trans rfl) rfl hi dX0_build_34 (fun H locs hP hD hS => ?_)
    refine lv_aload_n hx hb dX0_build_35 rfl (lv_at hl 0 rfl) ?_
    refine lv_dup hx hb dX0_build_36 rfl ?_
    refine va_get (D := G.1) (ci := 0) (v := .int ((oP σ).1 10)) (C := RX0) (T := TX0) (N := 6) hx hb hts (inB inX0) hown hK hP 4 rfl rfl 4 (by decide) (hts _ (List.mem_cons_of_mem _ lk_RX0_24)) (fun _ h9 => h9) rfl dX0_build_37 ?_
    refine lv_iconst (v := 1) hx hb dX0_build_40 (by decide) ?_
    refine lv_iadd hx hb dX0_build_41 ?_
    refine va_put (D := G.1) (ci := 0) (v := .int ((oP σ).1 10 + 1)) (ty := .int) (C := RX0) (T := TX0) (N := 6) hx hb hts (inB inX0) tyX0 tyX0_ok nmX0 hown hK hP hD hS 4 rfl rfl 4 (by decide) (hts _ (List.mem_cons_of_mem _ lk_RX0_24)) (fun _ h9 => h9) rfl (by decide +kernel) rfl rfl (Nat.le_of_ble_eq_true rfl) dX0_build_42 (fun H locs hP hD hS => ?_)
    have hP : va_P G.1 vwCl (xW G (qN q ((oP σ).1 10).toNatClampNeg q5 u) (nS (oP σ))) H := by
      rw [← xW_build (σ := oP σ) (i := (σ.1 10).toNatClampNeg) rfl hn]
      exact hP
    have hD : va_D A (xW G (qN q ((oP σ).1 10).toNatClampNeg q5 u) (nS (oP σ))) := by
      rw [← xW_build (σ := oP σ) (i := (σ.1 10).toNatClampNeg) rfl hn]
      exact hD
    refine lv_aload_n hx hb dX0_build_45 rfl (lv_at hl 0 rfl) ?_
    refine lv_cvv (y := .ref (qN q ((oP σ).1 10).toNatClampNeg q5 u 4)) (by rw [qN_22 (by decide)]) ?_
    refine gf_RX0_24 C hP dX0_build_46 ?_
    refine lv_iconst (v := 1) hx hb dX0_build_49 (by decide) ?_
    refine lv_isub hx hb dX0_build_50 ?_
    exact retIN (q := q) (qN q ((oP σ).1 10).toNatClampNeg q5 u) (fun i hi => qN_22 hi) C hP hD hS dX0_build_51
  · replace h := ifn c1 h
    refine lv_bipush (v := -2) hx hb dX0_build_9 (by decide) ?_
    obtain ⟨rfl, rfl⟩ := so2 h
    refine W.widen (k := 5) (n := 28) (Nat.zero_le _) (Nat.zero_le _) ?_
    exact retIN (q := q) q (fun _ _ => rfl) C hP hD hS dX0_build_11
set_option maxHeartbeats 4000000 in
set_option maxRecDepth 100000 in
theorem ctX6_set {G : GP} {l : Launch} {q : Nat → Nat} (N : Nat) (σ σ' : St) (r : Int32) (h : fX6_set N σ = some (r, σ')) : CIN G l yX6_set cX6_set 1 (some .int) 5 5 28 [.ref (q 0)] q σ σ' r := by
  refine enterIN (own := RX6) (by decide) rfl (Nat.le_of_ble_eq_true rfl) ?_
  intro p e s m args below meth c A C hP hD hS ls hl
  obtain ⟨hx, hb, hml, hown, hts, hK, hZ, hA, hlk, hr⟩ := id C
  have hl : lv_has ls 1 [(0, .ref (q 0))] := hl
  rw [fX6_set.eq_1] at h
  obtain ⟨r1, σ1, h1, h⟩ := bd2_some h
  obtain ⟨rfl, rfl⟩ := so2 h
  refine lv_aload_n hx hb dX6_set_0 rfl (lv_at hl 0 rfl) ?_
  refine gf_RX6_30 C hP dX6_set_1 ?_
  have hF := fr_sub hD hS hA
  refine va_calli (runVg (As := []) (rest := []) (w := xW G q σ) C lc_RX6_121 (ctX0_build N σ σ1 r1 h1 _) hP hD hS (va_recv hK hP (ci := 0) (q0 := 4) rfl rfl) hl.1 rfl rfl rfl rfl ⟨Nat.le_of_ble_eq_true rfl, Nat.le_of_ble_eq_true rfl⟩ (Nat.le_of_ble_eq_true rfl) dX6_set_4 ⟨Nat.le_of_ble_eq_true rfl, Nat.le_of_ble_eq_true rfl⟩) hS (fun q _ h => hF q h) hF (fun r' u t H1 locs1 ht _ hw hB _ _ hS1 => ?_)
  subst hw
  obtain ⟨b1, b2⟩ := hB
  rw [ht] at b1
  refine W.widen (k := 5) (n := 28) (Nat.le_of_ble_eq_true rfl) (Nat.le_of_ble_eq_true rfl) ?_
  exact retIN (q := q) u.1 u.2 C b1 (b2.weaken (fun _ _ _ h => hF _ h)) hS1 dX6_set_7
end
