/-! a set is made: RadioSet(int[]), Bench.build(), RadioRoom.set() -/
section
variable {G : GP} {p : Program} {l : Launch} {e : Env} {R : Room} {s : State} {m : MethodId} {args : Array Value} {below : List Frame} {meth : Method} {c : Code} {H H1 : Heap} {locs : List Loc} {cells slots : Nat} {Q : State → Prop} {cc : ByteArray} {nL : Nat} {ret : Option FieldType} {k : Cond} {own : String} {A : Nat → Prop} {pc : Nat} {ls : Array Slot} {rest : List Value}

set_option maxHeartbeats 4000000 in
set_option maxRecDepth 100000 in
theorem cn_set {G : GP} {l : Launch} (w : va_W) (h0 a pp : Nat) (f : Nat → Int32) (hp : w[pp]? = some (a, .inl (G.2.1, 6, .inl f))) : CN G l yX3_init cX3_init 2 1 4 24 [.ref h0, .ref a] (w ++ [(h0, .inr (3, [.null, .null, .null, .null]))]) (fun u : Nat → Nat => w ++ [(h0, .inr (3, [.ref (u 2), .ref (u 0), .ref (u 1), .ref (u 3)])), (u 0, .inl (G.2.1, 6, .inl (fun _ => 0))), (u 1, .inl (G.2.1, 6, .inl (fun _ => 0))), (u 2, .inl (G.2.1, 6, .inl f)), (u 3, .inl (G.2.1, 6, .inl f))]) := by
  refine enterN (own := RX3) (by decide) rfl rfl (Nat.le_of_ble_eq_true rfl) ?_
  intro p e s m args below meth c A C hin hP hD hS ls hl
  obtain ⟨hx, hb, hml, hown, hts, hK, hZ, hA, hlk, hr⟩ := id C
  have hl : lv_has ls 2 [(0, .ref h0), (1, .ref a)] := hl
  have hK : va_K G.1 vwCl (tyG G) s := hK
  refine lv_aload_n hx hb dX3_init_0 rfl (lv_at hl 0 rfl) ?_
  refine objI C (tbT 446 (by decide +kernel) rfl) hl.1 (Nat.le_of_ble_eq_true rfl) (Nat.le_of_ble_eq_true rfl) dX3_init_1 ?_
  refine lv_aload_n hx hb dX3_init_4 rfl (lv_at hl 0 rfl) ?_
  refine lv_bipush (v := 6) hx hb dX3_init_5 (by decide) ?_
  refine nwI (N' := 6) C hP hD hS (by decide) (by decide) (by decide) (Nat.le_of_ble_eq_true rfl) (Nat.le_of_ble_eq_true rfl) dX3_init_7 (fun q0 H hP hD hS => ?_)
  rw [List.append_assoc] at hP hD
  have hP : va_P G.1 vwCl (w ++ [(h0, .inr (3, [.null, .null, .null, .null])), (q0, .inl (G.2.1, 6, .inl (fun _ => 0)))]) H := hP
  have hD : va_D A (w ++ [(h0, .inr (3, [.null, .null, .null, .null])), (q0, .inl (G.2.1, 6, .inl (fun _ => 0)))]) := hD
  refine W.widen (k := 1) (n := 6) (Nat.le_of_ble_eq_true rfl) (Nat.le_of_ble_eq_true rfl) ?_
  refine va_putF (D := G.1) (ci := 3) (v := .ref q0) (ty := .array .int) (C := RX3) (T := TX3) (N := 4) hx hb hts (inB inX3) tyX3 tyX3_ok nmX3 hown hK hP hD hS (w.length + 0) (ixr.trans rfl) rfl 1 (by decide) (hts _ (List.mem_cons_of_mem _ lk_RX3_9)) (fun _ h9 => h9) rfl hin rfl (by decide +kernel) rfl rfl (Nat.le_of_ble_eq_true rfl) dX3_init_9 (fun H locs hP hD hS => ?_)
  rw [str] at hP hD
  have hP : va_P G.1 vwCl (w ++ [(h0, .inr (3, [.null, .ref q0, .null, .null])), (q0, .inl (G.2.1, 6, .inl (fun _ => 0)))]) H := hP
  have hD : va_D A (w ++ [(h0, .inr (3, [.null, .ref q0, .null, .null])), (q0, .inl (G.2.1, 6, .inl (fun _ => 0)))]) := hD
  refine lv_aload_n hx hb dX3_init_12 rfl (lv_at hl 0 rfl) ?_
  refine lv_bipush (v := 6) hx hb dX3_init_13 (by decide) ?_
  refine nwI (N' := 6) C hP hD hS (by decide) (by decide) (by decide) (Nat.le_of_ble_eq_true rfl) (Nat.le_of_ble_eq_true rfl) dX3_init_15 (fun q1 H hP hD hS => ?_)
  rw [List.append_assoc] at hP hD
  have hP : va_P G.1 vwCl (w ++ [(h0, .inr (3, [.null, .ref q0, .null, .null])), (q0, .inl (G.2.1, 6, .inl (fun _ => 0))), (q1, .inl (G.2.1, 6, .inl (fun _ => 0)))]) H := hP
  have hD : va_D A (w ++ [(h0, .inr (3, [.null, .ref q0, .null, .null])), (q0, .inl (G.2.1, 6, .inl (fun _ => 0))), (q1, .inl (G.2.1, 6, .inl (fun _ => 0)))]) := hD
  refine W.widen (k := 2) (n := 12) (Nat.le_of_ble_eq_true rfl) (Nat.le_of_ble_eq_true rfl) ?_
  refine va_putF (D := G.1) (ci := 3) (v := .ref q1) (ty := .array .int) (C := RX3) (T := TX3) (N := 4) hx hb hts (inB inX3) tyX3 tyX3_ok nmX3 hown hK hP hD hS (w.length + 0) (ixr.trans rfl) rfl 2 (by decide) (hts _ (List.mem_cons_of_mem _ lk_RX3_15)) (fun _ h9 => h9) rfl hin rfl (by decide +kernel) rfl rfl (Nat.le_of_ble_eq_true rfl) dX3_init_17 (fun H locs hP hD hS => ?_)
  rw [str] at hP hD
  have hP : va_P G.1 vwCl (w ++ [(h0, .inr (3, [.null, .ref q0, .ref q1, .null])), (q0, .inl (G.2.1, 6, .inl (fun _ => 0))), (q1, .inl (G.2.1, 6, .inl (fun _ => 0)))]) H := hP
  have hD : va_D A (w ++ [(h0, .inr (3, [.null, .ref q0, .ref q1, .null])), (q0, .inl (G.2.1, 6, .inl (fun _ => 0))), (q1, .inl (G.2.1, 6, .inl (fun _ => 0)))]) := hD
  refine lv_aload_n hx hb dX3_init_20 rfl (lv_at hl 0 rfl) ?_
  refine lv_aload_n hx hb dX3_init_21 rfl (lv_at hl 1 rfl) ?_
  refine va_clone hx hb (hml.trans hl.1.symm) hown (hts _ (List.mem_cons_of_mem _ (tbT 447 (by decide +kernel) rfl : Cond.methodLink RX3 18 ⟨"[I", "clone", "()Ljava/lang/Object;"⟩ ∈ TB))) (hts _ (List.mem_cons_of_mem _ (tbT 448 (by decide +kernel) rfl))) (hts _ (List.mem_cons_of_mem _ (tbT 449 (by decide +kernel) rfl))) (hts _ (List.mem_cons_of_mem _ (tbT 450 (by decide +kernel) rfl))) (hts _ (List.mem_cons_of_mem _ (tbT 451 (by decide +kernel) rfl))) hZ.2.2.2.1 hK hP hD hS hA pp 0 (ixl hp) rfl (nmI hK) fitI (Nat.le_of_ble_eq_true rfl) (Nat.le_of_ble_eq_true rfl) (Nat.le_of_ble_eq_true rfl) (Nat.le_of_ble_eq_true rfl) dX3_init_22 (fun q2 H _ hP hD hS => ?_)
  rw [List.append_assoc] at hP hD
  have hP : va_P G.1 vwCl (w ++ [(h0, .inr (3, [.null, .ref q0, .ref q1, .null])), (q0, .inl (G.2.1, 6, .inl (fun _ => 0))), (q1, .inl (G.2.1, 6, .inl (fun _ => 0))), (q2, .inl (G.2.1, 6, .inl f))]) H := hP
  have hD : va_D A (w ++ [(h0, .inr (3, [.null, .ref q0, .ref q1, .null])), (q0, .inl (G.2.1, 6, .inl (fun _ => 0))), (q1, .inl (G.2.1, 6, .inl (fun _ => 0))), (q2, .inl (G.2.1, 6, .inl f))]) := hD
  refine W.widen (k := 3) (n := 18) (Nat.le_of_ble_eq_true rfl) (Nat.le_of_ble_eq_true rfl) ?_
  refine va_castA hx hb hown (hts _ (List.mem_cons_of_mem _ (tbT 453 (by decide +kernel) rfl : Cond.classLink RX3 19 "[I" ∈ TB))) hP (w.length + 3) (ixr.trans rfl) (nmI hK) dX3_init_25 ?_
  refine va_putF (D := G.1) (ci := 3) (v := .ref q2) (ty := .array .int) (C := RX3) (T := TX3) (N := 4) hx hb hts (inB inX3) tyX3 tyX3_ok nmX3 hown hK hP hD hS (w.length + 0) (ixr.trans rfl) rfl 0 (by decide) (hts _ (List.mem_cons_of_mem _ lk_RX3_23)) (fun _ h9 => h9) rfl hin rfl (by decide +kernel) rfl rfl (Nat.le_of_ble_eq_true rfl) dX3_init_28 (fun H locs hP hD hS => ?_)
  rw [str] at hP hD
  have hP : va_P G.1 vwCl (w ++ [(h0, .inr (3, [.ref q2, .ref q0, .ref q1, .null])), (q0, .inl (G.2.1, 6, .inl (fun _ => 0))), (q1, .inl (G.2.1, 6, .inl (fun _ => 0))), (q2, .inl (G.2.1, 6, .inl f))]) H := hP
  have hD : va_D A (w ++ [(h0, .inr (3, [.ref q2, .ref q0, .ref q1, .null])), (q0, .inl (G.2.1, 6, .inl (fun _ => 0))), (q1, .inl (G.2.1, 6, .inl (fun _ => 0))), (q2, .inl (G.2.1, 6, .inl f))]) := hD
  refine lv_aload_n hx hb dX3_init_31 rfl (lv_at hl 0 rfl) ?_
  refine lv_aload_n hx hb dX3_init_32 rfl (lv_at hl 1 rfl) ?_
  refine va_clone hx hb (hml.trans hl.1.symm) hown (hts _ (List.mem_cons_of_mem _ (tbT 447 (by decide +kernel) rfl : Cond.methodLink RX3 18 ⟨"[I", "clone", "()Ljava/lang/Object;"⟩ ∈ TB))) (hts _ (List.mem_cons_of_mem _ (tbT 448 (by decide +kernel) rfl))) (hts _ (List.mem_cons_of_mem _ (tbT 449 (by decide +kernel) rfl))) (hts _ (List.mem_cons_of_mem _ (tbT 450 (by decide +kernel) rfl))) (hts _ (List.mem_cons_of_mem _ (tbT 451 (by decide +kernel) rfl))) hZ.2.2.2.1 hK hP hD hS hA pp 0 (ixl hp) rfl (nmI hK) fitI (Nat.le_of_ble_eq_true rfl) (Nat.le_of_ble_eq_true rfl) (Nat.le_of_ble_eq_true rfl) (Nat.le_of_ble_eq_true rfl) dX3_init_33 (fun q3 H _ hP hD hS => ?_)
  rw [List.append_assoc] at hP hD
  have hP : va_P G.1 vwCl (w ++ [(h0, .inr (3, [.ref q2, .ref q0, .ref q1, .null])), (q0, .inl (G.2.1, 6, .inl (fun _ => 0))), (q1, .inl (G.2.1, 6, .inl (fun _ => 0))), (q2, .inl (G.2.1, 6, .inl f)), (q3, .inl (G.2.1, 6, .inl f))]) H := hP
  have hD : va_D A (w ++ [(h0, .inr (3, [.ref q2, .ref q0, .ref q1, .null])), (q0, .inl (G.2.1, 6, .inl (fun _ => 0))), (q1, .inl (G.2.1, 6, .inl (fun _ => 0))), (q2, .inl (G.2.1, 6, .inl f)), (q3, .inl (G.2.1, 6, .inl f))]) := hD
  refine W.widen (k := 4) (n := 24) (Nat.le_of_ble_eq_true rfl) (Nat.le_of_ble_eq_true rfl) ?_
  refine va_castA hx hb hown (hts _ (List.mem_cons_of_mem _ (tbT 453 (by decide +kernel) rfl : Cond.classLink RX3 19 "[I" ∈ TB))) hP (w.length + 4) (ixr.trans rfl) (nmI hK) dX3_init_36 ?_
  refine va_putF (D := G.1) (ci := 3) (v := .ref q3) (ty := .array .int) (C := RX3) (T := TX3) (N := 4) hx hb hts (inB inX3) tyX3 tyX3_ok nmX3 hown hK hP hD hS (w.length + 0) (ixr.trans rfl) rfl 3 (by decide) (hts _ (List.mem_cons_of_mem _ lk_RX3_26)) (fun _ h9 => h9) rfl hin rfl (by decide +kernel) rfl rfl (Nat.le_of_ble_eq_true rfl) dX3_init_39 (fun H locs hP hD hS => ?_)
  rw [str] at hP hD
  have hP : va_P G.1 vwCl (w ++ [(h0, .inr (3, [.ref q2, .ref q0, .ref q1, .ref q3])), (q0, .inl (G.2.1, 6, .inl (fun _ => 0))), (q1, .inl (G.2.1, 6, .inl (fun _ => 0))), (q2, .inl (G.2.1, 6, .inl f)), (q3, .inl (G.2.1, 6, .inl f))]) H := hP
  have hD : va_D A (w ++ [(h0, .inr (3, [.ref q2, .ref q0, .ref q1, .ref q3])), (q0, .inl (G.2.1, 6, .inl (fun _ => 0))), (q1, .inl (G.2.1, 6, .inl (fun _ => 0))), (q2, .inl (G.2.1, 6, .inl f)), (q3, .inl (G.2.1, 6, .inl f))]) := hD
  exact retN (wS := fun u : Nat → Nat => w ++ [(h0, .inr (3, [.ref (u 2), .ref (u 0), .ref (u 1), .ref (u 3)])), (u 0, .inl (G.2.1, 6, .inl (fun _ => 0))), (u 1, .inl (G.2.1, 6, .inl (fun _ => 0))), (u 2, .inl (G.2.1, 6, .inl f)), (u 3, .inl (G.2.1, 6, .inl f))]) (fun i => ([q0, q1, q2, q3] : List Nat).getD i 0) C hP hD hS dX3_init_42
end
