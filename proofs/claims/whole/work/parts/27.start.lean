section
set_option maxHeartbeats 4000000 in
set_option maxRecDepth 100000 in
theorem start_of {p : Program} {e : Env} {s : State} {m : MethodId} {below : List Frame} {meth : Method} {c : Code} (l : Launch) {b L : Nat} {xs : Nat → Int32} {N : Nat} {Rl : St → St → Prop} (hs0 : StepOk N Rl) (hR0 : Rl xI mI) (hL : L ≤ 2048) (C0 : lw_At p s m meth c b L xs) : W p l e room_1 s m #[Value.ref b] below meth c s.heap [] 0 0 (lw_Z below #[Value.ref b] s) (entryFrame m ([Value.ref b] : List Value).toArray 4) := by
  obtain ⟨G, C⟩ := law_G C0
  obtain ⟨-, -, -, -, -, -, hX, hbl, -, -⟩ := C0
  obtain ⟨hx, hb, hml, hown, hts, hK, hZ, hA, hlk, hr⟩ := id C
  have hK : va_K G.1 vwCl (tyG G) s := hK
  have hS : va_S (fun q : Nat => s.heap.size ≤ q) s.heap s.heap [] := va_S.rf
  have hP : va_P G.1 vwCl [] s.heap := fun k q h => by simp at h
  have hD : va_D (fun q : Nat => s.heap.size ≤ q) [] := ⟨fun i j p q h => by simp at h, fun k q h => by simp at h⟩
  have hl := lv_entry ([.ref b]) (n := 4) (Nat.le_of_ble_eq_true rfl)
  rw [lg_entry_eq]
  generalize (lg_sl ([.ref b]) ++ List.replicate (4 - (lg_sl ([.ref b])).length) Slot.unset).toArray = ls at hl ⊢
  have hl : lv_has ls 4 [(0, .ref b)] := hl
  refine va_new (D := G.1) (ci := 6) (fs := [.null, .null, .null, .null]) (C := RX6) (T := TX6) (N := 4) hx hb hts (inB inX6) tyX6 tyX6_ok hown (hts _ (List.mem_cons_of_mem _ (tbT 11 (by decide +kernel) rfl : Cond.classLink RL 7 RX6 ∈ TB))) (hts _ (List.mem_cons_of_mem _ (tbT 12 (by decide +kernel) rfl : Cond.instantiable RX6 4 ∈ TB))) (hts _ (List.mem_cons_of_mem _ mi_RX6)) hK hP hD hS hA rfl (fun j hj => by rcases (show j = 0 ∨ j = 1 ∨ j = 2 ∨ j = 3 by omega) with rfl | rfl | rfl | rfl <;> rfl) (Nat.le_of_ble_eq_true rfl) (Nat.le_of_ble_eq_true rfl) dL_law_0 (fun h0 H hP hD hS => ?_)
  have hP : va_P G.1 vwCl [(h0, .inr (6, [.null, .null, .null, .null]))] H := hP
  have hD : va_D (fun q : Nat => s.heap.size ≤ q) [(h0, .inr (6, [.null, .null, .null, .null]))] := hD
  refine lv_dup hx hb dL_law_3 rfl ?_
  refine goNw (w := [(h0, .inr (6, [.null, .null, .null, .null]))]) C hD hS (va_runI (As := []) (rest := [.ref h0]) ⟨C.1, C.2.1, C.2.2.1, C.2.2.2.1, C.2.2.2.2.1⟩ (cn_room h0 _) ⟨callB_of 0 C.2.2.2.2.1 (gd_tb (tbT 15 (by decide +kernel) rfl)) rfl rfl rfl (C.2.2.2.2.1 _ (List.mem_cons_of_mem _ mi_RX6)) (C.2.2.2.2.1 _ (List.mem_cons_of_mem _ (tbT 13 (by decide +kernel) rfl : Cond.methodLink RL 9 yX6_init ∈ TB))) ⟨by decide +kernel, by decide +kernel, by decide +kernel⟩ ⟨Nat.le_of_ble_eq_true rfl, Nat.le_of_ble_eq_true rfl⟩, rfl, C.2.2.2.2.1 _ (List.mem_cons_of_mem _ (tbT 14 (by decide +kernel) rfl))⟩ ⟨gPre.blind, pre_of C hP hD hS⟩ rfl rfl hl.1 rfl (lv_room (Nat.le_of_ble_eq_true rfl)) dL_law_4 ⟨Nat.le_of_ble_eq_true rfl, Nat.le_of_ble_eq_true rfl⟩) (fun u H locs hP hD hS => ?_)
  refine lv_astore_n (lv' := [(1, .ref h0), (0, .ref b)]) hx hb dL_law_7 rfl hl (by decide) rfl (fun ls hl => ?_)
  refine va_new (D := G.1) (ci := 7) (fs := [.null, .null, .int 0, .int 0, .int 0, .int 0, .int 0, .int 0, .int 0, .null, .null, .int 0, .null, .null, .null, .int 0, .null, .null, .int 0, .null, .null, .null, .int 0, .int 0, .int 0, .null, .null, .int 0, .int 0, .int 0, .int 0]) (C := RX7) (T := TX7) (N := 31) hx hb hts (inB inX7) tyX7 tyX7_ok hown (hts _ (List.mem_cons_of_mem _ (tbT 686 (by decide +kernel) rfl : Cond.classLink RL 10 RX7 ∈ TB))) (hts _ (List.mem_cons_of_mem _ (tbT 687 (by decide +kernel) rfl : Cond.instantiable RX7 31 ∈ TB))) (hts _ (List.mem_cons_of_mem _ mi_RX7)) hK hP hD hS hA rfl (fun j hj => by rcases (show j = 0 ∨ j = 1 ∨ j = 2 ∨ j = 3 ∨ j = 4 ∨ j = 5 ∨ j = 6 ∨ j = 7 ∨ j = 8 ∨ j = 9 ∨ j = 10 ∨ j = 11 ∨ j = 12 ∨ j = 13 ∨ j = 14 ∨ j = 15 ∨ j = 16 ∨ j = 17 ∨ j = 18 ∨ j = 19 ∨ j = 20 ∨ j = 21 ∨ j = 22 ∨ j = 23 ∨ j = 24 ∨ j = 25 ∨ j = 26 ∨ j = 27 ∨ j = 28 ∨ j = 29 ∨ j = 30 by omega) with rfl | rfl | rfl | rfl | rfl | rfl | rfl | rfl | rfl | rfl | rfl | rfl | rfl | rfl | rfl | rfl | rfl | rfl | rfl | rfl | rfl | rfl | rfl | rfl | rfl | rfl | rfl | rfl | rfl | rfl | rfl <;> rfl) (Nat.le_of_ble_eq_true rfl) (Nat.le_of_ble_eq_true rfl) dL_law_8 (fun h1 H hP hD hS => ?_)
  refine lv_dup hx hb dL_law_11 rfl ?_
  have hPs := swP hP
  have hDs := swD hD
  have hF := frL hDs hS hA
  refine va_callv (va_runI (As := []) (rest := [.ref h1]) ⟨C.1, C.2.1, C.2.2.1, C.2.2.2.1, C.2.2.2.2.1⟩ (cn_model h1 _) ⟨callB_of 0 C.2.2.2.2.1 (gd_tb (tbT 690 (by decide +kernel) rfl)) rfl rfl rfl (C.2.2.2.2.1 _ (List.mem_cons_of_mem _ mi_RX7)) (C.2.2.2.2.1 _ (List.mem_cons_of_mem _ (tbT 688 (by decide +kernel) rfl : Cond.methodLink RL 12 yX7_init ∈ TB))) ⟨by decide +kernel, by decide +kernel, by decide +kernel⟩ ⟨Nat.le_of_ble_eq_true rfl, Nat.le_of_ble_eq_true rfl⟩, rfl, C.2.2.2.2.1 _ (List.mem_cons_of_mem _ (tbT 689 (by decide +kernel) rfl))⟩ ⟨gPre.blind, pre_of C (pfP hPs) (pfD hDs) hS⟩ rfl rfl hl.1 rfl (lv_room (Nat.le_of_ble_eq_true rfl)) dL_law_12 ⟨Nat.le_of_ble_eq_true rfl, Nat.le_of_ble_eq_true rfl⟩) hS (fun q _ h => hF q h) hF (fun u2 t H1 locs1 ht _ _ hB _ hk1 hS1 => ?_)
  obtain ⟨b1, b2⟩ := hB
  rw [ht] at b1
  obtain ⟨hP2, hD2⟩ := jnL hPs hDs hk1 hF b1 b2
  have hP2 := swP hP2
  have hD2 := swD hD2
  refine lv_astore_n (lv' := [(2, .ref h1), (1, .ref h0), (0, .ref b)]) hx hb dL_law_15 rfl hl (by decide) rfl (fun ls hl => ?_)
  refine lv_iconst (v := 0) hx hb dL_law_16 (by decide) ?_
  refine lv_istore_n (lv' := [(3, .int 0), (2, .ref h1), (1, .ref h0), (0, .ref b)]) hx hb dL_law_17 rfl hl (by decide) rfl (fun ls hl => ?_)
  refine W.widen (k := 100) (n := 20000) (Nat.le_of_ble_eq_true rfl) (Nat.le_of_ble_eq_true rfl) ?_
  exact law_loop hs0 hL C hX hbl (qh h1 u2) h0 514 0 0 (qh h0 u) xI mI 100 20000 _ _ ls (by omega) (by omega) nI_0.symm rfl rfl rfl hR0 hP2 hD2 hS1 (lv_sub hl [3, 2, 1, 0] rfl)
end
