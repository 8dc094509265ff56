def R_law : String := "RadioRoomLaw"
def lw_P (b : Addr) (xs : List Int32) (args : Array Value) (s : State) : Prop := args = #[.ref b] ∧ s.IntsAt b xs ∧ xs.length ≤ 2048 ∧ (Jvm.Cond.and given_1 narrow_1).before args s = true
def lw_Q (_ : Array Value) (s : State) (o : Outcome) (t : State) : Prop := o = .returned (some (.int 1)) ∧ Framed s o t [] 600000 7302250
def lw_Z (below : List Frame) (a : Array Value) (s : State) : State → Prop := fun t => ∃ o, t.status = .running ∧ Ended t below o ∧ lw_Q a s o t
/-- the law's own end, with 1 on the stack, nothing written that was there before, its room as the claim has it -/
theorem lw_ret {p : Program} {l : Launch} {e : Env} {s : State} {m : MethodId} {below : List Frame} {meth : Method} {c : Code} {b : Nat} (hx : p.tables.exec = Jvm.exec) (hb : c.code = code) (hr : meth.sig.returnType = ret) (hlocks : meth.locks = false) {pc : Nat} {H : Heap} {ls : Array Slot} (hdg : decode code pc = .ok (.ireturn, 1)) : W p l e room_1 s m #[Value.ref b] below meth c H [] 600000 7302250 (lw_Z below #[Value.ref b] s) (F0 m pc ls [.int 1]) := by
  intro T hT X
  obtain ⟨fs, hret, hrun, hended, hW, hframe⟩ := X.leave (v := some (.int 1)) (hlocks := hlocks) (fun h => by rw [hr] at h; cases h)
  have hmeth' : T.vm.method? m = some meth := X.method'
  refine ⟨T.setFrames fs, ?_, .returned (some (.int 1)), hrun, hended, rfl, ⟨_, rfl⟩, hW, hframe⟩
  jvm_step X.here [X.here.top, hx, hb, hdg, hmeth', hr, ret, narrow_b1]
  (try refine ⟨rfl, ?_⟩); (try refine ⟨rfl, ?_⟩)
  first | (intro acts; rw [hret _ acts rfl rfl rfl]) | rw [hret _ _ rfl rfl rfl]
  exact Steps.refl _
/-- what holds at the law's entry: the machine, the code, the tables' words (any of lw_tbl by 'hts w (by decide +kernel)'), the script of L ints xs at the cell b, what the Statement gives of the start (any of its parts by flat_of_before) -/
def lw_At (p : Program) (s : State) (m : MethodId) (meth : Method) (c : Code) (b L : Nat) (xs : Nat → Int32) : Prop :=
  p.tables.exec = Jvm.exec ∧ c.code = code ∧ meth.sig.returnType = ret ∧ c.maxLocals = 4 ∧ s.vm.findClass R_law = some m.cls ∧ (∀ w ∈ lw_tbl, w.before #[Value.ref b] s = true) ∧ va_X b L xs s s.heap ∧ b < s.heap.size ∧ meth.locks = false ∧ (Jvm.Cond.and given_1 narrow_1).before #[Value.ref b] s = true

set_option maxHeartbeats 4000000 in
set_option maxRecDepth 100000 in
theorem law_G {p : Program} {s : State} {m : MethodId} {meth : Method} {c : Code} {b L : Nat} {xs : Nat → Int32} (C0 : lw_At p s m meth c b L xs) : ∃ G : GP, Cx G p s m #[Value.ref b] meth c code 4 ret (Cond.arrayClass .int) RL (fun q : Nat => s.heap.size ≤ q) := by
  obtain ⟨hx, hb, hr, hml, hown, hts, hX, hbl, hlocks, hgv⟩ := C0
  have hts2 : ∀ w ∈ Cond.arrayClass .int :: TB, w.before #[Value.ref b] s = true := fun w hw => by
    rcases List.mem_cons.mp hw with h | h
    · rw [h]; exact hts _ (tb_tbl ac_I)
    · exact hts _ (tb_tbl h)
  obtain ⟨c0, iS0, hKn0⟩ := u_known (C := RX0) (T := TX0) (N := 6) (n := 6) hts (fun w h => tb_tbl (inX0 w h)) (hts _ (tb_tbl (tbT 105 (by decide +kernel) rfl : Cond.instantiable RX0 6 ∈ TB)))
  obtain ⟨c1, iS1, hKn1⟩ := u_known (C := RX1) (T := TX1) (N := 5) (n := 5) hts (fun w h => tb_tbl (inX1 w h)) (hts _ (tb_tbl (tbT 20 (by decide +kernel) rfl : Cond.instantiable RX1 5 ∈ TB)))
  obtain ⟨c2, iS2, hKn2⟩ := u_known (C := RX2) (T := TX2) (N := 7) (n := 7) hts (fun w h => tb_tbl (inX2 w h)) (hts _ (tb_tbl (tbT 132 (by decide +kernel) rfl : Cond.instantiable RX2 7 ∈ TB)))
  obtain ⟨c3, iS3, hKn3⟩ := u_known (C := RX3) (T := TX3) (N := 4) (n := 4) hts (fun w h => tb_tbl (inX3 w h)) (hts _ (tb_tbl (tbT 441 (by decide +kernel) rfl : Cond.instantiable RX3 4 ∈ TB)))
  obtain ⟨c4, iS4, hKn4⟩ := u_known (C := RX4) (T := TX4) (N := 6) (n := 6) hts (fun w h => tb_tbl (inX4 w h)) (hts _ (tb_tbl (tbT 26 (by decide +kernel) rfl : Cond.instantiable RX4 6 ∈ TB)))
  obtain ⟨c5, iS5, hKn5⟩ := u_known (C := RX5) (T := TX5) (N := 10) (n := 10) hts (fun w h => tb_tbl (inX5 w h)) (hts _ (tb_tbl (tbT 68 (by decide +kernel) rfl : Cond.instantiable RX5 10 ∈ TB)))
  obtain ⟨c6, iS6, hKn6⟩ := u_known (C := RX6) (T := TX6) (N := 4) (n := 4) hts (fun w h => tb_tbl (inX6 w h)) (hts _ (tb_tbl (tbT 12 (by decide +kernel) rfl : Cond.instantiable RX6 4 ∈ TB)))
  obtain ⟨c7, iS7, hKn7⟩ := u_known (C := RX7) (T := TX7) (N := 31) (n := 31) hts (fun w h => tb_tbl (inX7 w h)) (hts _ (tb_tbl (tbT 687 (by decide +kernel) rfl : Cond.instantiable RX7 31 ∈ TB)))
  obtain ⟨cI, kI, pI, aI1, aI2, aI3⟩ := Cond.arrayClass_spec (hts (.arrayClass .int) (tb_tbl ac_I))
  obtain ⟨cZ, kZ, pZ, aZ1, aZ2, aZ3⟩ := Cond.arrayClass_spec (hts (.arrayClass .boolean) (tb_tbl ac_Z))
  have hO : (Cond.arrayOver (.object RX3)).before #[Value.ref b] s = true := hts _ (List.mem_append_right _ (List.mem_of_getElem? (i := 111) (by decide +kernel)))
  obtain ⟨pO, cO, kO, aO1, aO2, aO3, aO4, aO5⟩ := Cond.arrayOver_spec hO
  have hs := flat_of_before _ hgv
  have hA : ∀ a : Nat, a < s.heap.size → ¬ (fun q : Nat => s.heap.size ≤ q) a := fun a h => Nat.not_le.mpr h
  obtain ⟨t0, ev0, hT0⟩ := va_Tof (tm := (Term.static RX6 "SETTING_LEAST" "[I")) (ty := .int) (N := 4) (f := fun j => .int (st0 j)) (A := fun q : Nat => s.heap.size ≤ q) (by decide) (hs _ (by decide +kernel)) (va_eqt (hs (Cond.eq (.length (Term.static RX6 "SETTING_LEAST" "[I")) (.int 4)) (by decide +kernel))) (fun j hj => by
    rcases (show j = 0 ∨ j = 1 ∨ j = 2 ∨ j = 3 by omega) with rfl | rfl | rfl | rfl
    · exact va_eqt (hs (Cond.eq (.elem (Term.static RX6 "SETTING_LEAST" "[I") (.int 0)) (.int 20)) (by decide +kernel))
    · exact va_eqt (hs (Cond.eq (.elem (Term.static RX6 "SETTING_LEAST" "[I") (.int 1)) (.int 0)) (by decide +kernel))
    · exact va_eqt (hs (Cond.eq (.elem (Term.static RX6 "SETTING_LEAST" "[I") (.int 2)) (.int 1)) (by decide +kernel))
    · exact va_eqt (hs (Cond.eq (.elem (Term.static RX6 "SETTING_LEAST" "[I") (.int 3)) (.int 0)) (by decide +kernel))) hA
  have hZ0 := va_Zof (A := fun q : Nat => s.heap.size ≤ q) (hts (.laysStatic RX6 "SETTING_LEAST" "[I") (List.mem_append_right _ (List.mem_of_getElem? (i := 192) (by decide +kernel)))) (hts _ (tb_tbl mi_RX6)) ev0 hA
  obtain ⟨t1, ev1, hT1⟩ := va_Tof (tm := (Term.static RX6 "SETTING_MOST" "[I")) (ty := .int) (N := 4) (f := fun j => .int (st1 j)) (A := fun q : Nat => s.heap.size ≤ q) (by decide) (hs _ (by decide +kernel)) (va_eqt (hs (Cond.eq (.length (Term.static RX6 "SETTING_MOST" "[I")) (.int 4)) (by decide +kernel))) (fun j hj => by
    rcases (show j = 0 ∨ j = 1 ∨ j = 2 ∨ j = 3 by omega) with rfl | rfl | rfl | rfl
    · exact va_eqt (hs (Cond.eq (.elem (Term.static RX6 "SETTING_MOST" "[I") (.int 0)) (.int 900)) (by decide +kernel))
    · exact va_eqt (hs (Cond.eq (.elem (Term.static RX6 "SETTING_MOST" "[I") (.int 1)) (.int 1)) (by decide +kernel))
    · exact va_eqt (hs (Cond.eq (.elem (Term.static RX6 "SETTING_MOST" "[I") (.int 2)) (.int 5)) (by decide +kernel))
    · exact va_eqt (hs (Cond.eq (.elem (Term.static RX6 "SETTING_MOST" "[I") (.int 3)) (.int 50)) (by decide +kernel))) hA
  have hZ1 := va_Zof (A := fun q : Nat => s.heap.size ≤ q) (hts (.laysStatic RX6 "SETTING_MOST" "[I") (List.mem_append_right _ (List.mem_of_getElem? (i := 194) (by decide +kernel)))) (hts _ (tb_tbl mi_RX6)) ev1 hA
  obtain ⟨t2, ev2, hT2⟩ := va_Tof (tm := (Term.static RX6 "PART_LEAST" "[I")) (ty := .int) (N := 6) (f := fun j => .int (st2 j)) (A := fun q : Nat => s.heap.size ≤ q) (by decide) (hs _ (by decide +kernel)) (va_eqt (hs (Cond.eq (.length (Term.static RX6 "PART_LEAST" "[I")) (.int 6)) (by decide +kernel))) (fun j hj => by
    rcases (show j = 0 ∨ j = 1 ∨ j = 2 ∨ j = 3 ∨ j = 4 ∨ j = 5 by omega) with rfl | rfl | rfl | rfl | rfl | rfl
    · exact va_eqt (hs (Cond.eq (.elem (Term.static RX6 "PART_LEAST" "[I") (.int 0)) (.int 0)) (by decide +kernel))
    · exact va_eqt (hs (Cond.eq (.elem (Term.static RX6 "PART_LEAST" "[I") (.int 1)) (.int 0)) (by decide +kernel))
    · exact va_eqt (hs (Cond.eq (.elem (Term.static RX6 "PART_LEAST" "[I") (.int 2)) (.int 1)) (by decide +kernel))
    · exact va_eqt (hs (Cond.eq (.elem (Term.static RX6 "PART_LEAST" "[I") (.int 3)) (.int 1)) (by decide +kernel))
    · exact va_eqt (hs (Cond.eq (.elem (Term.static RX6 "PART_LEAST" "[I") (.int 4)) (.int 1)) (by decide +kernel))
    · exact va_eqt (hs (Cond.eq (.elem (Term.static RX6 "PART_LEAST" "[I") (.int 5)) (.int 20)) (by decide +kernel))) hA
  have hZ2 := va_Zof (A := fun q : Nat => s.heap.size ≤ q) (hts (.laysStatic RX6 "PART_LEAST" "[I") (List.mem_append_right _ (List.mem_of_getElem? (i := 335) (by decide +kernel)))) (hts _ (tb_tbl mi_RX6)) ev2 hA
  obtain ⟨t3, ev3, hT3⟩ := va_Tof (tm := (Term.static RX6 "PART_MOST" "[I")) (ty := .int) (N := 6) (f := fun j => .int (st3 j)) (A := fun q : Nat => s.heap.size ≤ q) (by decide) (hs _ (by decide +kernel)) (va_eqt (hs (Cond.eq (.length (Term.static RX6 "PART_MOST" "[I")) (.int 6)) (by decide +kernel))) (fun j hj => by
    rcases (show j = 0 ∨ j = 1 ∨ j = 2 ∨ j = 3 ∨ j = 4 ∨ j = 5 by omega) with rfl | rfl | rfl | rfl | rfl | rfl
    · exact va_eqt (hs (Cond.eq (.elem (Term.static RX6 "PART_MOST" "[I") (.int 0)) (.int 99)) (by decide +kernel))
    · exact va_eqt (hs (Cond.eq (.elem (Term.static RX6 "PART_MOST" "[I") (.int 1)) (.int 99)) (by decide +kernel))
    · exact va_eqt (hs (Cond.eq (.elem (Term.static RX6 "PART_MOST" "[I") (.int 2)) (.int 9999)) (by decide +kernel))
    · exact va_eqt (hs (Cond.eq (.elem (Term.static RX6 "PART_MOST" "[I") (.int 3)) (.int 9999)) (by decide +kernel))
    · exact va_eqt (hs (Cond.eq (.elem (Term.static RX6 "PART_MOST" "[I") (.int 4)) (.int 9999)) (by decide +kernel))
    · exact va_eqt (hs (Cond.eq (.elem (Term.static RX6 "PART_MOST" "[I") (.int 5)) (.int 900)) (by decide +kernel))) hA
  have hZ3 := va_Zof (A := fun q : Nat => s.heap.size ≤ q) (hts (.laysStatic RX6 "PART_MOST" "[I") (List.mem_append_right _ (List.mem_of_getElem? (i := 337) (by decide +kernel)))) (hts _ (tb_tbl mi_RX6)) ev3 hA
  have hNf : gNf s := ⟨va_Nw.of rfl (hts (.fieldLinkNest RX1 36 RX6 "SETTING_LEAST" "[I" RX6) (List.mem_append_right _ (List.mem_of_getElem? (i := 191) (by decide +kernel)))), va_Nw.of rfl (hts (.fieldLinkNest RX1 39 RX6 "SETTING_MOST" "[I" RX6) (List.mem_append_right _ (List.mem_of_getElem? (i := 193) (by decide +kernel)))), va_Nw.of rfl (hts (.fieldLinkNest RX5 54 RX6 "PART_LEAST" "[I" RX6) (List.mem_append_right _ (List.mem_of_getElem? (i := 334) (by decide +kernel)))), va_Nw.of rfl (hts (.fieldLinkNest RX5 57 RX6 "PART_MOST" "[I" RX6) (List.mem_append_right _ (List.mem_of_getElem? (i := 336) (by decide +kernel)))), va_Nw.of rfl (hts (.fieldLinkNest RX3 33 RX6 "PART_LEAST" "[I" RX6) (List.mem_append_right _ (List.mem_of_getElem? (i := 492) (by decide +kernel)))), va_Nw.of rfl (hts (.fieldLinkNest RX3 36 RX6 "PART_MOST" "[I" RX6) (List.mem_append_right _ (List.mem_of_getElem? (i := 493) (by decide +kernel))))⟩
  have hNm : gNm s := ⟨va_Nw.of rfl (hts (.methodLinkNest RX6 11 yX1_init RX6) (List.mem_append_right _ (List.mem_of_getElem? (i := 21) (by decide +kernel)))), va_Nw.of rfl (hts (.methodLinkNest RX1 23 yX4_init RX6) (List.mem_append_right _ (List.mem_of_getElem? (i := 27) (by decide +kernel)))), va_Nw.of rfl (hts (.methodLinkNest RX1 32 yX6_within RX6) (List.mem_append_right _ (List.mem_of_getElem? (i := 180) (by decide +kernel)))), va_Nw.of rfl (hts (.methodLinkNest RX4 31 yX6_within RX6) (List.mem_append_right _ (List.mem_of_getElem? (i := 265) (by decide +kernel)))), va_Nw.of rfl (hts (.methodLinkNest RX5 50 yX6_within RX6) (List.mem_append_right _ (List.mem_of_getElem? (i := 325) (by decide +kernel)))), va_Nw.of rfl (hts (.methodLinkNest RX5 87 yX6_isPlace RX6) (List.mem_append_right _ (List.mem_of_getElem? (i := 387) (by decide +kernel)))), va_Nw.of rfl (hts (.methodLinkNest RX0 52 yX6_within RX6) (List.mem_append_right _ (List.mem_of_getElem? (i := 479) (by decide +kernel)))), va_Nw.of rfl (hts (.methodLinkNest RX2 34 yX6_within RX6) (List.mem_append_right _ (List.mem_of_getElem? (i := 569) (by decide +kernel))))⟩
  have hNx : gNx s := ⟨va_Nw.of rfl (hts (.castable "[I" "java/lang/Cloneable") (List.mem_append_right _ (List.mem_of_getElem? (i := 452) (by decide +kernel)))), va_AO.of hO⟩
  refine ⟨((fun k => match k with | 0 => c0 | 1 => c1 | 2 => c2 | 3 => c3 | 4 => c4 | 5 => c5 | 6 => c6 | _ => c7, fun k => match k with | 0 => iS0 | 1 => iS1 | 2 => iS2 | 3 => iS3 | 4 => iS4 | 5 => iS5 | 6 => iS6 | _ => iS7), cI, cZ, cO, fun k => match k with | 0 => t0 | 1 => t1 | 2 => t2 | _ => t3), hx, hb, hml, hown, hts2, ⟨?_, ?_⟩, ⟨⟨⟨hZ0, hT0⟩, ⟨hZ1, hT1⟩, ⟨hZ2, hT2⟩, ⟨hZ3, hT3⟩⟩, hNf, hNm, hNx⟩, fun _ h => h, hlocks, hr⟩
  · intro k q hq
    match k, hq with
    | 0, hq => cases hq; exact hKn0
    | 1, hq => cases hq; exact hKn1
    | 2, hq => cases hq; exact hKn2
    | 3, hq => cases hq; exact hKn3
    | 4, hq => cases hq; exact hKn4
    | 5, hq => cases hq; exact hKn5
    | 6, hq => cases hq; exact hKn6
    | 7, hq => cases hq; exact hKn7
    | k + 8, hq => simp [vwCl] at hq
  · intro k q hq
    match k, hq with
    | 0, hq => cases hq; exact ⟨fun n z => ⟨fun k h => (by cases h), kI, aI2, pI, aI3⟩, aI1⟩
    | 1, hq => cases hq; exact ⟨fun n z => ⟨fun k h => (by cases h), kZ, aZ2, pZ, aZ3⟩, aZ1⟩
    | 2, hq => cases hq; exact ⟨fun n z => ⟨fun k h => (by cases h), kO, aO3, pO, aO4⟩, kO, pO, aO3, aO4, aO1, aO5⟩
    | k + 3, hq => simp [tyG] at hq
