/-! the sets of the class: their cells in its world -/
section
variable {G : GP} {p : Program} {l : Launch} {e : Env} {R : Room} {s : State} {m : MethodId} {args : Array Value} {below : List Frame} {meth : Method} {c : Code} {H : Heap} {locs : List Loc} {cells slots : Nat} {Q : State → Prop} {cc : ByteArray} {nL : Nat} {ret : Option FieldType} {k : Cond} {own : String} {A : Nat → Prop} {pc : Nat} {ls : Array Slot} {rest : List Value} {q : Nat → Nat} {σ : St}

theorem lv_cv {x y : Int32} (h : x = y) (kk : W p l e R s m args below meth c H locs cells slots Q (F0 m pc ls (.int y :: rest))) : W p l e R s m args below meth c H locs cells slots Q (F0 m pc ls (.int x :: rest)) := by
  rw [h]
  exact kk
theorem xS_succ {n : Nat} : xS G q σ (n + 1) = xS G q σ n ++ xC G q σ n := by
  unfold xS
  rw [List.range_succ, List.flatMap_append]
  simp
theorem xS_len {n : Nat} : (xS G q σ n).length = 5 * n := by
  induction n with
  | zero => rfl
  | succ n ih =>
    rw [xS_succ, List.length_append, ih]
    show 5 * n + 5 = _
    omega
theorem xS_at {n a b : Nat} (ha : a < n) (hb : b < 5) : (xS G q σ n)[5 * a + b]? = (xC G q σ a)[b]? := by
  induction n with
  | zero => omega
  | succ n ih =>
    rw [xS_succ]
    by_cases h : a < n
    · rw [List.getElem?_append_left (by rw [xS_len]; omega)]
      exact ih h
    · have e : a = n := by omega
      subst e
      rw [List.getElem?_append_right (by rw [xS_len]; omega), xS_len]
      congr 1
      omega
theorem xW_at {a b : Nat} (ha : a < (σ.1 10).toNatClampNeg) (hb : b < 5) : (xW G q σ)[22 + 5 * a + b]? = (xC G q σ a)[b]? := by
  unfold xW
  rw [List.getElem?_append_right (by show 22 ≤ _; omega)]
  show (xS G q σ _)[22 + 5 * a + b - 22]? = _
  rw [show 22 + 5 * a + b - 22 = 5 * a + b by omega]
  exact xS_at ha hb
theorem xS_same {σ' : St} {n : Nat} (h : ∀ a : Nat, a < n → xC G q σ' a = xC G q σ a) : xS G q σ' n = xS G q σ n := by
  induction n with
  | zero => rfl
  | succ n ih => rw [xS_succ, xS_succ, ih (fun a ha => h a (by omega)), h n (by omega)]
theorem xS_set {σ' : St} {n a b : Nat} {cell : Nat × va_E} (ha : a < n) (hb : b < 5) (h : ∀ x : Nat, x ≠ a → xC G q σ' x = xC G q σ x) (hs : (xC G q σ a).set b cell = xC G q σ' a) : (xS G q σ n).set (5 * a + b) cell = xS G q σ' n := by
  induction n with
  | zero => omega
  | succ n ih =>
    rw [xS_succ, xS_succ]
    by_cases hc : a < n
    · rw [List.set_append_left _ _ (by rw [xS_len]; omega), ih hc, h n (by omega)]
    · have e : a = n := by omega
      subst e
      rw [List.set_append_right _ _ (by rw [xS_len]; omega), xS_len, show 5 * a + b - 5 * a = b by omega, hs, xS_same (σ := σ) (fun x hx => h x (by omega))]
theorem sA_ne {a j b : Nat} {v : Int32} (h : b ≠ a) : (sA σ a j v).2 b = σ.2 b := by
  show (if b = a then _ else σ.2 b) = σ.2 b
  exact if_neg h
theorem sA_eq {a j : Nat} {v : Int32} : (sA σ a j v).2 a = upd (σ.2 a) j v := by
  show (if a = a then _ else σ.2 a) = _
  exact if_pos rfl
theorem xF_hi {a j : Nat} {v : Int32} (h : 15 ≤ a) : xF G q (sA σ a j v) = xF G q σ := by
  unfold xF
  rw [sA_ne (σ := σ) (b := 0) (by omega), sA_ne (σ := σ) (b := 1) (by omega), sA_ne (σ := σ) (b := 2) (by omega), sA_ne (σ := σ) (b := 3) (by omega), sA_ne (σ := σ) (b := 4) (by omega), sA_ne (σ := σ) (b := 5) (by omega), sA_ne (σ := σ) (b := 6) (by omega), sA_ne (σ := σ) (b := 7) (by omega), sA_ne (σ := σ) (b := 8) (by omega), sA_ne (σ := σ) (b := 9) (by omega), sA_ne (σ := σ) (b := 10) (by omega), sA_ne (σ := σ) (b := 11) (by omega), sA_ne (σ := σ) (b := 12) (by omega), sA_ne (σ := σ) (b := 13) (by omega), sA_ne (σ := σ) (b := 14) (by omega)]
  rfl
def gk {α : Type} (k : Nat) (σ : St) (x : Option α) : Option α := if k < (σ.1 10).toNatClampNeg then x else none
theorem gk_some {α : Type} {k : Nat} {x : Option α} {y : α} (h : gk k σ x = some y) : k < (σ.1 10).toNatClampNeg ∧ x = some y := by
  unfold gk at h
  by_cases hc : k < (σ.1 10).toNatClampNeg
  · rw [if_pos hc] at h; exact ⟨hc, h⟩
  · rw [if_neg hc] at h; cases h
def mo {β : Type} (x : Option Nat) (a : β) (g : Nat → β) : β := match x with
  | none => a
  | some k => g k
theorem mo_n {β : Type} {a x : β} {g : Nat → β} (h : mo none a g = x) : a = x := h
theorem mo_s {β : Type} {a x : β} {g : Nat → β} {k : Nat} (h : mo (some k) a g = x) : g k = x := h
def sAd (q : Nat → Nat) (r : Option Nat) : Option Nat := r.map (fun k => q (22 + 5 * k))
theorem lv_cvv {x y : Value} (h : x = y) (kk : W p l e R s m args below meth c H locs cells slots Q (F0 m pc ls (y :: rest))) : W p l e R s m args below meth c H locs cells slots Q (F0 m pc ls (x :: rest)) := by
  rw [h]
  exact kk

theorem xS2_0 {a i : Nat} {v : Int32} (ha : a < (σ.1 10).toNatClampNeg) : (xW G q σ).set (22 + 5 * a + 3) (q (25 + 5 * a), .inl (G.2.1, 6, .inl (upd (σ.2 (15 + 4 * a)) i v))) = xW G q (sA σ (15 + 4 * a) i v) := by
  unfold xW
  rw [List.set_append_right _ _ (by show 22 ≤ _; omega), xF_hi (by omega)]
  congr 1
  show (xS G q σ _).set (22 + 5 * a + 3 - 22) _ = _
  rw [show 22 + 5 * a + 3 - 22 = 5 * a + 3 by omega]
  refine xS_set ha (by decide) (fun x hx => ?_) ?_
  · unfold xC
    rw [sA_ne (by omega), sA_ne (by omega), sA_ne (by omega), sA_ne (by omega)]
  · unfold xC
    rw [sA_ne (a := 15 + 4 * a) (b := 16 + 4 * a) (by omega), sA_ne (a := 15 + 4 * a) (b := 17 + 4 * a) (by omega), sA_eq, sA_ne (a := 15 + 4 * a) (b := 18 + 4 * a) (by omega)]
    rfl
theorem lk_RX3_23 : Cond.fieldLink RX3 23 RX3 "built" "[I" ∈ TB := tbT 454 (by decide +kernel) rfl
theorem gs_RX3_23 {a : Nat} (C : Cx G p s m args meth c cc nL ret k RX3 A) (ha : a < (σ.1 10).toNatClampNeg) (hP : va_P G.1 vwCl (xW G q σ) H) (hdg : decode cc pc = .ok (.getfield 23, 3)) (kk : W p l e R s m args below meth c H locs cells slots Q (F0 m (pc + 3) ls (.ref (q (25 + 5 * a)) :: rest))) : W p l e R s m args below meth c H locs cells slots Q (F0 m pc ls (.ref (q (22 + 5 * a)) :: rest)) :=
  va_get (D := G.1) (ci := 3) (v := .ref (q (25 + 5 * a))) (C := RX3) (T := TX3) (N := 4) C.1 C.2.1 C.2.2.2.2.1 (inB inX3) C.2.2.2.1 C.2.2.2.2.2.1 hP (22 + 5 * a + 0) ((xW_at ha (by decide)).trans rfl) rfl 0 (by decide) (C.2.2.2.2.1 _ (List.mem_cons_of_mem _ lk_RX3_23)) (fun _ h9 => h9) rfl hdg kk
theorem ldS_0 {a : Nat} {i : Int32} (C : Cx G p s m args meth c cc nL ret k own A) (ha : a < (σ.1 10).toNatClampNeg) (hP : va_P G.1 vwCl (xW G q σ) H) (hin : vp_in i 6) (hdg : decode cc pc = .ok (.iaload, 1)) (kk : W p l e R s m args below meth c H locs cells slots Q (F0 m (pc + 1) ls (.int (σ.2 (15 + 4 * a) i.toNatClampNeg) :: rest))) : W p l e R s m args below meth c H locs cells slots Q (F0 m pc ls (.int i :: .ref (q (25 + 5 * a)) :: rest)) :=
  va_iald C.1 C.2.1 C.2.2.2.2.2.1 hP (22 + 5 * a + 3) 0 ((xW_at ha (by decide)).trans rfl) rfl hin hdg kk
theorem stS_0 {a : Nat} {i v : Int32} (C : Cx G p s m args meth c cc nL ret k own A) (ha : a < (σ.1 10).toNatClampNeg) (hP : va_P G.1 vwCl (xW G q σ) H) (hD : va_D A (xW G q σ)) (hS : va_S A s.heap H locs) (hin : vp_in i 6) (hdg : decode cc pc = .ok (.iastore, 1)) (kk : ∀ (H1 : Heap) (locs1 : List Loc), va_P G.1 vwCl (xW G q (sA σ (15 + 4 * a) i.toNatClampNeg v)) H1 → va_D A (xW G q (sA σ (15 + 4 * a) i.toNatClampNeg v)) → va_S A s.heap H1 locs1 → W p l e R s m args below meth c H1 locs1 cells slots Q (F0 m (pc + 1) ls rest)) : W p l e R s m args below meth c H locs cells slots Q (F0 m pc ls (.int v :: .int i :: .ref (q (25 + 5 * a)) :: rest)) :=
  va_iast C.1 C.2.1 C.2.2.2.2.2.1 hP hD hS (22 + 5 * a + 3) 0 ((xW_at ha (by decide)).trans rfl) rfl hin hdg (fun H1 locs1 hP1 hD1 hS1 => kk H1 locs1 ((xS2_0 ha) ▸ hP1) ((xS2_0 ha) ▸ hD1) hS1)
theorem xS2_1 {a i : Nat} {v : Int32} (ha : a < (σ.1 10).toNatClampNeg) : (xW G q σ).set (22 + 5 * a + 1) (q (23 + 5 * a), .inl (G.2.1, 6, .inl (upd (σ.2 (16 + 4 * a)) i v))) = xW G q (sA σ (16 + 4 * a) i v) := by
  unfold xW
  rw [List.set_append_right _ _ (by show 22 ≤ _; omega), xF_hi (by omega)]
  congr 1
  show (xS G q σ _).set (22 + 5 * a + 1 - 22) _ = _
  rw [show 22 + 5 * a + 1 - 22 = 5 * a + 1 by omega]
  refine xS_set ha (by decide) (fun x hx => ?_) ?_
  · unfold xC
    rw [sA_ne (by omega), sA_ne (by omega), sA_ne (by omega), sA_ne (by omega)]
  · unfold xC
    rw [sA_eq, sA_ne (a := 16 + 4 * a) (b := 17 + 4 * a) (by omega), sA_ne (a := 16 + 4 * a) (b := 15 + 4 * a) (by omega), sA_ne (a := 16 + 4 * a) (b := 18 + 4 * a) (by omega)]
    rfl
theorem lk_RX3_9 : Cond.fieldLink RX3 9 RX3 "offset" "[I" ∈ TB := tbT 455 (by decide +kernel) rfl
theorem gs_RX3_9 {a : Nat} (C : Cx G p s m args meth c cc nL ret k RX3 A) (ha : a < (σ.1 10).toNatClampNeg) (hP : va_P G.1 vwCl (xW G q σ) H) (hdg : decode cc pc = .ok (.getfield 9, 3)) (kk : W p l e R s m args below meth c H locs cells slots Q (F0 m (pc + 3) ls (.ref (q (23 + 5 * a)) :: rest))) : W p l e R s m args below meth c H locs cells slots Q (F0 m pc ls (.ref (q (22 + 5 * a)) :: rest)) :=
  va_get (D := G.1) (ci := 3) (v := .ref (q (23 + 5 * a))) (C := RX3) (T := TX3) (N := 4) C.1 C.2.1 C.2.2.2.2.1 (inB inX3) C.2.2.2.1 C.2.2.2.2.2.1 hP (22 + 5 * a + 0) ((xW_at ha (by decide)).trans rfl) rfl 1 (by decide) (C.2.2.2.2.1 _ (List.mem_cons_of_mem _ lk_RX3_9)) (fun _ h9 => h9) rfl hdg kk
theorem ldS_1 {a : Nat} {i : Int32} (C : Cx G p s m args meth c cc nL ret k own A) (ha : a < (σ.1 10).toNatClampNeg) (hP : va_P G.1 vwCl (xW G q σ) H) (hin : vp_in i 6) (hdg : decode cc pc = .ok (.iaload, 1)) (kk : W p l e R s m args below meth c H locs cells slots Q (F0 m (pc + 1) ls (.int (σ.2 (16 + 4 * a) i.toNatClampNeg) :: rest))) : W p l e R s m args below meth c H locs cells slots Q (F0 m pc ls (.int i :: .ref (q (23 + 5 * a)) :: rest)) :=
  va_iald C.1 C.2.1 C.2.2.2.2.2.1 hP (22 + 5 * a + 1) 0 ((xW_at ha (by decide)).trans rfl) rfl hin hdg kk
theorem stS_1 {a : Nat} {i v : Int32} (C : Cx G p s m args meth c cc nL ret k own A) (ha : a < (σ.1 10).toNatClampNeg) (hP : va_P G.1 vwCl (xW G q σ) H) (hD : va_D A (xW G q σ)) (hS : va_S A s.heap H locs) (hin : vp_in i 6) (hdg : decode cc pc = .ok (.iastore, 1)) (kk : ∀ (H1 : Heap) (locs1 : List Loc), va_P G.1 vwCl (xW G q (sA σ (16 + 4 * a) i.toNatClampNeg v)) H1 → va_D A (xW G q (sA σ (16 + 4 * a) i.toNatClampNeg v)) → va_S A s.heap H1 locs1 → W p l e R s m args below meth c H1 locs1 cells slots Q (F0 m (pc + 1) ls rest)) : W p l e R s m args below meth c H locs cells slots Q (F0 m pc ls (.int v :: .int i :: .ref (q (23 + 5 * a)) :: rest)) :=
  va_iast C.1 C.2.1 C.2.2.2.2.2.1 hP hD hS (22 + 5 * a + 1) 0 ((xW_at ha (by decide)).trans rfl) rfl hin hdg (fun H1 locs1 hP1 hD1 hS1 => kk H1 locs1 ((xS2_1 ha) ▸ hP1) ((xS2_1 ha) ▸ hD1) hS1)
theorem xS2_2 {a i : Nat} {v : Int32} (ha : a < (σ.1 10).toNatClampNeg) : (xW G q σ).set (22 + 5 * a + 2) (q (24 + 5 * a), .inl (G.2.1, 6, .inl (upd (σ.2 (17 + 4 * a)) i v))) = xW G q (sA σ (17 + 4 * a) i v) := by
  unfold xW
  rw [List.set_append_right _ _ (by show 22 ≤ _; omega), xF_hi (by omega)]
  congr 1
  show (xS G q σ _).set (22 + 5 * a + 2 - 22) _ = _
  rw [show 22 + 5 * a + 2 - 22 = 5 * a + 2 by omega]
  refine xS_set ha (by decide) (fun x hx => ?_) ?_
  · unfold xC
    rw [sA_ne (by omega), sA_ne (by omega), sA_ne (by omega), sA_ne (by omega)]
  · unfold xC
    rw [sA_ne (a := 17 + 4 * a) (b := 16 + 4 * a) (by omega), sA_eq, sA_ne (a := 17 + 4 * a) (b := 15 + 4 * a) (by omega), sA_ne (a := 17 + 4 * a) (b := 18 + 4 * a) (by omega)]
    rfl
theorem lk_RX3_15 : Cond.fieldLink RX3 15 RX3 "turned" "[I" ∈ TB := tbT 456 (by decide +kernel) rfl
theorem gs_RX3_15 {a : Nat} (C : Cx G p s m args meth c cc nL ret k RX3 A) (ha : a < (σ.1 10).toNatClampNeg) (hP : va_P G.1 vwCl (xW G q σ) H) (hdg : decode cc pc = .ok (.getfield 15, 3)) (kk : W p l e R s m args below meth c H locs cells slots Q (F0 m (pc + 3) ls (.ref (q (24 + 5 * a)) :: rest))) : W p l e R s m args below meth c H locs cells slots Q (F0 m pc ls (.ref (q (22 + 5 * a)) :: rest)) :=
  va_get (D := G.1) (ci := 3) (v := .ref (q (24 + 5 * a))) (C := RX3) (T := TX3) (N := 4) C.1 C.2.1 C.2.2.2.2.1 (inB inX3) C.2.2.2.1 C.2.2.2.2.2.1 hP (22 + 5 * a + 0) ((xW_at ha (by decide)).trans rfl) rfl 2 (by decide) (C.2.2.2.2.1 _ (List.mem_cons_of_mem _ lk_RX3_15)) (fun _ h9 => h9) rfl hdg kk
theorem ldS_2 {a : Nat} {i : Int32} (C : Cx G p s m args meth c cc nL ret k own A) (ha : a < (σ.1 10).toNatClampNeg) (hP : va_P G.1 vwCl (xW G q σ) H) (hin : vp_in i 6) (hdg : decode cc pc = .ok (.iaload, 1)) (kk : W p l e R s m args below meth c H locs cells slots Q (F0 m (pc + 1) ls (.int (σ.2 (17 + 4 * a) i.toNatClampNeg) :: rest))) : W p l e R s m args below meth c H locs cells slots Q (F0 m pc ls (.int i :: .ref (q (24 + 5 * a)) :: rest)) :=
  va_iald C.1 C.2.1 C.2.2.2.2.2.1 hP (22 + 5 * a + 2) 0 ((xW_at ha (by decide)).trans rfl) rfl hin hdg kk
theorem stS_2 {a : Nat} {i v : Int32} (C : Cx G p s m args meth c cc nL ret k own A) (ha : a < (σ.1 10).toNatClampNeg) (hP : va_P G.1 vwCl (xW G q σ) H) (hD : va_D A (xW G q σ)) (hS : va_S A s.heap H locs) (hin : vp_in i 6) (hdg : decode cc pc = .ok (.iastore, 1)) (kk : ∀ (H1 : Heap) (locs1 : List Loc), va_P G.1 vwCl (xW G q (sA σ (17 + 4 * a) i.toNatClampNeg v)) H1 → va_D A (xW G q (sA σ (17 + 4 * a) i.toNatClampNeg v)) → va_S A s.heap H1 locs1 → W p l e R s m args below meth c H1 locs1 cells slots Q (F0 m (pc + 1) ls rest)) : W p l e R s m args below meth c H locs cells slots Q (F0 m pc ls (.int v :: .int i :: .ref (q (24 + 5 * a)) :: rest)) :=
  va_iast C.1 C.2.1 C.2.2.2.2.2.1 hP hD hS (22 + 5 * a + 2) 0 ((xW_at ha (by decide)).trans rfl) rfl hin hdg (fun H1 locs1 hP1 hD1 hS1 => kk H1 locs1 ((xS2_2 ha) ▸ hP1) ((xS2_2 ha) ▸ hD1) hS1)
theorem xS2_3 {a i : Nat} {v : Int32} (ha : a < (σ.1 10).toNatClampNeg) : (xW G q σ).set (22 + 5 * a + 4) (q (26 + 5 * a), .inl (G.2.1, 6, .inl (upd (σ.2 (18 + 4 * a)) i v))) = xW G q (sA σ (18 + 4 * a) i v) := by
  unfold xW
  rw [List.set_append_right _ _ (by show 22 ≤ _; omega), xF_hi (by omega)]
  congr 1
  show (xS G q σ _).set (22 + 5 * a + 4 - 22) _ = _
  rw [show 22 + 5 * a + 4 - 22 = 5 * a + 4 by omega]
  refine xS_set ha (by decide) (fun x hx => ?_) ?_
  · unfold xC
    rw [sA_ne (by omega), sA_ne (by omega), sA_ne (by omega), sA_ne (by omega)]
  · unfold xC
    rw [sA_ne (a := 18 + 4 * a) (b := 16 + 4 * a) (by omega), sA_ne (a := 18 + 4 * a) (b := 17 + 4 * a) (by omega), sA_ne (a := 18 + 4 * a) (b := 15 + 4 * a) (by omega), sA_eq]
    rfl
theorem lk_RX3_26 : Cond.fieldLink RX3 26 RX3 "now" "[I" ∈ TB := tbT 457 (by decide +kernel) rfl
theorem gs_RX3_26 {a : Nat} (C : Cx G p s m args meth c cc nL ret k RX3 A) (ha : a < (σ.1 10).toNatClampNeg) (hP : va_P G.1 vwCl (xW G q σ) H) (hdg : decode cc pc = .ok (.getfield 26, 3)) (kk : W p l e R s m args below meth c H locs cells slots Q (F0 m (pc + 3) ls (.ref (q (26 + 5 * a)) :: rest))) : W p l e R s m args below meth c H locs cells slots Q (F0 m pc ls (.ref (q (22 + 5 * a)) :: rest)) :=
  va_get (D := G.1) (ci := 3) (v := .ref (q (26 + 5 * a))) (C := RX3) (T := TX3) (N := 4) C.1 C.2.1 C.2.2.2.2.1 (inB inX3) C.2.2.2.1 C.2.2.2.2.2.1 hP (22 + 5 * a + 0) ((xW_at ha (by decide)).trans rfl) rfl 3 (by decide) (C.2.2.2.2.1 _ (List.mem_cons_of_mem _ lk_RX3_26)) (fun _ h9 => h9) rfl hdg kk
theorem ldS_3 {a : Nat} {i : Int32} (C : Cx G p s m args meth c cc nL ret k own A) (ha : a < (σ.1 10).toNatClampNeg) (hP : va_P G.1 vwCl (xW G q σ) H) (hin : vp_in i 6) (hdg : decode cc pc = .ok (.iaload, 1)) (kk : W p l e R s m args below meth c H locs cells slots Q (F0 m (pc + 1) ls (.int (σ.2 (18 + 4 * a) i.toNatClampNeg) :: rest))) : W p l e R s m args below meth c H locs cells slots Q (F0 m pc ls (.int i :: .ref (q (26 + 5 * a)) :: rest)) :=
  va_iald C.1 C.2.1 C.2.2.2.2.2.1 hP (22 + 5 * a + 4) 0 ((xW_at ha (by decide)).trans rfl) rfl hin hdg kk
theorem stS_3 {a : Nat} {i v : Int32} (C : Cx G p s m args meth c cc nL ret k own A) (ha : a < (σ.1 10).toNatClampNeg) (hP : va_P G.1 vwCl (xW G q σ) H) (hD : va_D A (xW G q σ)) (hS : va_S A s.heap H locs) (hin : vp_in i 6) (hdg : decode cc pc = .ok (.iastore, 1)) (kk : ∀ (H1 : Heap) (locs1 : List Loc), va_P G.1 vwCl (xW G q (sA σ (18 + 4 * a) i.toNatClampNeg v)) H1 → va_D A (xW G q (sA σ (18 + 4 * a) i.toNatClampNeg v)) → va_S A s.heap H1 locs1 → W p l e R s m args below meth c H1 locs1 cells slots Q (F0 m (pc + 1) ls rest)) : W p l e R s m args below meth c H locs cells slots Q (F0 m pc ls (.int v :: .int i :: .ref (q (26 + 5 * a)) :: rest)) :=
  va_iast C.1 C.2.1 C.2.2.2.2.2.1 hP hD hS (22 + 5 * a + 4) 0 ((xW_at ha (by decide)).trans rfl) rfl hin hdg (fun H1 locs1 hP1 hD1 hS1 => kk H1 locs1 ((xS2_3 ha) ▸ hP1) ((xS2_3 ha) ▸ hD1) hS1)
theorem rcS {a : Nat} (C : Cx G p s m args meth c cc nL ret k own A) (ha : a < (σ.1 10).toNatClampNeg) (hP : va_P G.1 vwCl (xW G q σ) H) : ∃ cell : Cell, H[q (22 + 5 * a)]? = some cell ∧ cell.vm.isStatics = false ∧ s.vm.findClass RX3 = some cell.cls :=
  va_recv C.2.2.2.2.2.1 hP (ci := 3) (q0 := 22 + 5 * a + 0) rfl ((xW_at ha (by decide)).trans rfl)
/-! a row of six parts: the tracking's own, or what a set has now -/
def gAd (g : Option Nat) : Nat := match g with
  | none => 10
  | some a => 26 + 5 * a
def gAi (g : Option Nat) : Nat := match g with
  | none => 4
  | some a => 18 + 4 * a
def gg {α : Type} (g : Option Nat) (σ : St) (x : Option α) : Option α := match g with
  | none => x
  | some a => gk a σ x
def gOk (g : Option Nat) (σ : St) : Prop := ∀ a : Nat, g = some a → a < (σ.1 10).toNatClampNeg
theorem gg_some {α : Type} {g : Option Nat} {x : Option α} {y : α} (h : gg g σ x = some y) : gOk g σ ∧ x = some y := by
  cases g with
  | none => exact ⟨fun a e => (by cases e), h⟩
  | some a => exact ⟨fun b e => (by cases e; exact (gk_some h).1), (gk_some h).2⟩
theorem ldG {g : Option Nat} {i : Int32} (C : Cx G p s m args meth c cc nL ret k own A) (ha : gOk g σ) (hP : va_P G.1 vwCl (xW G q σ) H) (hin : vp_in i 6) (hdg : decode cc pc = .ok (.iaload, 1)) (kk : W p l e R s m args below meth c H locs cells slots Q (F0 m (pc + 1) ls (.int (σ.2 (gAi g) i.toNatClampNeg) :: rest))) : W p l e R s m args below meth c H locs cells slots Q (F0 m pc ls (.int i :: .ref (q (gAd g)) :: rest)) := by
  cases g with
  | none => exact ldX_4 C hP hin hdg kk
  | some a => exact ldS_3 C (ha a rfl) hP hin hdg kk
end
