/-! The frame of all walks: one word list, one contract form, whole worlds. -/
section
def TB : List Cond := lw_tbl.filter goodWord
theorem tb_of {w : Cond} (h : w ∈ lw_tbl) (g : goodWord w = true) : w ∈ TB := List.mem_filter.mpr ⟨h, g⟩
theorem tb_good {w : Cond} (h : w ∈ TB) : goodWord w = true := (List.mem_filter.mp h).2
theorem tb_tbl {w : Cond} (h : w ∈ TB) : w ∈ lw_tbl := (List.mem_filter.mp h).1
theorem gd_tb {c0 k : Cond} (hk : k ∈ TB) : GoodIn (c0 :: TB) (k :: TB) := fun w hw => by
  have h1 : w ∈ TB := by
    rcases List.mem_cons.mp hw with h | h
    · rw [h]; exact hk
    · exact h
  exact ⟨List.mem_cons_of_mem _ h1, good_of_word (tb_good h1)⟩
theorem gd_lw {k : Cond} (hk : k ∈ TB) : GoodIn lw_tbl (k :: TB) := fun w hw => by
  have h1 : w ∈ TB := by
    rcases List.mem_cons.mp hw with h | h
    · rw [h]; exact hk
    · exact h
  exact ⟨tb_tbl h1, good_of_word (tb_good h1)⟩
abbrev GP : Type := va_G × ClassId × ClassId × ClassId × (Nat → Nat)
abbrev St : Type := (Nat → Int32) × (Nat → Nat → Int32)
def s1 (σ : St) (k : Nat) (v : Int32) : St := (upd σ.1 k v, σ.2)
def sA (σ : St) (a j : Nat) (v : Int32) : St := (σ.1, fun b => if b = a then upd (σ.2 a) j v else σ.2 b)
def tyG (G : GP) : List (ClassId × FieldType) := [(G.2.1, .int), (G.2.2.1, .boolean), (G.2.2.2.1, .object "RadioRoom$RadioSet")]
def gK (G : GP) (U : State) : Prop := va_K G.1 vwCl (tyG G) U
def st0 : Nat → Int32 := fun j => if j = 0 then 20 else if j = 1 then 0 else if j = 2 then 1 else 0
def st1 : Nat → Int32 := fun j => if j = 0 then 900 else if j = 1 then 1 else if j = 2 then 5 else 50
def st2 : Nat → Int32 := fun j => if j < 2 then 0 else if j < 5 then 1 else 20
def st3 : Nat → Int32 := fun j => if j < 2 then 99 else if j < 5 then 9999 else 900
def gZs (G : GP) (A : Nat → Prop) (U : State) (H : Heap) : Prop :=
  (va_Z RX6 "SETTING_LEAST" "[I" (.ref (G.2.2.2.2 0)) A U H ∧ va_T .int (G.2.2.2.2 0) 4 (fun j => .int (st0 j)) A U H) ∧
  (va_Z RX6 "SETTING_MOST" "[I" (.ref (G.2.2.2.2 1)) A U H ∧ va_T .int (G.2.2.2.2 1) 4 (fun j => .int (st1 j)) A U H) ∧
  (va_Z RX6 "PART_LEAST" "[I" (.ref (G.2.2.2.2 2)) A U H ∧ va_T .int (G.2.2.2.2 2) 6 (fun j => .int (st2 j)) A U H) ∧
  (va_Z RX6 "PART_MOST" "[I" (.ref (G.2.2.2.2 3)) A U H ∧ va_T .int (G.2.2.2.2 3) 6 (fun j => .int (st3 j)) A U H)
def gNf (U : State) : Prop :=
  va_Nw (.fieldLinkNest RX1 36 RX6 "SETTING_LEAST" "[I" RX6) U ∧ va_Nw (.fieldLinkNest RX1 39 RX6 "SETTING_MOST" "[I" RX6) U ∧
  va_Nw (.fieldLinkNest RX5 54 RX6 "PART_LEAST" "[I" RX6) U ∧ va_Nw (.fieldLinkNest RX5 57 RX6 "PART_MOST" "[I" RX6) U ∧
  va_Nw (.fieldLinkNest RX3 33 RX6 "PART_LEAST" "[I" RX6) U ∧ va_Nw (.fieldLinkNest RX3 36 RX6 "PART_MOST" "[I" RX6) U
def gNm (U : State) : Prop :=
  va_Nw (.methodLinkNest RX6 11 yX1_init RX6) U ∧ va_Nw (.methodLinkNest RX1 23 yX4_init RX6) U ∧
  va_Nw (.methodLinkNest RX1 32 yX6_within RX6) U ∧ va_Nw (.methodLinkNest RX4 31 yX6_within RX6) U ∧
  va_Nw (.methodLinkNest RX5 50 yX6_within RX6) U ∧ va_Nw (.methodLinkNest RX5 87 yX6_isPlace RX6) U ∧
  va_Nw (.methodLinkNest RX0 52 yX6_within RX6) U ∧ va_Nw (.methodLinkNest RX2 34 yX6_within RX6) U
def gNx (U : State) : Prop := va_Nw (.castable "[I" "java/lang/Cloneable") U ∧ va_AO RX3 U
theorem gNx.warm {s U : State} (hW : s.WarmedH U.vm) (h : gNx s) : gNx U := ⟨h.1.warmC hW, h.2.moved hW.alike⟩
theorem gNx.same {s U : State} (e : s.vm = U.vm) (h : gNx s) : gNx U := ⟨h.1.same rfl e, h.2.moved (e ▸ Vm.Alike.refl s.vm)⟩
def gZ (G : GP) (A : Nat → Prop) (U : State) (H : Heap) : Prop := gZs G A U H ∧ gNf U ∧ gNm U ∧ gNx U
theorem gNf.warm {s U : State} (hW : s.WarmedH U.vm) (h : gNf s) : gNf U :=
  ⟨h.1.warmF hW, h.2.1.warmF hW, h.2.2.1.warmF hW, h.2.2.2.1.warmF hW, h.2.2.2.2.1.warmF hW, h.2.2.2.2.2.warmF hW⟩
theorem gNm.warm {s U : State} (hW : s.WarmedH U.vm) (h : gNm s) : gNm U :=
  ⟨h.1.warmM hW, h.2.1.warmM hW, h.2.2.1.warmM hW, h.2.2.2.1.warmM hW, h.2.2.2.2.1.warmM hW, h.2.2.2.2.2.1.warmM hW, h.2.2.2.2.2.2.1.warmM hW, h.2.2.2.2.2.2.2.warmM hW⟩
theorem gNf.same {s U : State} (e : s.vm = U.vm) (h : gNf s) : gNf U :=
  ⟨h.1.same rfl e, h.2.1.same rfl e, h.2.2.1.same rfl e, h.2.2.2.1.same rfl e, h.2.2.2.2.1.same rfl e, h.2.2.2.2.2.same rfl e⟩
theorem gNm.same {s U : State} (e : s.vm = U.vm) (h : gNm s) : gNm U :=
  ⟨h.1.same rfl e, h.2.1.same rfl e, h.2.2.1.same rfl e, h.2.2.2.1.same rfl e, h.2.2.2.2.1.same rfl e, h.2.2.2.2.2.1.same rfl e, h.2.2.2.2.2.2.1.same rfl e, h.2.2.2.2.2.2.2.same rfl e⟩
theorem gZs.by {G : GP} {A B : Nat → Prop} {s U : State} {H H1 : Heap} (hvm : s.vm.Alike U.vm) (hq : ∀ a : Nat, a < H.size → ¬ A a → H1[a]? = H[a]?) (hAB : ∀ q, B q → A q) (h : gZs G A s H) : gZs G B U H1 :=
  ⟨⟨((h.1.1.moved hvm).kept hq).narrow hAB, ((h.1.2.moved hvm).kept hq).narrow hAB⟩, ⟨((h.2.1.1.moved hvm).kept hq).narrow hAB, ((h.2.1.2.moved hvm).kept hq).narrow hAB⟩,
   ⟨((h.2.2.1.1.moved hvm).kept hq).narrow hAB, ((h.2.2.1.2.moved hvm).kept hq).narrow hAB⟩, ⟨((h.2.2.2.1.moved hvm).kept hq).narrow hAB, ((h.2.2.2.2.moved hvm).kept hq).narrow hAB⟩⟩
theorem gZ.call {G : GP} {A B : Nat → Prop} {s U : State} {H : Heap} {locs : List Loc} (h : gZ G A s s.heap) (hS : va_S A s.heap H locs) (hAB : ∀ q, B q → A q) (hU : U.heap = H) (hW : s.WarmedH U.vm) : gZ G B U U.heap :=
  ⟨h.1.by hW.alike (fun a h1 h2 => by rw [hU]; exact hS.2.1 a h1 h2) hAB, h.2.1.warm hW, h.2.2.1.warm hW, h.2.2.2.warm hW⟩
def gPre (G : GP) (sz : Nat) (w : va_W) (U : State) : Prop := U.heap.size = sz ∧ va_P G.1 vwCl w U.heap ∧ gK G U ∧ va_D (fun _ => True) w ∧ gZ G (va_A w sz) U U.heap
theorem gPre.blind {av : List Value} {G : GP} {sz : Nat} {w : va_W} : FrameBlind (va_Pc av (gPre G sz w)) := fun a U g mk q => by
  obtain ⟨q0, q1, qP, qK, qD, qZ⟩ := q
  exact ⟨q0, q1, qP, va_K.moved (u := U) (U := U.calling g mk a) (Vm.Alike.refl U.vm) qK, qD, gZs.by (Vm.Alike.refl U.vm) (fun _ _ _ => rfl) (fun _ h => h) qZ.1, qZ.2.1.same rfl, qZ.2.2.1.same rfl, qZ.2.2.2.same rfl⟩
def gB (G : GP) (A : Nat → Prop) (w : va_W) (t : State) : Prop := va_P G.1 vwCl w t.heap ∧ va_D A w
theorem gB_mk {G : GP} {A : Nat → Prop} {w : va_W} {t : State} {H : Heap} (hP : va_P G.1 vwCl w H) (hD : va_D A w) (ht : t.heap = H) : gB G A w t := by
  unfold gB
  rw [ht]
  exact ⟨hP, hD⟩
abbrev rmD (d : Nat) : Room := { frames := d, cells := 0, slots := 0, locals := 60 * d }
def CI (G : GP) (l : Launch) (y : MethodName) (cc : ByteArray) (nL : Nat) (ret : Option FieldType) (d : Nat) (av : List Value) (w w' : va_W) (r : Int32) : Prop :=
  ∀ sz, Met l y (Cond.code y cc nL ret :: TB) (rmD d) (va_Pc av (gPre G sz w)) (va_Qi (fun (r' : Int32) (_ : Unit) => r' = r) (fun _ t => gB G (va_A w sz) w' t) (va_A w sz)) 0 0 (va_A w sz)
def CL (G : GP) (l : Launch) (y : MethodName) (cc : ByteArray) (nL : Nat) (ret : Option FieldType) (d : Nat) (av : List Value) (w w' : va_W) (r : Int64) : Prop :=
  ∀ sz, Met l y (Cond.code y cc nL ret :: TB) (rmD d) (va_Pc av (gPre G sz w)) (va_Ql (fun (r' : Int64) (_ : Unit) => r' = r) (fun _ t => gB G (va_A w sz) w' t) (va_A w sz)) 0 0 (va_A w sz)
def CQ (G : GP) (l : Launch) (y : MethodName) (cc : ByteArray) (nL : Nat) (ret : Option FieldType) (d : Nat) (av : List Value) (w w' : va_W) (r : Option Nat) : Prop :=
  ∀ sz, Met l y (Cond.code y cc nL ret :: TB) (rmD d) (va_Pc av (gPre G sz w)) (va_Qq (fun (r' : Option Nat) (_ : Unit) => r' = r) (fun _ t => gB G (va_A w sz) w' t) (va_A w sz)) 0 0 (va_A w sz)
def CV (G : GP) (l : Launch) (y : MethodName) (cc : ByteArray) (nL : Nat) (ret : Option FieldType) (d : Nat) (av : List Value) (w w' : va_W) : Prop :=
  ∀ sz, Met l y (Cond.code y cc nL ret :: TB) (rmD d) (va_Pc av (gPre G sz w)) (va_Qv (fun (_ : Unit) => True) (fun _ t => gB G (va_A w sz) w' t) (va_A w sz)) 0 0 (va_A w sz)
abbrev QI (G : GP) (below : List Frame) (args : Array Value) (s : State) (A : Nat → Prop) (w' : va_W) (r : Int32) : State → Prop := MQ below (va_Qi (fun (r' : Int32) (_ : Unit) => r' = r) (fun _ t => gB G A w' t) A) args s 0 0 A
abbrev QL (G : GP) (below : List Frame) (args : Array Value) (s : State) (A : Nat → Prop) (w' : va_W) (r : Int64) : State → Prop := MQ below (va_Ql (fun (r' : Int64) (_ : Unit) => r' = r) (fun _ t => gB G A w' t) A) args s 0 0 A
abbrev QQ (G : GP) (below : List Frame) (args : Array Value) (s : State) (A : Nat → Prop) (w' : va_W) (r : Option Nat) : State → Prop := MQ below (va_Qq (fun (r' : Option Nat) (_ : Unit) => r' = r) (fun _ t => gB G A w' t) A) args s 0 0 A
abbrev QV (G : GP) (below : List Frame) (args : Array Value) (s : State) (A : Nat → Prop) (w' : va_W) : State → Prop := MQ below (va_Qv (fun (_ : Unit) => True) (fun _ t => gB G A w' t) A) args s 0 0 A
/-- what holds all through a walk -/
def Cx (G : GP) (p : Program) (s : State) (m : MethodId) (args : Array Value) (meth : Method) (c : Code) (cc : ByteArray) (nL : Nat) (ret : Option FieldType) (k : Cond) (own : String) (A : Nat → Prop) : Prop :=
  p.tables.exec = Jvm.exec ∧ c.code = cc ∧ c.maxLocals = nL ∧ s.vm.findClass own = some m.cls ∧ (∀ w ∈ k :: TB, w.before args s = true) ∧ gK G s ∧ gZ G A s s.heap ∧ (∀ q : Nat, s.heap.size ≤ q → A q) ∧ meth.locks = false ∧ meth.sig.returnType = ret
variable {G : GP} {p : Program} {l : Launch} {e : Env} {R : Room} {s : State} {m : MethodId} {args : Array Value} {below : List Frame} {meth : Method} {c : Code} {H : Heap} {locs : List Loc} {cells slots : Nat} {Q : State → Prop} {cc : ByteArray} {nL : Nat} {ret : Option FieldType} {k : Cond} {own : String} {A : Nat → Prop} {pc : Nat} {ls : Array Slot} {rest : List Value} {w w' : va_W} {y : MethodName} {d : Nat} {av : List Value}
theorem enterI {r : Int32} (hy : plainName y.cls = true) (ho : y.cls = own) (hav : (lg_sl av).length ≤ nL)
    (body : ∀ p e s m args below meth c A, Cx G p s m args meth c cc nL ret (Cond.code y cc nL ret) own A → va_P G.1 vwCl w s.heap → va_D A w → va_S A s.heap s.heap [] → ∀ ls, lv_has ls nL (lv_args 0 av) → W p l e (rmD d) s m args below meth c s.heap [] 0 0 (QI G below args s A w' r) (F0 m 0 ls [])) : CI G l y cc nL ret d av w w' r := by
  intro sz
  refine Met.ofW (cc := cc) (maxL := nL) (ret := ret) hy rfl ?_
  intro p e s m args below meth c s₁ B hml hv
  obtain ⟨rfl, hsz, hP, hK, hD0, hZ⟩ := hv
  subst hsz
  rw [lg_entry_eq]
  exact body p e s m _ below meth c _ ⟨B.exec, B.bytes, hml, by rw [← ho]; exact findClass_of_methodNamed B.named, atoms_spec (ws := Cond.code y cc nL ret :: TB) B.pre, hK, hZ, fun q h => Or.inr h, B.notSynchronized, B.returns⟩ hP hD0.self va_S.rf _ (lv_entry av hav)
theorem enterL {r : Int64} (hy : plainName y.cls = true) (ho : y.cls = own) (hav : (lg_sl av).length ≤ nL)
    (body : ∀ p e s m args below meth c A, Cx G p s m args meth c cc nL ret (Cond.code y cc nL ret) own A → va_P G.1 vwCl w s.heap → va_D A w → va_S A s.heap s.heap [] → ∀ ls, lv_has ls nL (lv_args 0 av) → W p l e (rmD d) s m args below meth c s.heap [] 0 0 (QL G below args s A w' r) (F0 m 0 ls [])) : CL G l y cc nL ret d av w w' r := by
  intro sz
  refine Met.ofW (cc := cc) (maxL := nL) (ret := ret) hy rfl ?_
  intro p e s m args below meth c s₁ B hml hv
  obtain ⟨rfl, hsz, hP, hK, hD0, hZ⟩ := hv
  subst hsz
  rw [lg_entry_eq]
  exact body p e s m _ below meth c _ ⟨B.exec, B.bytes, hml, by rw [← ho]; exact findClass_of_methodNamed B.named, atoms_spec (ws := Cond.code y cc nL ret :: TB) B.pre, hK, hZ, fun q h => Or.inr h, B.notSynchronized, B.returns⟩ hP hD0.self va_S.rf _ (lv_entry av hav)
theorem enterQ {r : Option Nat} (hy : plainName y.cls = true) (ho : y.cls = own) (hav : (lg_sl av).length ≤ nL)
    (body : ∀ p e s m args below meth c A, Cx G p s m args meth c cc nL ret (Cond.code y cc nL ret) own A → va_P G.1 vwCl w s.heap → va_D A w → va_S A s.heap s.heap [] → ∀ ls, lv_has ls nL (lv_args 0 av) → W p l e (rmD d) s m args below meth c s.heap [] 0 0 (QQ G below args s A w' r) (F0 m 0 ls [])) : CQ G l y cc nL ret d av w w' r := by
  intro sz
  refine Met.ofW (cc := cc) (maxL := nL) (ret := ret) hy rfl ?_
  intro p e s m args below meth c s₁ B hml hv
  obtain ⟨rfl, hsz, hP, hK, hD0, hZ⟩ := hv
  subst hsz
  rw [lg_entry_eq]
  exact body p e s m _ below meth c _ ⟨B.exec, B.bytes, hml, by rw [← ho]; exact findClass_of_methodNamed B.named, atoms_spec (ws := Cond.code y cc nL ret :: TB) B.pre, hK, hZ, fun q h => Or.inr h, B.notSynchronized, B.returns⟩ hP hD0.self va_S.rf _ (lv_entry av hav)
theorem enterV (hy : plainName y.cls = true) (ho : y.cls = own) (hav : (lg_sl av).length ≤ nL)
    (body : ∀ p e s m args below meth c A, Cx G p s m args meth c cc nL ret (Cond.code y cc nL ret) own A → va_P G.1 vwCl w s.heap → va_D A w → va_S A s.heap s.heap [] → ∀ ls, lv_has ls nL (lv_args 0 av) → W p l e (rmD d) s m args below meth c s.heap [] 0 0 (QV G below args s A w') (F0 m 0 ls [])) : CV G l y cc nL ret d av w w' := by
  intro sz
  refine Met.ofW (cc := cc) (maxL := nL) (ret := ret) hy rfl ?_
  intro p e s m args below meth c s₁ B hml hv
  obtain ⟨rfl, hsz, hP, hK, hD0, hZ⟩ := hv
  subst hsz
  rw [lg_entry_eq]
  exact body p e s m _ below meth c _ ⟨B.exec, B.bytes, hml, by rw [← ho]; exact findClass_of_methodNamed B.named, atoms_spec (ws := Cond.code y cc nL ret :: TB) B.pre, hK, hZ, fun q h => Or.inr h, B.notSynchronized, B.returns⟩ hP hD0.self va_S.rf _ (lv_entry av hav)
/-! ends -/
theorem retI {r : Int32} (C : Cx G p s m args meth c cc nL (some .int) k own A) (hP : va_P G.1 vwCl w H) (hD : va_D A w) (hS : va_S A s.heap H locs) (hdg : decode cc pc = .ok (.ireturn, 1)) : W p l e R s m args below meth c H locs 0 0 (QI G below args s A w r) (F0 m pc ls [.int r]) :=
  W.iret C.1 C.2.1 C.2.2.2.2.2.2.2.2.2 (fun t ht _ => ⟨⟨r, (), rfl, rfl, gB_mk hP hD ht⟩, hS.F ht⟩) hS.2.2 hdg C.2.2.2.2.2.2.2.2.1
theorem retZ {r : Int32} (C : Cx G p s m args meth c cc nL (some .boolean) k own A) (hP : va_P G.1 vwCl w H) (hD : va_D A w) (hS : va_S A s.heap H locs) (hn : r = 0 ∨ r = 1) (hdg : decode cc pc = .ok (.ireturn, 1)) : W p l e R s m args below meth c H locs 0 0 (QI G below args s A w r) (F0 m pc ls [.int r]) :=
  W.zret C.1 C.2.1 C.2.2.2.2.2.2.2.2.2 (by rcases hn with h | h <;> subst h <;> decide) (fun t ht _ => ⟨⟨r, (), rfl, rfl, gB_mk hP hD ht⟩, hS.F ht⟩) hS.2.2 hdg C.2.2.2.2.2.2.2.2.1
theorem retL {r : Int64} (C : Cx G p s m args meth c cc nL (some .long) k own A) (hP : va_P G.1 vwCl w H) (hD : va_D A w) (hS : va_S A s.heap H locs) (hdg : decode cc pc = .ok (.lreturn, 1)) : W p l e R s m args below meth c H locs 0 0 (QL G below args s A w r) (F0 m pc ls [.long r]) :=
  W.lret C.1 C.2.1 C.2.2.2.2.2.2.2.2.2 (fun t ht _ => ⟨⟨r, (), rfl, rfl, gB_mk hP hD ht⟩, hS.F ht⟩) hS.2.2 hdg C.2.2.2.2.2.2.2.2.1
theorem retV (C : Cx G p s m args meth c cc nL none k own A) (hP : va_P G.1 vwCl w H) (hD : va_D A w) (hS : va_S A s.heap H locs) (hdg : decode cc pc = .ok (.return_, 1)) : W p l e R s m args below meth c H locs 0 0 (QV G below args s A w) (F0 m pc ls []) :=
  W.vret C.1 C.2.1 C.2.2.2.2.2.2.2.2.2 (fun t ht _ => ⟨⟨(), rfl, trivial, gB_mk hP hD ht⟩, hS.F ht⟩) hS.2.2 hdg C.2.2.2.2.2.2.2.2.1
theorem retQ {r : Option Nat} {rt : FieldType} (C : Cx G p s m args meth c cc nL (some rt) k own A) (hrt : (∃ n, rt = .object n) ∨ ∃ t, rt = .array t) (hP : va_P G.1 vwCl w H) (hD : va_D A w) (hS : va_S A s.heap H locs) (hdg : decode cc pc = .ok (.areturn, 1)) : W p l e R s m args below meth c H locs 0 0 (QQ G below args s A w r) (F0 m pc ls [va_rf r]) :=
  W.aret C.1 C.2.1 C.2.2.2.2.2.2.2.2.2 hrt (by cases r <;> simp [va_rf]) (fun t ht _ => ⟨⟨r, (), rfl, rfl, gB_mk hP hD ht⟩, hS.F ht⟩) hS.2.2 hdg C.2.2.2.2.2.2.2.2.1
/-! calls: what must be in the tables for a call -/
def lkV (own : String) (idx : Nat) (C : String) (y : MethodName) (bytes : ByteArray) (maxL : Nat) (ret : Option FieldType) (n : Nat) : Prop :=
  Cond.code y bytes maxL ret ∈ TB ∧ Cond.methodLink own idx y ∈ TB ∧ Cond.instanceMethod y ∈ TB ∧ Cond.selects C y y ∈ TB ∧ Cond.initialized y.cls ∈ TB ∧ (y.cls ≠ "java/lang/invoke/MethodHandle" ∧ y.cls ≠ "java/lang/invoke/VarHandle" ∧ (parseMethodDescriptor y.desc).map (fun d => d.parameters.length) = some n)
def lkS (own : String) (idx : Nat) (y : MethodName) (bytes : ByteArray) (maxL : Nat) (ret : Option FieldType) (n : Nat) : Prop :=
  Cond.code y bytes maxL ret ∈ TB ∧ Cond.methodLink own idx y ∈ TB ∧ Cond.static y ∈ TB ∧ Cond.initialized y.cls ∈ TB ∧ (y.cls ≠ "java/lang/invoke/MethodHandle" ∧ y.cls ≠ "java/lang/invoke/VarHandle" ∧ (parseMethodDescriptor y.desc).map (fun d => d.parameters.length) = some n)
def lkN (y : MethodName) (bytes : ByteArray) (maxL : Nat) (ret : Option FieldType) (n : Nat) : Prop :=
  Cond.code y bytes maxL ret ∈ TB ∧ Cond.static y ∈ TB ∧ Cond.initialized y.cls ∈ TB ∧ (y.cls ≠ "java/lang/invoke/MethodHandle" ∧ y.cls ≠ "java/lang/invoke/VarHandle" ∧ (parseMethodDescriptor y.desc).map (fun d => d.parameters.length) = some n)
variable {idx : Nat} {C0 : String} {bytes : ByteArray} {mL : Nat} {rt : Option FieldType} {n dd : Nat} {As : List Value} {b : Nat} {st : List Value}
theorem fr_sub (hD : va_D A w) (hS : va_S A s.heap H locs) (hA : ∀ q : Nat, s.heap.size ≤ q → A q) : ∀ q, va_A w H.size q → A q := fun q h => by
  rcases h with ⟨k, e, h⟩ | h
  · exact hD.2 k _ h
  · exact hA q (Nat.le_trans hS.1 h)
theorem pre_of (C : Cx G p s m args meth c cc nL ret k own A) (hP : va_P G.1 vwCl w H) (hD : va_D A w) (hS : va_S A s.heap H locs) {av : List Value} : ∀ U : State, U.heap = H → s.WarmedH U.vm → va_Pc av (gPre G H.size w) av.toArray U := fun U hU hW =>
  ⟨rfl, by rw [hU], by rw [hU]; exact hP, va_K.moved hW.alike C.2.2.2.2.2.1, hD.weaken (fun _ _ _ _ => trivial), C.2.2.2.2.2.2.1.call hS (fr_sub hD hS C.2.2.2.2.2.2.2.1) hU hW⟩
theorem room_ok {mL dd d : Nat} (h : dd < d) (hm : mL ≤ 41) : (rmD dd).frames + 1 ≤ (rmD d).frames ∧ 8 + (mL + 11) + (rmD dd).locals ≤ (rmD d).locals := ⟨h, by show 8 + (mL + 11) + 60 * dd ≤ 60 * d; omega⟩
theorem runV {Qc : Array Value → State → Outcome → State → Prop} {free : Addr → Prop} (C : Cx G p s m args meth c cc nL ret k own A) (lk : lkV own idx C0 y bytes mL rt n) (hM : Met l y (Cond.code y bytes mL rt :: TB) (rmD dd) (va_Pc (.ref b :: As) (gPre G H.size w)) Qc 0 0 free) (hP : va_P G.1 vwCl w H) (hD : va_D A w) (hS : va_S A s.heap H locs) (hr : ∃ cell : Cell, H[b]? = some cell ∧ cell.vm.isStatics = false ∧ s.vm.findClass C0 = some cell.cls) (hl : ls.size = nL) (hst : st = As.reverse ++ .ref b :: rest) (hn : As.length = n) (hdep : dd < d) (hm : mL ≤ 41) (hcat : (rest.map fun v => v.category).sum ≤ 8) (hdg : decode cc pc = .ok (.invokevirtual idx, 3)) :
    va_Run p l e (rmD d) s m args below meth c H locs 0 0 0 0 (F0 m pc ls st) rest (Qc (Value.ref b :: As).toArray) free :=
  va_runV (As := As) (rest := rest) (C := C0) ⟨C.1, C.2.1, C.2.2.1, C.2.2.2.1, C.2.2.2.2.1⟩ hM
    ⟨callB_of n C.2.2.2.2.1 (gd_tb lk.1) rfl rfl rfl (C.2.2.2.2.1 _ (List.mem_cons_of_mem _ lk.2.2.2.2.1)) (C.2.2.2.2.1 _ (List.mem_cons_of_mem _ lk.2.1)) lk.2.2.2.2.2 (room_ok hdep hm), C.2.2.2.2.1 _ (List.mem_cons_of_mem _ lk.2.2.1), C.2.2.2.2.1 _ (List.mem_cons_of_mem _ lk.2.2.2.1)⟩
    ⟨gPre.blind, hr, pre_of C hP hD hS⟩ rfl hn hl hst (lv_room hcat) hdg ⟨Nat.zero_le _, Nat.zero_le _⟩
theorem runS {Qc : Array Value → State → Outcome → State → Prop} {free : Addr → Prop} (C : Cx G p s m args meth c cc nL ret k own A) (lk : lkS own idx y bytes mL rt n) (hM : Met l y (Cond.code y bytes mL rt :: TB) (rmD dd) (va_Pc As (gPre G H.size w)) Qc 0 0 free) (hP : va_P G.1 vwCl w H) (hD : va_D A w) (hS : va_S A s.heap H locs) (hl : ls.size = nL) (hst : st = As.reverse ++ rest) (hn : As.length = n) (hdep : dd < d) (hm : mL ≤ 41) (hcat : (rest.map fun v => v.category).sum ≤ 8) (hdg : decode cc pc = .ok (.invokestatic idx, 3)) :
    va_Run p l e (rmD d) s m args below meth c H locs 0 0 0 0 (F0 m pc ls st) rest (Qc As.toArray) free :=
  va_runS (As := As) (rest := rest) ⟨C.1, C.2.1, C.2.2.1, C.2.2.2.1, C.2.2.2.2.1⟩ hM
    ⟨callB_of n C.2.2.2.2.1 (gd_tb lk.1) rfl rfl rfl (C.2.2.2.2.1 _ (List.mem_cons_of_mem _ lk.2.2.2.1)) (C.2.2.2.2.1 _ (List.mem_cons_of_mem _ lk.2.1)) lk.2.2.2.2 (room_ok hdep hm), C.2.2.2.2.1 _ (List.mem_cons_of_mem _ lk.2.2.1)⟩
    ⟨gPre.blind, pre_of C hP hD hS⟩ rfl hn hl hst (lv_room hcat) hdg ⟨Nat.zero_le _, Nat.zero_le _⟩
theorem runN {Qc : Array Value → State → Outcome → State → Prop} {free : Addr → Prop} {host : String} (C : Cx G p s m args meth c cc nL ret k own A) (lk : lkN y bytes mL rt n) (hnest : va_Nw (.methodLinkNest own idx y host) s) (hM : Met l y (Cond.code y bytes mL rt :: TB) (rmD dd) (va_Pc As (gPre G H.size w)) Qc 0 0 free) (hP : va_P G.1 vwCl w H) (hD : va_D A w) (hS : va_S A s.heap H locs) (hl : ls.size = nL) (hst : st = As.reverse ++ rest) (hn : As.length = n) (hdep : dd < d) (hm : mL ≤ 41) (hcat : (rest.map fun v => v.category).sum ≤ 8) (hdg : decode cc pc = .ok (.invokestatic idx, 3)) :
    va_Run p l e (rmD d) s m args below meth c H locs 0 0 0 0 (F0 m pc ls st) rest (Qc As.toArray) free :=
  va_runSN (As := As) (rest := rest) (Ts := k :: TB) ⟨C.1, C.2.1, C.2.2.1, C.2.2.2.1, C.2.2.2.2.1⟩ hM
    ⟨va_cnB n C.2.2.2.2.1 (gd_tb lk.1) rfl rfl rfl hnest (C.2.2.2.2.1 _ (List.mem_cons_of_mem _ lk.2.2.1)) lk.2.2.2 (room_ok hdep hm), C.2.2.2.2.1 _ (List.mem_cons_of_mem _ lk.2.1), trivial⟩
    ⟨gPre.blind, pre_of C hP hD hS⟩ rfl hn hl hst (lv_room hcat) hdg ⟨Nat.zero_le _, Nat.zero_le _⟩
/-! what goes on behind a call -/
variable {free : Addr → Prop} {av0 : Array Value}
theorem goI {r : Int32} (C : Cx G p s m args meth c cc nL ret k own A) (hD : va_D A w) (hS : va_S A s.heap H locs)
    (hr : va_Run p l e R s m args below meth c H locs 0 0 0 0 (F0 m pc ls st) rest (va_Qi (fun (r' : Int32) (_ : Unit) => r' = r) (fun _ t => gB G (va_A w H.size) w' t) (va_A w H.size) av0) (va_A w H.size))
    (kk : ∀ (H1 : Heap) (locs1 : List Loc), va_P G.1 vwCl w' H1 → va_D A w' → va_S A s.heap H1 locs1 → W p l e R s m args below meth c H1 locs1 0 0 Q (F0 m (pc + 3) ls (.int r :: rest))) : W p l e R s m args below meth c H locs 0 0 Q (F0 m pc ls st) := by
  have hF := fr_sub hD hS C.2.2.2.2.2.2.2.1
  refine va_calli hr hS (fun q _ h => hF q h) hF (fun r' u t H1 locs1 ht _ hw hB _ _ hS1 => ?_)
  subst hw
  obtain ⟨b1, b2⟩ := hB
  rw [ht] at b1
  exact kk H1 locs1 b1 (b2.weaken (fun _ _ _ h => hF _ h)) hS1
theorem goL {r : Int64} (C : Cx G p s m args meth c cc nL ret k own A) (hD : va_D A w) (hS : va_S A s.heap H locs)
    (hr : va_Run p l e R s m args below meth c H locs 0 0 0 0 (F0 m pc ls st) rest (va_Ql (fun (r' : Int64) (_ : Unit) => r' = r) (fun _ t => gB G (va_A w H.size) w' t) (va_A w H.size) av0) (va_A w H.size))
    (kk : ∀ (H1 : Heap) (locs1 : List Loc), va_P G.1 vwCl w' H1 → va_D A w' → va_S A s.heap H1 locs1 → W p l e R s m args below meth c H1 locs1 0 0 Q (F0 m (pc + 3) ls (.long r :: rest))) : W p l e R s m args below meth c H locs 0 0 Q (F0 m pc ls st) := by
  have hF := fr_sub hD hS C.2.2.2.2.2.2.2.1
  refine va_calll hr hS (fun q _ h => hF q h) hF (fun r' u t H1 locs1 ht _ hw hB _ _ hS1 => ?_)
  subst hw
  obtain ⟨b1, b2⟩ := hB
  rw [ht] at b1
  exact kk H1 locs1 b1 (b2.weaken (fun _ _ _ h => hF _ h)) hS1
theorem goQ {r : Option Nat} (C : Cx G p s m args meth c cc nL ret k own A) (hD : va_D A w) (hS : va_S A s.heap H locs)
    (hr : va_Run p l e R s m args below meth c H locs 0 0 0 0 (F0 m pc ls st) rest (va_Qq (fun (r' : Option Nat) (_ : Unit) => r' = r) (fun _ t => gB G (va_A w H.size) w' t) (va_A w H.size) av0) (va_A w H.size))
    (kk : ∀ (H1 : Heap) (locs1 : List Loc), va_P G.1 vwCl w' H1 → va_D A w' → va_S A s.heap H1 locs1 → W p l e R s m args below meth c H1 locs1 0 0 Q (F0 m (pc + 3) ls (va_rf r :: rest))) : W p l e R s m args below meth c H locs 0 0 Q (F0 m pc ls st) := by
  have hF := fr_sub hD hS C.2.2.2.2.2.2.2.1
  refine va_callq hr hS (fun q _ h => hF q h) hF (fun r' u t H1 locs1 ht _ hw hB _ _ hS1 => ?_)
  subst hw
  obtain ⟨b1, b2⟩ := hB
  rw [ht] at b1
  exact kk H1 locs1 b1 (b2.weaken (fun _ _ _ h => hF _ h)) hS1
theorem goV (C : Cx G p s m args meth c cc nL ret k own A) (hD : va_D A w) (hS : va_S A s.heap H locs)
    (hr : va_Run p l e R s m args below meth c H locs 0 0 0 0 (F0 m pc ls st) rest (va_Qv (fun (_ : Unit) => True) (fun _ t => gB G (va_A w H.size) w' t) (va_A w H.size) av0) (va_A w H.size))
    (kk : ∀ (H1 : Heap) (locs1 : List Loc), va_P G.1 vwCl w' H1 → va_D A w' → va_S A s.heap H1 locs1 → W p l e R s m args below meth c H1 locs1 0 0 Q (F0 m (pc + 3) ls rest)) : W p l e R s m args below meth c H locs 0 0 Q (F0 m pc ls st) := by
  have hF := fr_sub hD hS C.2.2.2.2.2.2.2.1
  refine va_callv hr hS (fun q _ h => hF q h) hF (fun u t H1 locs1 ht _ _ hB _ _ hS1 => ?_)
  obtain ⟨b1, b2⟩ := hB
  rw [ht] at b1
  exact kk H1 locs1 b1 (b2.weaken (fun _ _ _ h => hF _ h)) hS1
/-! choices in the pure functions -/
theorem ifp {α : Type} {c : Prop} [Decidable c] {a b x : α} (hc : c) (h : (if c then a else b) = x) : a = x := by rw [if_pos hc] at h; exact h
theorem ifn {α : Type} {c : Prop} [Decidable c] {a b x : α} (hc : ¬ c) (h : (if c then a else b) = x) : b = x := by rw [if_neg hc] at h; exact h
def gi {α : Type} (i : Int32) (n : Nat) (x : Option α) : Option α := if i < 0 ∨ n ≤ i.toNatClampNeg then none else x
theorem gi_some {α : Type} {i : Int32} {n : Nat} {x : Option α} {y : α} (h : gi i n x = some y) : vp_in i n ∧ x = some y := by
  unfold gi at h
  by_cases hc : i < 0 ∨ n ≤ i.toNatClampNeg
  · rw [if_pos hc] at h; cases h
  · rw [if_neg hc] at h; exact ⟨hc, h⟩
def nz {α : Type} (v : Int32) (x : Option α) : Option α := if v = 0 then none else x
theorem nz_some {α : Type} {v : Int32} {x : Option α} {y : α} (h : nz v x = some y) : ¬ v = 0 ∧ x = some y := by
  unfold nz at h
  by_cases hc : v = 0
  · rw [if_pos hc] at h; cases h
  · rw [if_neg hc] at h; exact ⟨hc, h⟩
def nzl {α : Type} (v : Int64) (x : Option α) : Option α := if v = 0 then none else x
theorem nzl_some {α : Type} {v : Int64} {x : Option α} {y : α} (h : nzl v x = some y) : ¬ v = 0 ∧ x = some y := by
  unfold nzl at h
  by_cases hc : v = 0
  · rw [if_pos hc] at h; cases h
  · rw [if_neg hc] at h; exact ⟨hc, h⟩
def bz {α : Type} (v : Int32) (x : Option α) : Option α := if v = 0 ∨ v = 1 then x else none
theorem bz_some {α : Type} {v : Int32} {x : Option α} {y : α} (h : bz v x = some y) : (v = 0 ∨ v = 1) ∧ x = some y := by
  unfold bz at h
  by_cases hc : v = 0 ∨ v = 1
  · rw [if_pos hc] at h; exact ⟨hc, h⟩
  · rw [if_neg hc] at h; cases h
def bd1 {α β : Type} (x : Option α) (g : α → Option β) : Option β := match x with
  | some a => g a
  | none => none
def bd2 {α α2 β : Type} (x : Option (α × α2)) (g : α → α2 → Option β) : Option β := match x with
  | some (a, b) => g a b
  | none => none
def bd3 {α α2 α3 β : Type} (x : Option (α × α2 × α3)) (g : α → α2 → α3 → Option β) : Option β := match x with
  | some (a, b, c) => g a b c
  | none => none
def bd4 {α α2 α3 α4 β : Type} (x : Option (α × α2 × α3 × α4)) (g : α → α2 → α3 → α4 → Option β) : Option β := match x with
  | some (a, b, c, d) => g a b c d
  | none => none
def bd5 {α α2 α3 α4 α5 β : Type} (x : Option (α × α2 × α3 × α4 × α5)) (g : α → α2 → α3 → α4 → α5 → Option β) : Option β := match x with
  | some (a, b, c, d, e) => g a b c d e
  | none => none
theorem bd1_some {α β : Type} {x : Option α} {g : α → Option β} {y : β} (h : bd1 x g = some y) : ∃ a, x = some a ∧ g a = some y := by
  cases x with
  | none => cases h
  | some a => exact ⟨a, rfl, h⟩
theorem bd2_some {α α2 β : Type} {x : Option (α × α2)} {g : α → α2 → Option β} {y : β} (h : bd2 x g = some y) : ∃ a b, x = some (a, b) ∧ g a b = some y := by
  cases x with
  | none => cases h
  | some a => exact ⟨a.1, a.2, rfl, h⟩
theorem bd3_some {α α2 α3 β : Type} {x : Option (α × α2 × α3)} {g : α → α2 → α3 → Option β} {y : β} (h : bd3 x g = some y) : ∃ a b c, x = some (a, b, c) ∧ g a b c = some y := by
  cases x with
  | none => cases h
  | some a => exact ⟨a.1, a.2.1, a.2.2, rfl, h⟩
theorem bd4_some {α α2 α3 α4 β : Type} {x : Option (α × α2 × α3 × α4)} {g : α → α2 → α3 → α4 → Option β} {y : β} (h : bd4 x g = some y) : ∃ a b c d, x = some (a, b, c, d) ∧ g a b c d = some y := by
  cases x with
  | none => cases h
  | some a => exact ⟨a.1, a.2.1, a.2.2.1, a.2.2.2, rfl, h⟩
theorem bd5_some {α α2 α3 α4 α5 β : Type} {x : Option (α × α2 × α3 × α4 × α5)} {g : α → α2 → α3 → α4 → α5 → Option β} {y : β} (h : bd5 x g = some y) : ∃ a b c d e, x = some (a, b, c, d, e) ∧ g a b c d e = some y := by
  cases x with
  | none => cases h
  | some a => exact ⟨a.1, a.2.1, a.2.2.1, a.2.2.2.1, a.2.2.2.2, rfl, h⟩
theorem so1 {α : Type} {a a' : α} (h : some a = some a') : a = a' := Option.some.inj h
theorem so2 {α β : Type} {a a' : α} {b b' : β} (h : some (a, b) = some (a', b')) : a = a' ∧ b = b' := by cases h; exact ⟨rfl, rfl⟩
theorem so3 {α β γ : Type} {a a' : α} {b b' : β} {c c' : γ} (h : some (a, b, c) = some (a', b', c')) : a = a' ∧ b = b' ∧ c = c' := by cases h; exact ⟨rfl, rfl, rfl⟩
theorem so4 {α β γ δ : Type} {a a' : α} {b b' : β} {c c' : γ} {d d' : δ} (h : some (a, b, c, d) = some (a', b', c', d')) : a = a' ∧ b = b' ∧ c = c' ∧ d = d' := by cases h; exact ⟨rfl, rfl, rfl, rfl⟩
theorem so5 {α β γ δ ε : Type} {a a' : α} {b b' : β} {c c' : γ} {d d' : δ} {e e' : ε} (h : some (a, b, c, d, e) = some (a', b', c', d', e')) : a = a' ∧ b = b' ∧ c = c' ∧ d = d' ∧ e = e' := by cases h; exact ⟨rfl, rfl, rfl, rfl, rfl⟩
end
