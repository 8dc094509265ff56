/-! making: arrays, objects, constructors -/
section
variable {G : GP} {p : Program} {l : Launch} {e : Env} {R : Room} {s : State} {m : MethodId} {args : Array Value} {below : List Frame} {meth : Method} {c : Code} {H : Heap} {locs : List Loc} {cells slots : Nat} {Q : State → Prop} {cc : ByteArray} {nL : Nat} {ret : Option FieldType} {k : Cond} {own : String} {A : Nat → Prop} {pc : Nat} {ls : Array Slot} {rest : List Value} {w w' : va_W} {y : MethodName} {d : Nat} {av : List Value}
theorem ac_I : Cond.arrayClass .int ∈ TB := tbT 50 (by decide +kernel) rfl
theorem ac_Z : Cond.arrayClass .boolean ∈ TB := tbT 786 (by decide +kernel) rfl
theorem nwI {n : Int32} {N' : Nat} (C : Cx G p s m args meth c cc nL ret k own A) (hP : va_P G.1 vwCl w H) (hD : va_D A w) (hS : va_S A s.heap H locs) (hn : ¬ n < 0) (hN : n.toNatClampNeg = N') (hbytes : N' * 4 ≤ 536870912) (hcells : cells + 1 ≤ R.cells) (hslots : slots + N' ≤ R.slots) (hdg : decode cc pc = .ok (.newarray .int, 2))
    (kk : ∀ (q : Nat) (H1 : Heap), va_P G.1 vwCl (w ++ [(q, .inl (G.2.1, N', .inl (fun _ => 0)))]) H1 → va_D A (w ++ [(q, .inl (G.2.1, N', .inl (fun _ => 0)))]) → va_S A s.heap H1 locs → W p l e R s m args below meth c H1 locs (cells + 1) (slots + N') Q (F0 m (pc + 2) ls (.ref q :: rest))) : W p l e R s m args below meth c H locs cells slots Q (F0 m pc ls (.int n :: rest)) := by
  refine va_newa (atype := .int) (tys := tyG G) (ty := .int) (a0 := (N', .inl (fun _ => 0))) C.1 C.2.1 (C.2.2.2.2.1 _ (List.mem_cons_of_mem _ ac_I)) rfl C.2.2.2.2.2.1 hP hD hS C.2.2.2.2.2.2.2.1 (fun cA => rfl) hn hN hbytes hcells hslots hdg (fun q cA H1 hK1 hP1 hD1 hS1 => ?_)
  have h1 : s.vm.findClass ("[" ++ (FieldType.int).toString) = some cA := (hK1.2 3 (cA, .int) rfl).2
  have h2 : s.vm.findClass ("[" ++ (FieldType.int).toString) = some G.2.1 := (hK1.2 0 (G.2.1, .int) rfl).2
  have e1 : cA = G.2.1 := Option.some.inj (h1.symm.trans h2)
  subst e1
  exact kk q H1 hP1 hD1 hS1
theorem nwZ {n : Int32} {N' : Nat} (C : Cx G p s m args meth c cc nL ret k own A) (hP : va_P G.1 vwCl w H) (hD : va_D A w) (hS : va_S A s.heap H locs) (hn : ¬ n < 0) (hN : n.toNatClampNeg = N') (hbytes : N' * 1 ≤ 536870912) (hcells : cells + 1 ≤ R.cells) (hslots : slots + N' ≤ R.slots) (hdg : decode cc pc = .ok (.newarray .boolean, 2))
    (kk : ∀ (q : Nat) (H1 : Heap), va_P G.1 vwCl (w ++ [(q, .inl (G.2.2.1, N', .inl (fun _ => 0)))]) H1 → va_D A (w ++ [(q, .inl (G.2.2.1, N', .inl (fun _ => 0)))]) → va_S A s.heap H1 locs → W p l e R s m args below meth c H1 locs (cells + 1) (slots + N') Q (F0 m (pc + 2) ls (.ref q :: rest))) : W p l e R s m args below meth c H locs cells slots Q (F0 m pc ls (.int n :: rest)) := by
  refine va_newa (atype := .boolean) (tys := tyG G) (ty := .boolean) (a0 := (N', .inl (fun _ => 0))) C.1 C.2.1 (C.2.2.2.2.1 _ (List.mem_cons_of_mem _ ac_Z)) rfl C.2.2.2.2.2.1 hP hD hS C.2.2.2.2.2.2.2.1 (fun cA => rfl) hn hN hbytes hcells hslots hdg (fun q cA H1 hK1 hP1 hD1 hS1 => ?_)
  have h1 : s.vm.findClass ("[" ++ (FieldType.boolean).toString) = some cA := (hK1.2 3 (cA, .boolean) rfl).2
  have h2 : s.vm.findClass ("[" ++ (FieldType.boolean).toString) = some G.2.2.1 := (hK1.2 1 (G.2.2.1, .boolean) rfl).2
  have e1 : cA = G.2.2.1 := Option.some.inj (h1.symm.trans h2)
  subst e1
  exact kk q H1 hP1 hD1 hS1
theorem nwQ {n : Int32} {N' : Nat} (C : Cx G p s m args meth c cc nL ret k RX0 A) (hP : va_P G.1 vwCl w H) (hD : va_D A w) (hS : va_S A s.heap H locs) (hn : ¬ n < 0) (hN : n.toNatClampNeg = N') (hbytes : N' * 4 ≤ 536870912) (hcells : cells + 1 ≤ R.cells) (hslots : slots + N' ≤ R.slots) (hdg : decode cc pc = .ok (.anewarray 9, 3))
    (kk : ∀ (q : Nat) (H1 : Heap), va_P G.1 vwCl (w ++ [(q, .inl (G.2.2.2.1, N', .inr (.inr (.inr (.inr (fun _ => none))))))]) H1 → va_D A (w ++ [(q, .inl (G.2.2.2.1, N', .inr (.inr (.inr (.inr (fun _ => none))))))]) → va_S A s.heap H1 locs → W p l e R s m args below meth c H1 locs (cells + 1) (slots + N') Q (F0 m (pc + 3) ls (.ref q :: rest))) : W p l e R s m args below meth c H locs cells slots Q (F0 m pc ls (.int n :: rest)) := by
  refine va_newq (tys := tyG G) (C := RX3) C.1 C.2.1 C.2.2.2.1 (C.2.2.2.2.1 _ (List.mem_cons_of_mem _ (tbT 110 (by decide +kernel) rfl : Cond.classLink RX0 9 RX3 ∈ TB))) C.2.2.2.2.2.2.1.2.2.2.2 C.2.2.2.2.2.1 hP hD hS C.2.2.2.2.2.2.2.1 hn hN hbytes hcells hslots hdg (fun q cA H1 hK1 hP1 hD1 hS1 => ?_)
  obtain ⟨_, _, _, _, _, h1⟩ := (hK1.2 3 (cA, .object RX3) rfl).2
  obtain ⟨_, _, _, _, _, h2⟩ := (hK1.2 2 (G.2.2.2.1, .object RX3) rfl).2
  have e1 : cA = G.2.2.2.1 := Option.some.inj (h1.symm.trans h2)
  subst e1
  exact kk q H1 hP1 hD1 hS1
theorem oi_i : Cond.instanceMethod objectInit ∈ TB := tbT 17 (by decide +kernel) rfl
theorem oi_c : Cond.code objectInit ⟨#[0xb1]⟩ 1 none ∈ TB := tbT 18 (by decide +kernel) rfl
theorem objI {idx a : Nat} (C : Cx G p s m args meth c cc nL ret k own A) (lk : Cond.methodLink own idx objectInit ∈ TB) (hl : ls.size = nL) (hf : 1 ≤ R.frames) (hlo : (rest.map fun v => v.category).sum + 12 ≤ R.locals) (hdg : decode cc pc = .ok (.invokespecial idx, 3)) (kk : W p l e R s m args below meth c H locs cells slots Q (F0 m (pc + 3) ls rest)) : W p l e R s m args below meth c H locs cells slots Q (F0 m pc ls (.ref a :: rest)) :=
  W.objInit C.1 C.2.1 C.2.2.2.1 (C.2.2.2.2.1 _ (List.mem_cons_of_mem _ lk)) (C.2.2.2.2.1 _ (List.mem_cons_of_mem _ oi_i)) (C.2.2.2.2.1 _ (List.mem_cons_of_mem _ oi_c)) rfl (hl.trans C.2.2.1.symm) rfl hdg hf (by show 2 * 0 + _ + 12 ≤ _; omega) kk
abbrev rmC (d mc ms : Nat) : Room := { frames := d, cells := mc, slots := ms, locals := 60 * d }
/-- the contract of a maker: new cells, their addresses by u -/
def CN (G : GP) (l : Launch) (y : MethodName) (cc : ByteArray) (nL d mc ms : Nat) (av : List Value) (w : va_W) {S : Type} (w' : S → va_W) : Prop :=
  ∀ sz, Met l y (Cond.code y cc nL none :: TB) (rmC d mc ms) (va_Pc av (gPre G sz w)) (va_Qv (fun (_ : S) => True) (fun u t => gB G (va_A w sz) (w' u) t) (va_A w sz)) mc ms (va_A w sz)
abbrev QN (G : GP) (below : List Frame) (args : Array Value) (s : State) (A : Nat → Prop) (mc ms : Nat) {S : Type} (w' : S → va_W) : State → Prop := MQ below (va_Qv (fun (_ : S) => True) (fun u t => gB G A (w' u) t) A) args s mc ms A
theorem enterN {mc ms : Nat} {S : Type} {wS : S → va_W} (hy : plainName y.cls = true) (ho : y.cls = own) (hin : y.name = "<init>") (hav : (lg_sl av).length ≤ nL)
    (body : ∀ p e s m args below meth c A, Cx G p s m args meth c cc nL none (Cond.code y cc nL none) own A → meth.name = "<init>" → va_P G.1 vwCl w s.heap → va_D A w → va_S A s.heap s.heap [] → ∀ ls, lv_has ls nL (lv_args 0 av) → W p l e (rmC d mc ms) s m args below meth c s.heap [] 0 0 (QN G below args s A mc ms wS) (F0 m 0 ls [])) : CN G l y cc nL d mc ms av w wS := by
  intro sz
  refine Met.ofW (cc := cc) (maxL := nL) (ret := none) hy rfl ?_
  intro p e s m args below meth c s₁ B hml hv
  obtain ⟨rfl, hsz, hP, hK, hD0, hZ⟩ := hv
  subst hsz
  rw [lg_entry_eq]
  exact body p e s m _ below meth c _ ⟨B.exec, B.bytes, hml, by rw [← ho]; exact findClass_of_methodNamed B.named, atoms_spec (ws := Cond.code y cc nL none :: TB) B.pre, hK, hZ, fun q h => Or.inr h, B.notSynchronized, B.returns⟩ (hin ▸ (name_of_methodNamed B.named B.method).1) hP hD0.self va_S.rf _ (lv_entry av hav)
theorem retN {S : Type} {wS : S → va_W} (u : S) (C : Cx G p s m args meth c cc nL none k own A) (hP : va_P G.1 vwCl (wS u) H) (hD : va_D A (wS u)) (hS : va_S A s.heap H locs) (hdg : decode cc pc = .ok (.return_, 1)) : W p l e R s m args below meth c H locs cells slots (QN G below args s A cells slots wS) (F0 m pc ls []) :=
  W.vret C.1 C.2.1 C.2.2.2.2.2.2.2.2.2 (fun t ht _ => ⟨⟨u, rfl, trivial, gB_mk hP hD ht⟩, hS.F ht⟩) hS.2.2 hdg C.2.2.2.2.2.2.2.2.1
def lkI (own : String) (idx : Nat) (y : MethodName) (bytes : ByteArray) (maxL : Nat) (n : Nat) : Prop :=
  Cond.code y bytes maxL none ∈ TB ∧ Cond.methodLink own idx y ∈ TB ∧ Cond.instanceMethod y ∈ TB ∧ Cond.initialized y.cls ∈ TB ∧ y.name = "<init>" ∧ (y.cls ≠ "java/lang/invoke/MethodHandle" ∧ y.cls ≠ "java/lang/invoke/VarHandle" ∧ (parseMethodDescriptor y.desc).map (fun d => d.parameters.length) = some n)
def lkIN (y : MethodName) (bytes : ByteArray) (maxL : Nat) (n : Nat) : Prop :=
  Cond.code y bytes maxL none ∈ TB ∧ Cond.instanceMethod y ∈ TB ∧ Cond.initialized y.cls ∈ TB ∧ y.name = "<init>" ∧ (y.cls ≠ "java/lang/invoke/MethodHandle" ∧ y.cls ≠ "java/lang/invoke/VarHandle" ∧ (parseMethodDescriptor y.desc).map (fun d => d.parameters.length) = some n)
variable {idx : Nat} {bytes : ByteArray} {mL : Nat} {n dd mc ms MC MS : Nat} {As : List Value} {b : Nat} {st : List Value} {free : Addr → Prop} {wc wr : va_W}
theorem room_okC {mL dd d mc ms MC MS : Nat} (h : dd < d) (hm : mL ≤ 41) : (rmC dd mc ms).frames + 1 ≤ (rmC d MC MS).frames ∧ 8 + (mL + 11) + (rmC dd mc ms).locals ≤ (rmC d MC MS).locals := ⟨h, by show 8 + (mL + 11) + 60 * dd ≤ 60 * d; omega⟩
theorem runI {Qc : Array Value → State → Outcome → State → Prop} (C : Cx G p s m args meth c cc nL ret k own A) (lk : lkI own idx y bytes mL n) (hM : Met l y (Cond.code y bytes mL none :: TB) (rmC dd mc ms) (va_Pc (.ref b :: As) (gPre G H.size w)) Qc mc ms free) (hP : va_P G.1 vwCl w H) (hD : va_D A w) (hS : va_S A s.heap H locs) (hl : ls.size = nL) (hst : st = As.reverse ++ .ref b :: rest) (hn : As.length = n) (hdep : dd < d) (hm : mL ≤ 41) (hcat : (rest.map fun v => v.category).sum ≤ 8) (hdg : decode cc pc = .ok (.invokespecial idx, 3)) (hf : cells + mc ≤ (rmC d MC MS).cells ∧ slots + ms ≤ (rmC d MC MS).slots) :
    va_Run p l e (rmC d MC MS) s m args below meth c H locs cells slots mc ms (F0 m pc ls st) rest (Qc (Value.ref b :: As).toArray) free :=
  va_runI (As := As) (rest := rest) ⟨C.1, C.2.1, C.2.2.1, C.2.2.2.1, C.2.2.2.2.1⟩ hM
    ⟨callB_of n C.2.2.2.2.1 (gd_tb lk.1) rfl rfl rfl (C.2.2.2.2.1 _ (List.mem_cons_of_mem _ lk.2.2.2.1)) (C.2.2.2.2.1 _ (List.mem_cons_of_mem _ lk.2.1)) lk.2.2.2.2.2 (room_okC hdep hm), lk.2.2.2.2.1, C.2.2.2.2.1 _ (List.mem_cons_of_mem _ lk.2.2.1)⟩
    ⟨gPre.blind, pre_of C hP hD hS⟩ rfl hn hl hst (lv_room hcat) hdg hf
theorem runIN {Qc : Array Value → State → Outcome → State → Prop} {host : String} (C : Cx G p s m args meth c cc nL ret k own A) (lk : lkIN y bytes mL n) (hnest : va_Nw (.methodLinkNest own idx y host) s) (hM : Met l y (Cond.code y bytes mL none :: TB) (rmC dd mc ms) (va_Pc (.ref b :: As) (gPre G H.size w)) Qc mc ms free) (hP : va_P G.1 vwCl w H) (hD : va_D A w) (hS : va_S A s.heap H locs) (hl : ls.size = nL) (hst : st = As.reverse ++ .ref b :: rest) (hn : As.length = n) (hdep : dd < d) (hm : mL ≤ 41) (hcat : (rest.map fun v => v.category).sum ≤ 8) (hdg : decode cc pc = .ok (.invokespecial idx, 3)) (hf : cells + mc ≤ (rmC d MC MS).cells ∧ slots + ms ≤ (rmC d MC MS).slots) :
    va_Run p l e (rmC d MC MS) s m args below meth c H locs cells slots mc ms (F0 m pc ls st) rest (Qc (Value.ref b :: As).toArray) free :=
  va_runIN (As := As) (rest := rest) (Ts := k :: TB) ⟨C.1, C.2.1, C.2.2.1, C.2.2.2.1, C.2.2.2.2.1⟩ hM
    ⟨va_cnB n C.2.2.2.2.1 (gd_tb lk.1) rfl rfl rfl hnest (C.2.2.2.2.1 _ (List.mem_cons_of_mem _ lk.2.2.1)) lk.2.2.2.2 (room_okC hdep hm), lk.2.2.2.1, C.2.2.2.2.1 _ (List.mem_cons_of_mem _ lk.2.1)⟩
    ⟨gPre.blind, pre_of C hP hD hS⟩ rfl hn hl hst (lv_room hcat) hdg hf
/-- behind a maker: its cells beside the rest -/
theorem goN {S : Type} {wS : S → va_W} {av0 : Array Value} (C : Cx G p s m args meth c cc nL ret k own A) (hP : va_P G.1 vwCl w H) (hD : va_D A w) (hS : va_S A s.heap H locs) (isC isR : List Nat) (hC : isC.map (fun i => w[i]?) = wc.map some) (hR : isR.map (fun i => w[i]?) = wr.map some) (hn : va_nd isR = true) (hdis : ∀ i ∈ isR, i ∉ isC)
    (hr : va_Run p l e R s m args below meth c H locs cells slots mc ms (F0 m pc ls st) rest (va_Qv (fun (_ : S) => True) (fun u t => gB G (va_A wc H.size) (wS u) t) (va_A wc H.size) av0) (va_A wc H.size))
    (kk : ∀ (u : S) (H1 : Heap) (locs1 : List Loc), va_P G.1 vwCl (wr ++ wS u) H1 → va_D A (wr ++ wS u) → va_S A s.heap H1 locs1 → W p l e R s m args below meth c H1 locs1 (cells + mc) (slots + ms) Q (F0 m (pc + 3) ls rest)) : W p l e R s m args below meth c H locs cells slots Q (F0 m pc ls st) := by
  have hF := va_free (wc := wc) hD hS C.2.2.2.2.2.2.2.1 isC hC
  refine va_callv hr hS (fun q _ h => hF q h) hF (fun u t H1 locs1 ht _ _ hB _ hk1 hS1 => ?_)
  obtain ⟨b1, b2⟩ := hB
  rw [ht] at b1
  obtain ⟨h1, h2⟩ := va_join (wr := wr) (w1 := wS u) hP hD isC isR hC hR hn hdis hk1 hF b1 b2
  exact kk u H1 locs1 h1 h2 hS1
end
