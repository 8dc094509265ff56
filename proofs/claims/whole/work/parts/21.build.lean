/-! worlds side by side; a set is made -/
section
variable {G : GP} {p : Program} {l : Launch} {e : Env} {R : Room} {s : State} {m : MethodId} {args : Array Value} {below : List Frame} {meth : Method} {c : Code} {H H1 : Heap} {locs : List Loc} {cells slots : Nat} {Q : State → Prop} {cc : ByteArray} {nL : Nat} {ret : Option FieldType} {k : Cond} {own : String} {A : Nat → Prop} {pc : Nat} {ls : Array Slot} {rest : List Value} {w w' x : va_W} {y : MethodName} {d : Nat} {av : List Value} {D : va_G} {cl : List vw_C}
theorem pfP (h : va_P D cl (w ++ x) H) : va_P D cl w H := fun k q hk => h k q (by rw [List.getElem?_append_left (List.getElem?_eq_some_iff.mp hk).1]; exact hk)
theorem sfP (h : va_P D cl (w ++ x) H) : va_P D cl x H := fun k q hk => h (w.length + k) q (by rw [List.getElem?_append_right (Nat.le_add_right _ _), Nat.add_sub_cancel_left]; exact hk)
theorem pfD (h : va_D A (w ++ x)) : va_D A w := by
  have hg : ∀ (k : Nat) (q : Nat × va_E), w[k]? = some q → (w ++ x)[k]? = some q := fun k q hk => by rw [List.getElem?_append_left (List.getElem?_eq_some_iff.mp hk).1]; exact hk
  exact ⟨fun i j p q hi hj e => h.1 i j p q (hg i p hi) (hg j q hj) e, fun k q hk => h.2 k q (hg k q hk)⟩
theorem sfD (h : va_D A (w ++ x)) : va_D A x := by
  have hg : ∀ (k : Nat) (q : Nat × va_E), x[k]? = some q → (w ++ x)[w.length + k]? = some q := fun k q hk => by rw [List.getElem?_append_right (Nat.le_add_right _ _), Nat.add_sub_cancel_left]; exact hk
  exact ⟨fun i j p q hi hj e => by have := h.1 _ _ p q (hg i p hi) (hg j q hj) e; omega, fun k q hk => h.2 _ q (hg k q hk)⟩
theorem apD (h : va_D A (w ++ x)) : ∀ (i j : Nat) (p q : Nat × va_E), w[i]? = some p → x[j]? = some q → p.1 ≠ q.1 := fun i j p q hi hj e => by
  have hi' := (List.getElem?_eq_some_iff.mp hi).1
  have := h.1 i (w.length + j) p q (by rw [List.getElem?_append_left hi']; exact hi) (by rw [List.getElem?_append_right (Nat.le_add_right _ _), Nat.add_sub_cancel_left]; exact hj) e
  omega
theorem swP (h : va_P D cl (w ++ x) H) : va_P D cl (x ++ w) H := (sfP h).app (pfP h)
theorem swD (h : va_D A (w ++ x)) : va_D A (x ++ w) := (sfD h).app (pfD h) (fun i j p q hi hj e => apD h j i q p hj hi e.symm)
theorem jnL (hP : va_P D cl (w ++ x) H) (hD : va_D A (w ++ x)) (hk : ∀ q : Nat, q < H.size → ¬ va_A w H.size q → H1[q]? = H[q]?) (hF : ∀ q, va_A w H.size q → A q) (hP1 : va_P D cl w' H1) (hD1 : va_D (va_A w H.size) w') : va_P D cl (w' ++ x) H1 ∧ va_D A (w' ++ x) := by
  have hx := sfP hP
  have key : ∀ (j : Nat) (q : Nat × va_E), x[j]? = some q → q.1 < H.size ∧ ¬ va_A w H.size q.1 := fun j q hj => by
    have h1 := (hx j q hj).lt
    refine ⟨h1, fun h2 => ?_⟩
    rcases h2 with ⟨i, e, hi⟩ | h2
    · exact apD hD i j _ q hi hj rfl
    · omega
  refine ⟨hP1.app (hx.kept (fun j q hj => hk q.1 (key j q hj).1 (key j q hj).2)), ?_⟩
  exact (hD1.weaken (fun _ _ _ h => hF _ h)).app (sfD hD) (fun i j p q hi hj e => (key j q hj).2 (e ▸ hD1.2 i p hi))
theorem frL (hD : va_D A (w ++ x)) (hS : va_S A s.heap H locs) (hA : ∀ q : Nat, s.heap.size ≤ q → A q) : ∀ q, va_A w H.size q → A q := fr_sub (pfD hD) hS hA
variable {idx : Nat} {C0 : String} {bytes : ByteArray} {mL : Nat} {rt : Option FieldType} {n dd mc ms : Nat} {As : List Value} {b : Nat} {st : List Value} {free : Addr → Prop} {av0 : Array Value} {rm : Room}
theorem runVg {Qc : Array Value → State → Outcome → State → Prop} (C : Cx G p s m args meth c cc nL ret k own A) (lk : lkV own idx C0 y bytes mL rt n) (hM : Met l y (Cond.code y bytes mL rt :: TB) rm (va_Pc (.ref b :: As) (gPre G H.size w)) Qc mc ms free) (hP : va_P G.1 vwCl w H) (hD : va_D A w) (hS : va_S A s.heap H locs) (hr : ∃ cell : Cell, H[b]? = some cell ∧ cell.vm.isStatics = false ∧ s.vm.findClass C0 = some cell.cls) (hl : ls.size = nL) (hst : st = As.reverse ++ .ref b :: rest) (hn : As.length = n) (hrc : rm.cells = mc) (hrs : rm.slots = ms) (hR : rm.frames + 1 ≤ R.frames ∧ 8 + (mL + 11) + rm.locals ≤ R.locals) (hcat : (rest.map fun v => v.category).sum ≤ 8) (hdg : decode cc pc = .ok (.invokevirtual idx, 3)) (hf : cells + mc ≤ R.cells ∧ slots + ms ≤ R.slots) :
    va_Run p l e R s m args below meth c H locs cells slots mc ms (F0 m pc ls st) rest (Qc (Value.ref b :: As).toArray) free :=
  va_runV (As := As) (rest := rest) (C := C0) ⟨C.1, C.2.1, C.2.2.1, C.2.2.2.1, C.2.2.2.2.1⟩ hM
    ⟨callB_of n C.2.2.2.2.1 (gd_tb lk.1) rfl hrc hrs (C.2.2.2.2.1 _ (List.mem_cons_of_mem _ lk.2.2.2.2.1)) (C.2.2.2.2.1 _ (List.mem_cons_of_mem _ lk.2.1)) lk.2.2.2.2.2 hR, C.2.2.2.2.1 _ (List.mem_cons_of_mem _ lk.2.2.1), C.2.2.2.2.1 _ (List.mem_cons_of_mem _ lk.2.2.2.1)⟩
    ⟨gPre.blind, hr, pre_of C hP hD hS⟩ rfl hn hl hst (lv_room hcat) hdg hf
theorem goQf {r : Option Nat} (C : Cx G p s m args meth c cc nL ret k own A) (hP : va_P G.1 vwCl (w ++ x) H) (hD : va_D A (w ++ x)) (hS : va_S A s.heap H locs)
    (hr : va_Run p l e R s m args below meth c H locs cells slots 0 0 (F0 m pc ls st) rest (va_Qq (fun (r' : Option Nat) (_ : Unit) => r' = r) (fun _ t => gB G (va_A w H.size) w' t) (va_A w H.size) av0) (va_A w H.size))
    (kk : ∀ (H1 : Heap) (locs1 : List Loc), va_P G.1 vwCl (w' ++ x) H1 → va_D A (w' ++ x) → va_S A s.heap H1 locs1 → W p l e R s m args below meth c H1 locs1 cells slots Q (F0 m (pc + 3) ls (va_rf r :: rest))) : W p l e R s m args below meth c H locs cells slots Q (F0 m pc ls st) := by
  have hF := frL hD hS C.2.2.2.2.2.2.2.1
  refine va_callq hr hS (fun q _ h => hF q h) hF (fun r' u t H1 locs1 ht _ hw hB _ hk1 hS1 => ?_)
  subst hw
  obtain ⟨b1, b2⟩ := hB
  rw [ht] at b1
  obtain ⟨h1, h2⟩ := jnL hP hD hk1 hF b1 b2
  exact kk H1 locs1 h1 h2 hS1
theorem goIf {r : Int32} {S : Type} {wS : S → va_W} (C : Cx G p s m args meth c cc nL ret k own A) (hP : va_P G.1 vwCl (w ++ x) H) (hD : va_D A (w ++ x)) (hS : va_S A s.heap H locs)
    (hr : va_Run p l e R s m args below meth c H locs cells slots mc ms (F0 m pc ls st) rest (va_Qi (fun (r' : Int32) (_ : S) => r' = r) (fun u t => gB G (va_A w H.size) (wS u) t) (va_A w H.size) av0) (va_A w H.size))
    (kk : ∀ (u : S) (H1 : Heap) (locs1 : List Loc), va_P G.1 vwCl (wS u ++ x) H1 → va_D A (wS u ++ x) → va_S A s.heap H1 locs1 → W p l e R s m args below meth c H1 locs1 (cells + mc) (slots + ms) Q (F0 m (pc + 3) ls (.int r :: rest))) : W p l e R s m args below meth c H locs cells slots Q (F0 m pc ls st) := by
  have hF := frL hD hS C.2.2.2.2.2.2.2.1
  refine va_calli hr hS (fun q _ h => hF q h) hF (fun r' u t H1 locs1 ht _ hw hB _ hk1 hS1 => ?_)
  subst hw
  obtain ⟨b1, b2⟩ := hB
  rw [ht] at b1
  obtain ⟨h1, h2⟩ := jnL hP hD hk1 hF b1 b2
  exact kk u H1 locs1 h1 h2 hS1
theorem goNw {S : Type} {wS : S → va_W} (C : Cx G p s m args meth c cc nL ret k own A) (hD : va_D A w) (hS : va_S A s.heap H locs)
    (hr : va_Run p l e R s m args below meth c H locs cells slots mc ms (F0 m pc ls st) rest (va_Qv (fun (_ : S) => True) (fun u t => gB G (va_A w H.size) (wS u) t) (va_A w H.size) av0) (va_A w H.size))
    (kk : ∀ (u : S) (H1 : Heap) (locs1 : List Loc), va_P G.1 vwCl (wS u) H1 → va_D A (wS u) → va_S A s.heap H1 locs1 → W p l e R s m args below meth c H1 locs1 (cells + mc) (slots + ms) Q (F0 m (pc + 3) ls rest)) : W p l e R s m args below meth c H locs cells slots Q (F0 m pc ls st) := by
  have hF := fr_sub hD hS C.2.2.2.2.2.2.2.1
  refine va_callv hr hS (fun q _ h => hF q h) hF (fun u t H1 locs1 ht _ _ hB _ _ hS1 => ?_)
  obtain ⟨b1, b2⟩ := hB
  rw [ht] at b1
  exact kk u H1 locs1 b1 (b2.weaken (fun _ _ _ h => hF _ h)) hS1
/-! lists with a fixed part ahead -/
theorem ixr {α : Type} {a b : List α} {i : Nat} : (a ++ b)[a.length + i]? = b[i]? := by
  rw [List.getElem?_append_right (Nat.le_add_right _ _), Nat.add_sub_cancel_left]
theorem str {α : Type} {a b : List α} {i : Nat} {z : α} : (a ++ b).set (a.length + i) z = a ++ b.set i z := by
  rw [List.set_append_right _ _ (Nat.le_add_right _ _), Nat.add_sub_cancel_left]
theorem ixl {α : Type} {a b : List α} {i : Nat} {z : α} (h : a[i]? = some z) : (a ++ b)[i]? = some z := by
  rw [List.getElem?_append_left (List.getElem?_eq_some_iff.mp h).1]; exact h
theorem stl {α : Type} {a b : List α} {i : Nat} {z : α} (h : i < a.length) : (a ++ b).set i z = a.set i z ++ b := List.set_append_left _ _ h
theorem nmI (hK : gK G s) : s.vm.findClass "[I" = some G.2.1 := (hK.2 0 (G.2.1, .int) rfl).2
theorem fitI {cA : ClassId} {N' : Nat} {f : Nat → Int32} : ∀ (i : Nat) (v : Value), (vp_cell cA (N', .inl f)).slots[i]? = some v → fits .int v = true := fun i v h => by
  have hi : i < N' := by
    have h1 := (Array.getElem?_eq_some_iff.mp h).1
    have h2 : (vp_cell cA (N', .inl f)).slots.size = N' := arrV_size _ _ _
    omega
  have h3 : (vp_cell cA (N', .inl f)).slots[i]? = some (.int (f i)) := arrV_read cA (fun j => .int (f j)) hi
  rw [h3] at h
  cases h
  rfl
end
