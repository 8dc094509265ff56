/-! what the tally and the reference keep of the list -/
section
variable {N : Nat} {M M' X X' σ : St}
theorem Rel_DM (h : Rel X M) (d : DM M' M) : Rel X M' := by
  have e := d.2
  unfold Rel RD BD RT BT RB BB RF BF at h ⊢
  simp only [d.1 0 (by decide), d.1 1 (by decide), d.1 2 (by decide), d.1 3 (by decide), d.1 4 (by decide), d.1 5 (by decide), d.1 6 (by decide), d.1 7 (by decide), d.1 8 (by decide), d.1 9 (by decide), d.1 10 (by decide), d.1 11 (by decide), d.1 12 (by decide), e]
  exact h
theorem Rel_DX (h : Rel X M) (d : DX X' X) : Rel X' M := by
  have a1 : ∀ k : Nat, X'.2 (15 + 4 * k) = X.2 (15 + 4 * k) := fun k => d.2 _ (by omega)
  have a2 : ∀ k : Nat, X'.2 (16 + 4 * k) = X.2 (16 + 4 * k) := fun k => d.2 _ (by omega)
  have a3 : ∀ k : Nat, X'.2 (17 + 4 * k) = X.2 (17 + 4 * k) := fun k => d.2 _ (by omega)
  have a4 : ∀ k : Nat, X'.2 (18 + 4 * k) = X.2 (18 + 4 * k) := fun k => d.2 _ (by omega)
  unfold Rel RD BD RT BT TC RB BB RF BF at h ⊢
  simp only [d.1 0 (Or.inl rfl), d.1 6 (by decide), d.1 7 (by decide), d.1 8 (by decide), d.1 9 (by decide), d.1 10 (by decide), d.1 11 (by decide), d.1 12 (by decide), d.1 13 (by decide), d.1 14 (by decide), d.2 0 (by decide), d.2 1 (by decide), d.2 2 (by decide), d.2 4 (by decide), d.2 5 (by decide), d.2 8 (by decide), d.2 9 (by decide), d.2 10 (by decide), d.2 11 (by decide), d.2 12 (by decide), d.2 13 (by decide), a1, a2, a3, a4]
  exact h
theorem DX_rf : DX X X := ⟨fun _ _ => rfl, fun _ _ => rfl⟩
theorem DM_rf : DM M M := ⟨fun _ _ => rfl, rfl⟩
theorem DX_tr {A B C : St} (h1 : DX A B) (h2 : DX B C) : DX A C := ⟨fun k hk => (h1.1 k hk).trans (h2.1 k hk), fun a ha => (h1.2 a ha).trans (h2.2 a ha)⟩
theorem DM_tr {A B C : St} (h1 : DM A B) (h2 : DM B C) : DM A C := ⟨fun k hk => (h1.1 k hk).trans (h2.1 k hk), h1.2.trans h2.2⟩
/-! the reference -/
theorem fM_cnt (w : Int32) : ∀ (l : List E4) (c : Nat) (s : St), (l.foldl (stM w) (nI c, s)).1 = nI (c + l.length) := by
  intro l
  induction l with
  | nil => intro c s; rfl
  | cons e l ih =>
    intro c s
    show (l.foldl (stM w) (nI c + 1, _)).1 = _
    rw [nI_1, ih (c + 1)]
    congr 1
    rw [List.length_cons]
    omega
theorem fM_past (w : Int32) : ∀ (l : List E4) (c : Nat) (s : St), (∀ z : Nat, c ≤ z → z < c + l.length → ¬ nI z = w) → (l.foldl (stM w) (nI c, s)).2 = s := by
  intro l
  induction l with
  | nil => intro c s _; rfl
  | cons e l ih =>
    intro c s h
    have hc := h c (by omega) (by rw [List.length_cons]; omega)
    show (l.foldl (stM w) (nI c + 1, if nI c = w then recM s e else s)).2 = s
    rw [nI_1, if_neg hc]
    exact ih (c + 1) s (fun z h1 h2 => h z (by omega) (by rw [List.length_cons]; omega))
theorem fM_at {k : Nat} {e : E4} (hk : k < 100000) : ∀ (l : List E4) (c : Nat) (s : St), c + l.length < 100000 → c ≤ k → l[k - c]? = some e → (l.foldl (stM (nI k)) (nI c, s)).2 = recM s e := by
  intro l
  induction l with
  | nil => intro c s _ _ h; simp at h
  | cons a l ih =>
    intro c s hl hc h
    rw [List.length_cons] at hl
    show (l.foldl (stM (nI k)) (nI c + 1, if nI c = nI k then recM s a else s)).2 = _
    rw [nI_1]
    by_cases e0 : c = k
    · subst e0
      rw [Nat.sub_self] at h
      cases h
      rw [if_pos rfl]
      exact fM_past _ l (c + 1) _ (fun z h1 h2 he => by have := (nI_eq (by omega) (by omega)).mp he; omega)
    · rw [if_neg (fun he => e0 ((nI_eq (by omega) (by omega)).mp he))]
      refine ih (c + 1) s (by omega) (by omega) ?_
      rw [show k - c = (k - (c + 1)) + 1 by omega] at h
      simpa using h
/-! the tally -/
theorem tk_1 {e : E4} {wt : Int32} : (tkS σ e wt).1 1 = σ.1 1 := by
  show (tkH (tkF σ e wt) wt).1 1 = _
  unfold tkH tkF
  split <;> split <;> rfl
theorem tk_2 {e : E4} {wt : Int32} : (tkS σ e wt).1 2 = σ.1 2 + 1 := rfl
theorem tk_3 {e : E4} {wt : Int32} : (tkS σ e wt).1 3 = σ.1 3 + wt := rfl
theorem tk_4 {e : E4} {wt : Int32} : (tkS σ e wt).1 4 = if wt ≤ σ.1 5 then σ.1 4 else σ.1 2 := by
  show (tkH (tkF σ e wt) wt).1 4 = _
  unfold tkH tkF
  by_cases c : σ.1 2 = σ.1 1
  · rw [if_pos c]
    by_cases c2 : wt ≤ σ.1 5
    · rw [if_pos (show wt ≤ (sA (sA (sA (sA (sA σ 3 0 e.1) 3 1 e.2.1) 3 2 e.2.2.1) 3 3 e.2.2.2) 3 4 wt).1 5 from c2), if_pos c2]; rfl
    · rw [if_neg (show ¬ wt ≤ (sA (sA (sA (sA (sA σ 3 0 e.1) 3 1 e.2.1) 3 2 e.2.2.1) 3 3 e.2.2.2) 3 4 wt).1 5 from c2), if_neg c2]; rfl
  · rw [if_neg c]
    by_cases c2 : wt ≤ σ.1 5
    · rw [if_pos c2, if_pos c2]
    · rw [if_neg c2, if_neg c2]; rfl
theorem tk_5 {e : E4} {wt : Int32} : (tkS σ e wt).1 5 = if wt ≤ σ.1 5 then σ.1 5 else wt := by
  show (tkH (tkF σ e wt) wt).1 5 = _
  unfold tkH tkF
  by_cases c : σ.1 2 = σ.1 1
  · rw [if_pos c]
    by_cases c2 : wt ≤ σ.1 5
    · rw [if_pos (show wt ≤ (sA (sA (sA (sA (sA σ 3 0 e.1) 3 1 e.2.1) 3 2 e.2.2.1) 3 3 e.2.2.2) 3 4 wt).1 5 from c2), if_pos c2]; rfl
    · rw [if_neg (show ¬ wt ≤ (sA (sA (sA (sA (sA σ 3 0 e.1) 3 1 e.2.1) 3 2 e.2.2.1) 3 3 e.2.2.2) 3 4 wt).1 5 from c2), if_neg c2]; rfl
  · rw [if_neg c]
    by_cases c2 : wt ≤ σ.1 5
    · rw [if_pos c2, if_pos c2]
    · rw [if_neg c2, if_neg c2]; rfl
theorem tk_f {e : E4} {wt : Int32} : (tkS σ e wt).2 3 = if σ.1 2 = σ.1 1 then upd (upd (upd (upd (upd (σ.2 3) 0 e.1) 1 e.2.1) 2 e.2.2.1) 3 e.2.2.2) 4 wt else σ.2 3 := by
  show (tkH (tkF σ e wt) wt).2 3 = _
  have h2 : ∀ s : St, (tkH s wt).2 = s.2 := fun s => by unfold tkH; split <;> rfl
  rw [h2]
  unfold tkF
  split
  · simp only [sA_eq]
  · rfl
theorem fX_cnt : ∀ (l : List E4) (c : Nat) (s : St), s.1 2 = nI c → (l.foldl (stX M) s).1 2 = nI (c + l.length) := by
  intro l
  induction l with
  | nil => intro c s h; exact h
  | cons e l ih =>
    intro c s h
    show (l.foldl (stX M) (stX M s e)).1 2 = _
    rw [ih (c + 1) _ (by show s.1 2 + 1 = _; rw [h, nI_1]), List.length_cons]
    congr 1
    omega
theorem fX_wt : ∀ (l : List E4) (s : St), (l.foldl (stX M) s).1 3 = l.foldl (fun a e => a + wtS M e) (s.1 3) := by
  intro l
  induction l with
  | nil => intro s; rfl
  | cons e l ih => intro s; exact ih (stX M s e)
theorem fX_past : ∀ (l : List E4) (c k : Nat) (s : St), s.1 2 = nI c → s.1 1 = nI k → k < c → c + l.length < 100000 → (l.foldl (stX M) s).2 3 = s.2 3 := by
  intro l
  induction l with
  | nil => intro c k s _ _ _ _; rfl
  | cons e l ih =>
    intro c k s h1 h2 hk hl
    rw [List.length_cons] at hl
    show (l.foldl (stX M) (stX M s e)).2 3 = _
    rw [ih (c + 1) k _ (by show s.1 2 + 1 = _; rw [h1, nI_1]) (by show (tkS s e _).1 1 = _; rw [tk_1, h2]) (by omega) (by omega)]
    show (tkS s e _).2 3 = _
    rw [tk_f, if_neg]
    rw [h1, h2]
    exact fun he => by have := (nI_eq (by omega) (by omega)).mp he; omega
theorem fX_at {k : Nat} {e : E4} : ∀ (l : List E4) (c : Nat) (s : St), s.1 2 = nI c → s.1 1 = nI k → c ≤ k → k < 100000 → c + l.length < 100000 → l[k - c]? = some e → (l.foldl (stX M) s).2 3 0 = e.1 ∧ (l.foldl (stX M) s).2 3 1 = e.2.1 ∧ (l.foldl (stX M) s).2 3 2 = e.2.2.1 ∧ (l.foldl (stX M) s).2 3 3 = e.2.2.2 ∧ (l.foldl (stX M) s).2 3 4 = wtS M e := by
  intro l
  induction l with
  | nil => intro c s _ _ _ _ _ h; simp at h
  | cons a l ih =>
    intro c s h1 h2 hc hk hl h
    rw [List.length_cons] at hl
    have e1 : (stX M s a).1 2 = nI (c + 1) := by show s.1 2 + 1 = _; rw [h1, nI_1]
    have e2 : (stX M s a).1 1 = nI k := by show (tkS s a _).1 1 = _; rw [tk_1, h2]
    show (l.foldl (stX M) (stX M s a)).2 3 0 = _ ∧ (l.foldl (stX M) (stX M s a)).2 3 1 = _ ∧ (l.foldl (stX M) (stX M s a)).2 3 2 = _ ∧ (l.foldl (stX M) (stX M s a)).2 3 3 = _ ∧ (l.foldl (stX M) (stX M s a)).2 3 4 = _
    by_cases e0 : c = k
    · subst e0
      rw [Nat.sub_self] at h
      cases h
      rw [fX_past l (c + 1) c _ e1 e2 (by omega) (by omega)]
      have ef : (stX M s e).2 3 = _ := tk_f
      rw [ef, h1, h2, if_pos rfl]
      exact ⟨rfl, rfl, rfl, rfl, rfl⟩
    · refine ih (c + 1) _ e1 e2 (by omega) hk (by omega) ?_
      rw [show k - c = (k - (c + 1)) + 1 by omega] at h
      simpa using h
end
