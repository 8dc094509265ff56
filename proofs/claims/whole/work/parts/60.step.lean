/-! the first states stand in the relation, and every call keeps it -/
section
theorem z_lt {x : Int32} {j : Nat} (h : x.toInt = 0) (hj : (j : Int) < x.toInt) : False := by
  rw [h] at hj
  omega
theorem in_D : RD xI mI ∧ BD mI := by
  refine ⟨⟨rfl, rfl, rfl, rfl, rfl, rfl, rfl⟩, ⟨by decide, by decide⟩, ?_, ⟨by decide, by decide⟩, ⟨by decide, by decide⟩, ⟨by decide, by decide⟩, ⟨by decide, by decide⟩⟩
  intro j hj
  exact (z_lt (by decide) hj).elim
theorem in_T : RT xI mI ∧ BT mI ∧ TC xI := by
  refine ⟨⟨rfl, rfl, rfl, rfl, ?_⟩, ⟨⟨by decide, by decide⟩, ⟨by decide, by decide⟩, ⟨by decide, by decide⟩, ?_, ?_, ?_, ?_⟩, Or.inl rfl⟩
  · intro j hj
    rcases (show j = 0 ∨ j = 1 ∨ j = 2 ∨ j = 3 ∨ j = 4 by omega) with rfl | rfl | rfl | rfl | rfl <;> rfl
  · intro j hj
    exact (z_lt (by decide) hj).elim
  · intro i j hi
    exact (z_lt (by decide) hi).elim
  · intro j hj
    rcases (show j = 0 ∨ j = 1 by omega) with rfl | rfl
    · exact ⟨by decide, by decide⟩
    · exact ⟨by decide, by decide⟩
  · intro j h2 hj
    rcases (show j = 2 ∨ j = 3 ∨ j = 4 by omega) with rfl | rfl | rfl
    · exact ⟨by decide, by decide⟩
    · exact ⟨by decide, by decide⟩
    · exact ⟨by decide, by decide⟩
theorem in_B : RB xI mI ∧ BB mI := by
  refine ⟨⟨rfl, rfl, rfl, rfl, ?_⟩, ⟨by decide, by decide⟩, ⟨by decide, by decide⟩, ?_, ?_, ?_⟩
  · intro k j hk
    exact (z_lt (by decide) hk).elim
  · intro j hj
    exact (z_lt (by decide) hj).elim
  · intro k j _ _ _
    exact ⟨rfl, rfl⟩
  · intro k j hk
    exact (z_lt (by decide) hk).elim
theorem in_g1 : ∀ t : Nat, t < 12 → ∀ r : Nat, r < 4 → ∀ f : Nat, f < 12 → (bitv (xI.2 13 (4 * t + r)) f = true ↔ mI.2 11 (12 * t + f) = nI r) := by decide +kernel
theorem in_g2 : ∀ t : Nat, t < 12 → ∀ r : Nat, r < 4 → (0 ≤ (xI.2 13 (4 * t + r)).toInt ∧ (xI.2 13 (4 * t + r)).toInt ≤ 4095) := by decide +kernel
theorem in_F : RF xI mI ∧ BF mI := by
  refine ⟨⟨rfl, rfl, rfl, rfl, rfl, fun t r f ht hr hf => in_g1 t ht r hr f hf, fun t r ht hr => in_g2 t ht r hr⟩, ⟨by decide, by decide⟩, ⟨by decide, by decide⟩, ⟨0, by decide, rfl⟩, ?_, ?_, ?_⟩
  · intro j hj
    exact (z_lt (by decide) hj).elim
  · intro j hj
    exact (z_lt (by decide) hj).elim
  · intro t f _ _
    exact ⟨(by decide : (0 : Int) ≤ (0 : Int32).toInt), (by decide : (0 : Int32).toInt ≤ (3 : Int))⟩
theorem in_Rel : Rel xI mI := ⟨in_D, in_T, in_B, in_F⟩
theorem step_all {N : Nat} (hN : 5000 ≤ N) : StepOk N Rel := by
  intro k X M a b c h hk
  have h1 : 10 ≤ N := by omega
  have h2 : 20 ≤ N := by omega
  have h3 : 100 ≤ N := by omega
  have h4 : 200 ≤ N := by omega
  have h5 : 300 ≤ N := by omega
  have h6 : 2000 ≤ N := by omega
  rcases (show k = 0 ∨ k = 1 ∨ k = 2 ∨ k = 3 ∨ k = 4 ∨ k = 5 ∨ k = 6 ∨ k = 7 ∨ k = 8 ∨ k = 9 ∨ k = 10 ∨ k = 11 ∨ k = 12 ∨ k = 13 ∨ k = 14 ∨ k = 15 ∨ k = 16 ∨ k = 17 ∨ k = 18 ∨ k = 19 ∨ k = 20 ∨ k = 21 ∨ k = 22 ∨ k = 23 ∨ k = 24 ∨ k = 25 ∨ k = 26 ∨ k = 27 ∨ k = 28 ∨ k = 29 ∨ k = 30 ∨ k = 31 by omega) with rfl | rfl | rfl | rfl | rfl | rfl | rfl | rfl | rfl | rfl | rfl | rfl | rfl | rfl | rfl | rfl | rfl | rfl | rfl | rfl | rfl | rfl | rfl | rfl | rfl | rfl | rfl | rfl | rfl | rfl | rfl | rfl
  · exact op_station (N := N) a b h
  · exact op_plan (N := N) a b h
  · exact op_oscillator (N := N) a h
  · exact op_spurs (N := N) a h3 h
  · exact op_spur (N := N) a b c h3 h
  · exact op_image (N := N) a b h
  · exact op_worst (N := N) a h6 h
  · exact op_birdies (N := N) h3 h
  · exact op_load (N := N) a h3 h
  · exact op_best (N := N) a b c h5 h
  · exact op_gang (N := N) a b h
  · exact op_part (N := N) a b h
  · exact op_tuned (N := N) a b h3 h
  · exact op_error (N := N) a h3 h
  · exact op_point (N := N) a b h3 h
  · exact op_off (N := N) h3 h
  · exact op_trimmed (N := N) a b hN h
  · exact op_mark (N := N) a h4 h
  · exact op_set (N := N) h1 h
  · exact op_offBy (N := N) a b c h
  · exact op_ofSet (N := N) a b c h
  · exact op_errorOf (N := N) a h3 h
  · exact op_sheet (N := N) a b h
  · exact op_round (N := N) a h3 h
  · exact op_align (N := N) a h3 h
  · exact op_fault (N := N) a h
  · exact op_test (N := N) a h
  · exact op_reading (N := N) a b c h2 h
  · exact op_read (N := N) a b h2 h
  · exact op_again (N := N) h2 h
  · exact op_left (N := N) a hN h
  · exact op_count (N := N) a h3 h
end
