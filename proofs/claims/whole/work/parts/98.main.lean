/-! at first -/
theorem sgB_far {c : Nat} (h : c ≠ 65) (h' : c ≠ 184) (k : Nat) : sgB c k = 0 := by
  unfold sgB sgA
  rw [up_ne _ _ _ h', up_ne _ _ _ h', up_ne _ _ _ h', up_ne _ _ _ h', up_ne _ _ _ h, up_ne _ _ _ h, up_ne _ _ _ h, up_ne _ _ _ h]
  rfl
theorem sgB_sh : ∀ t : Nat, t < 4 → sgB 65 t = -1 ∧ sgB 184 t = -1 := by
  intro t ht
  unfold sgB sgA
  simp only [up_apply]
  have : t = 0 ∨ t = 1 ∨ t = 2 ∨ t = 3 := by omega
  rcases this with rfl | rfl | rfl | rfl <;> decide
theorem inv_first : Inv sgB := by
  have z : ∀ c k, c ≠ 65 → c ≠ 184 → sgB c k = 0 := fun c k h h' => sgB_far h h' k
  refine ⟨⟨by rw [z 68 0 (by decide) (by decide), z 1 0 (by decide) (by decide)], ?_, ?_, by rw [z 68 43 (by decide) (by decide), z 0 12 (by decide) (by decide)], Or.inl (z 0 12 (by decide) (by decide)), fun q => ?_, fun t ht => ?_⟩, Or.inl (z 0 13 (by decide) (by decide)), Or.inl (z 0 14 (by decide) (by decide)), Or.inl (z 0 15 (by decide) (by decide))⟩
  · rw [z 1 0 (by decide) (by decide)]
    exact ⟨by omega, by omega, fun i hi => by omega⟩
  · rw [z 1 0 (by decide) (by decide)]
    exact fun i hi => by omega
  · rw [z 0 12 (by decide) (by decide)] at q
    exact absurd q (by decide)
  · obtain ⟨e1, e2⟩ := sgB_sh t ht
    rw [z 66 t (by decide) (by decide), z 185 t (by decide) (by decide)]
    exact ⟨by rw [e1, e2], Or.inl e1, rfl, by omega, fun k hk => by omega⟩
