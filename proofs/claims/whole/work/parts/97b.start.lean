/-! from the law's entry to its loop; what is left speaks of the light texts alone -/
theorem law_pre (L : Nat) (xs : Nat → Int) : Cv (mL L xs) 1000 0 192 0 [(0, (2, 192))] [] 0 (nulN 0) z0 (fun pc lc st n nul σ => pc = 16 ∧ lc = [(2, (2, 68)), (1, (2, 0)), (0, (2, 192))] ∧ st = [] ∧ n = 192 ∧ nul = nulN 98 ∧ σ = sgB) := by
  refine Cv_new (v := 0) dL_law_0 nw_RL_7 sh_0 (fun k => z0_z 0 k (by omega)) (nulN_new (by decide +kernel)) (by decide) rfl ?_
  refine Cv_dup dL_law_3 (show ¬ (2 : Nat) = 1 by decide) ?_
  refine Cv_inv (d' := 3) 0 dL_law_4 MI_X9 (Or.inl q_18) (by decide) rfl (Nat.le_of_ble_eq_true rfl) c_0 (by decide) (by decide) (by decide) ?_
  rintro _ _ ⟨rfl, rfl⟩
  refine Cv_astore_n dL_law_7 (show (1 : Nat) < 4 by decide) rfl ?_
  refine Cv_new (v := 68) dL_law_8 nw_RL_10 sh_68 (fun k => sgA_z 68 k (by omega)) (nulN_new (by decide +kernel)) (by decide) rfl ?_
  refine Cv_dup dL_law_11 (show ¬ (2 : Nat) = 1 by decide) ?_
  refine Cv_inv (d' := 1) 68 dL_law_12 MI_X10 (Or.inl q_878) (by decide) rfl (Nat.le_of_ble_eq_true rfl) c_68 (by decide) (by decide) (by decide) ?_
  rintro _ _ ⟨rfl, rfl⟩
  refine Cv_astore_n dL_law_15 (show (2 : Nat) < 4 by decide) rfl ?_
  exact Cv_exit ⟨rfl, rfl, rfl, rfl, rfl, rfl⟩
theorem nul_full : ∀ c, c < 192 → ∀ k, k < nfs (shp c).2 → (shp c).1 = 0 → fty (shp c).2 k = 2 → nulN 98 c k = false := by
  have H : (List.range 192).all (fun c => (List.range 48).all (fun k => !(decide ((shp c).1 = 0) && decide (k < nfs (shp c).2) && decide (fty (shp c).2 k = 2)) || !nulN 98 c k)) = true := by decide +kernel
  have N : ∀ ci, nfs ci ≤ 48 := by
    intro ci
    have H : ∀ l ∈ ftL, l.length ≤ 48 := by decide +kernel
    unfold nfs
    rw [List.getD_eq_getElem?_getD]
    cases h : ftL[ci]? with
    | none => simp
    | some l => exact H l (List.mem_of_getElem? h)
  intro c hc k hk h0 h2
  have h3 := List.all_eq_true.mp H c (List.mem_range.mpr hc)
  have h4 := List.all_eq_true.mp h3 k (List.mem_range.mpr (Nat.lt_of_lt_of_le hk (N _)))
  simpa [h0, hk, h2] using h4
theorem wdP_end (X : MX) (σ : Sg) : wdP X (nulN 98) σ 192 = wd X σ := by
  unfold wdP wd
  refine List.map_congr_left (fun c hc => ?_)
  have hc := List.mem_range.mp hc
  have : entP X (nulN 98 c) (σ c) c = ent X (σ c) c := by
    unfold entP ent
    split
    · rename_i e
      rw [e]
      refine congrArg (fun z => Sum.inr ((shp c).2, z)) (List.map_congr_left (fun k hk => ?_))
      have hk := List.mem_range.mp hk
      rw [if_neg]
      rintro ⟨h1, h2⟩
      rw [nul_full c hc k hk e h1] at h2
      cases h2
    · rfl
  rw [this]
theorem sgB_ok : sgok sgB := by
  have hz : sgok z0 := by
    intro c k
    unfold okt z0
    split
    · exact ok32_0
    · exact ok64_0
    · trivial
  unfold sgB sgA
  have h1 : ∀ k, okt (sty 65 k) (-1) := fun k => by
    have : sty 65 k = 0 := by unfold sty; rw [sh_65]; rfl
    rw [this]; exact ⟨by decide, by decide⟩
  have h2 : ∀ k, okt (sty 184 k) (-1) := fun k => by
    have : sty 184 k = 0 := by unfold sty; rw [sh_184]; rfl
    rw [this]; exact ⟨by decide, by decide⟩
  exact sgok_up (sgok_up (sgok_up (sgok_up (sgok_up (sgok_up (sgok_up (sgok_up hz (h1 _)) (h1 _)) (h1 _)) (h1 _)) (h2 _)) (h2 _)) (h2 _)) (h2 _)
