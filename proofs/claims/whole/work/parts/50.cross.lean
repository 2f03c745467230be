theorem mK_in (D : Nat → Nat → Int) (a b : Nat) : mK D a b = 0 ∨ mK D a b = 1 ∨ mK D a b = 2 ∨ mK D a b = 3 := by
  unfold mK
  by_cases c1 : dT D a b = 0
  · rw [if_pos c1]
    by_cases c2 : uT D a b = 0
    · rw [if_pos c2]
      by_cases c3 : lesB (D 0 (mF D a b)) (D 1 (mF D a b)) (D 2 (mT D a b)) (D 3 (mT D a b)) = true
      · rw [if_pos c3]; omega
      · rw [if_neg c3]
        by_cases c4 : D 0 (mF D a b) = D 2 (mT D a b) ∧ D 1 (mF D a b) = D 3 (mT D a b)
        · rw [if_pos c4]; omega
        · rw [if_neg c4]; omega
    · rw [if_neg c2]; omega
  · rw [if_neg c1]
    by_cases c2 : mIn D a b = true
    · rw [if_pos c2]
      by_cases c3 : mE D a b = true
      · rw [if_pos c3]; omega
      · rw [if_neg c3]; omega
    · rw [if_neg c2]; omega
theorem mXY_all {D : Nat → Nat → Int} {n : Int} {a b : Nat} (h : LsD D n) (ha : (a : Int) < n) (hb : (b : Int) < n) (hk : mK D a b = 1 ∨ mK D a b = 2) : (0 ≤ mX D a b ∧ mX D a b ≤ 256000) ∧ (0 ≤ mY D a b ∧ mY D a b ≤ 256000) ∧ (0 < mD D a b ∧ mD D a b ≤ 3200) := by
  by_cases c1 : dT D a b = 0
  · unfold mX mY mD
    rw [if_pos c1, if_pos c1, if_pos c1]
    obtain ⟨hF, -⟩ := mFT (D := D) (a := a) (b := b)
    obtain ⟨⟨f1, f2, -, -⟩, -⟩ := h.2 (mF D a b) (by omega)
    omega
  · have hi : mIn D a b = true := by
      unfold mK at hk
      rw [if_neg c1] at hk
      apply Decidable.byContradiction
      intro z
      rw [if_neg z] at hk
      omega
    have := mXY_b h ha hb c1 hi
    exact ⟨this.1, this.2.1, this.2.2.1⟩
theorem T_cross {s : Sg} {a b k : Int} (hB : Base s) : w_X9_cross s a b k (fun r1 s1 => w_X10_cross s1 a b k (fun r2 s2 => r1 = r2 ∧ Base s2 ∧ Keep s s2)) := by
  have hLs := Base_LsD hB
  have b1 := hB.1
  have hn : 0 ≤ s 68 0 ∧ s 68 0 ≤ 10 := by have := hLs.1; omega
  have bad : ¬ ((0 ≤ a ∧ a < s 1 0) ∧ (0 ≤ b ∧ b < s 1 0) ∧ a ≠ b ∧ (0 ≤ k ∧ k ≤ 4)) → w_X10_cross s a b k (fun r2 s2 => -2 = r2 ∧ Base s2 ∧ Keep s s2) := by
    intro hno
    unfold w_X10_cross jn
    have fin : (-2 : Int) = -2 ∧ Base s ∧ Keep s s := ⟨rfl, hB, Keep_rfl s⟩
    refine s_X10_isLine hn fun r1 e1 => ⟨fun _ => fin, fun q1 => s_X10_isLine hn fun r3 e3 => ⟨fun _ => fin, fun q3 => ⟨fun _ => fin, fun q => s_X10_in fun r4 e4 => ⟨fun q4 => ?_, fun _ => fin⟩⟩⟩⟩
    rw [b1] at e1 e3
    exact absurd ⟨by rcases e1 with e | e <;> omega, by rcases e3 with e | e <;> omega, q, by rcases e4 with e | e <;> omega⟩ hno
  unfold w_X9_cross jn
  refine s_X2_has fun r1 e1 => ⟨fun q => bad (by rcases e1 with e | e <;> omega), fun q1 => s_X2_has fun r3 e3 => ⟨fun q => bad (by rcases e3 with e | e <;> omega), fun q3 => ⟨fun q => bad (by omega), fun q4 => ⟨fun q => bad (by omega), fun q5 => ⟨fun q6 => ?_, fun q => bad (by omega)⟩⟩⟩⟩⟩
  have ha : 0 ≤ a ∧ a < s 1 0 := by rcases e1 with e | e <;> omega
  have hb : 0 ≤ b ∧ b < s 1 0 := by rcases e3 with e | e <;> omega
  have ea : a = ((a.toNat : Nat) : Int) := by omega
  have eb : b = ((b.toNat : Nat) : Int) := by omega
  have hk : 0 ≤ k ∧ k ≤ 4 := by omega
  have hab : a ≠ b := q4
  clear q1 q3 q4 q5 q6 e1 e3
  generalize a.toNat = a' at ea
  generalize b.toNat = b' at eb
  subst ea eb
  refine s_X3_find hLs (c1 := 1) Base_At (Or.inr (by omega)) ha.2 hb.2 fun t ho hM => ?_
  have hk4 := mK_in (lD s) a' b'
  have hall := fun z => mXY_all hLs ha.2 hb.2 z
  have hat2 : LnAt t 69 (s 1 0) (lD s) := fun i hi => by
    rw [ho 69 (by omega), ho (69 + 1) (by omega), ho (69 + 2) (by omega), ho (69 + 3) (by omega)]
    exact Base_At2 hB i hi
  have t68 : t 68 0 = s 1 0 := by rw [ho 68 (by omega)]; exact b1
  have hnt : 0 ≤ t 68 0 ∧ t 68 0 ≤ 10 := by rw [t68, ← b1]; exact hn
  have ref : ∀ r1, (k = 0 → r1 = mK (lD s) a' b') → (k ≠ 0 → (mK (lD s) a' b' = 0 ∨ mK (lD s) a' b' = 3) → r1 = -3) → ((mK (lD s) a' b' = 1 ∨ mK (lD s) a' b' = 2) → (k = 1 → r1 = w32 (loN (mX (lD s) a' b') (mD (lD s) a' b'))) ∧ (k = 2 → r1 = w32 (loD (mX (lD s) a' b') (mD (lD s) a' b'))) ∧ (k = 3 → r1 = w32 (loN (mY (lD s) a' b') (mD (lD s) a' b'))) ∧ (k = 4 → r1 = w32 (loD (mY (lD s) a' b') (mD (lD s) a' b')))) → w_X10_cross t (a' : Int) (b' : Int) k (fun r2 s2 => r1 = r2 ∧ Base s2 ∧ Keep s s2) := by
    intro r1 g0 g1 g2
    unfold w_X10_cross jn
    refine s_X10_isLine hnt fun r2 e1 => ⟨fun q => by rw [t68] at e1; rcases e1 with e | e <;> omega, fun q1 => s_X10_isLine hnt fun r3 e3 => ⟨fun q => by rw [t68] at e3; rcases e3 with e | e <;> omega, fun q3 => ⟨fun q => absurd q hab, fun _ => s_X10_in fun r4 e4 => ⟨fun _ => ?_, fun q => by rcases e4 with e | e <;> omega⟩⟩⟩⟩
    refine s_X10_meet hLs hat2 ha.2 hb.2 fun u ko km hm => ?_
    have hBu : Base u ∧ Keep s u := by
      refine ⟨Base_scr hB (fun c hc => by unfold bc at hc; rw [ko c (by omega), ho c (by omega)]) (by rw [ko 0 (by omega), ho 0 (by omega)]) (by rw [km 0 (by omega) (by omega) (by omega) (by omega), ho 68 (by omega)]) (by rw [km 43 (by omega) (by omega) (by omega) (by omega), ho 68 (by omega)]), Or.inl ⟨fun c hc => by unfold kc at hc; rw [ko c (by omega), ho c (by omega)], ?_, ?_, ?_⟩⟩
      all_goals rw [ko 0 (by omega), ho 0 (by omega)]
    rw [hm.1]
    refine ⟨fun n0 => ⟨fun e => ⟨g1 n0 (Or.inl e), hBu⟩, fun e => ⟨fun e3 => ?_, fun e3 => ⟨g1 n0 (Or.inr e3), hBu⟩⟩⟩, fun e0 => ⟨g0 e0, hBu⟩⟩
    have h12 : mK (lD s) a' b' = 1 ∨ mK (lD s) a' b' = 2 := by omega
    obtain ⟨m1, m2, m3⟩ := hm.2 h12
    obtain ⟨x1, x2, x3⟩ := hall h12
    obtain ⟨k1, k2, k3, k4⟩ := g2 h12
    rw [m1, m2, m3]
    have h2 : ¬ (2 : Int) = 0 := by omega
    have low : ∀ (x w : Int), (0 ≤ x ∧ x ≤ 256000) → r1 = w32 (if w = 0 then loN x (mD (lD s) a' b') else loD x (mD (lD s) a' b')) → w_X10_lowest x (mD (lD s) a' b') w (fun r_11 => r1 = w32 r_11 ∧ Base u ∧ Keep s u) := by
      intro x w hx hp
      refine s_X10_lowest (by omega) (by omega) ?_
      rw [← loN.eq_1, ← loD.eq_1]
      exact ⟨hp, hBu⟩
    have k14 : k = 1 ∨ k = 2 ∨ k = 3 ∨ k = 4 := by omega
    refine ⟨fun c => ⟨h2, fun d => low _ 0 x2 ?_, fun d => low _ 1 x2 ?_⟩, fun c => ⟨h2, fun d => low _ 0 x1 ?_, fun d => low _ 1 x1 ?_⟩⟩
    · rcases k14 with e | e | e | e
      · omega
      · omega
      · simpa using k3 e
      · subst e; exact absurd (by decide) d
    · rcases k14 with e | e | e | e
      · omega
      · omega
      · subst e; exact absurd d (by decide)
      · simpa using k4 e
    · rcases k14 with e | e | e | e
      · simpa using k1 e
      · subst e; exact absurd (by decide) d
      · omega
      · omega
    · rcases k14 with e | e | e | e
      · subst e; exact absurd d (by decide)
      · simpa using k2 e
      · omega
      · omega
  have place : ∀ (h12 : mK (lD s) a' b' = 1 ∨ mK (lD s) a' b' = 2) (r1 : Int), k ≠ 0 → ((k = 1 → r1 = w32 (loN (mX (lD s) a' b') (mD (lD s) a' b'))) ∧ (k = 2 → r1 = w32 (loD (mX (lD s) a' b') (mD (lD s) a' b'))) ∧ (k = 3 → r1 = w32 (loN (mY (lD s) a' b') (mD (lD s) a' b'))) ∧ (k = 4 → r1 = w32 (loD (mY (lD s) a' b') (mD (lD s) a' b')))) → w_X10_cross t (a' : Int) (b' : Int) k (fun r2 s2 => r1 = r2 ∧ Base s2 ∧ Keep s s2) :=
    fun h12 r1 hk0 g => ref r1 (fun z => absurd z hk0) (fun _ z => by omega) (fun _ => g)
  refine ⟨fun n0 => ?_, fun e0 => ref _ (fun _ => hM.1) (fun z => absurd e0 z) (fun _ => ⟨fun z => by omega, fun z => by omega, fun z => by omega, fun z => by omega⟩)⟩
  unfold w_X3_isAtOnePlace jn
  rw [hM.1]
  have yes : ∀ h12 : mK (lD s) a' b' = 1 ∨ mK (lD s) a' b' = 2, ((1 : Int) = 0 ∨ (1 : Int) = 1) ∧ ((¬ (1 : Int) = 0 → (k = 1 → w_X10_cross t (a' : Int) (b' : Int) k (fun r2 s2 => w32 (t 34 1) = r2 ∧ Base s2 ∧ Keep s s2)) ∧ (k = 2 → w_X10_cross t (a' : Int) (b' : Int) k (fun r2 s2 => w32 (t 34 2) = r2 ∧ Base s2 ∧ Keep s s2)) ∧ (k = 3 → w_X10_cross t (a' : Int) (b' : Int) k (fun r2 s2 => w32 (t 34 3) = r2 ∧ Base s2 ∧ Keep s s2)) ∧ ((k < 1 ∨ 3 < k) → w_X10_cross t (a' : Int) (b' : Int) k (fun r2 s2 => w32 (t 34 4) = r2 ∧ Base s2 ∧ Keep s s2))) ∧ ((1 : Int) = 0 → w_X10_cross t (a' : Int) (b' : Int) k (fun r2 s2 => -3 = r2 ∧ Base s2 ∧ Keep s s2))) := by
    intro h12
    obtain ⟨m1, m2, m3, m4⟩ := hM.2 h12
    rw [m1, m2, m3, m4]
    refine ⟨Or.inr rfl, fun _ => ⟨fun e => place h12 _ n0 ⟨fun _ => rfl, fun z => by omega, fun z => by omega, fun z => by omega⟩, fun e => place h12 _ n0 ⟨fun z => by omega, fun _ => rfl, fun z => by omega, fun z => by omega⟩, fun e => place h12 _ n0 ⟨fun z => by omega, fun z => by omega, fun _ => rfl, fun z => by omega⟩, fun e => place h12 _ n0 ⟨fun z => by omega, fun z => by omega, fun z => by omega, fun _ => rfl⟩⟩, fun z => absurd z (by decide)⟩
  refine ⟨fun e => yes (Or.inl e), fun n1 => ⟨fun n2 => ⟨Or.inl rfl, fun z => absurd rfl z, fun _ => ref _ (fun z => absurd z n0) (fun _ _ => rfl) (fun z => by omega)⟩, fun e => yes (Or.inr e)⟩⟩
