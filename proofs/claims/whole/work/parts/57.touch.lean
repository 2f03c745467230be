/-! where two touch is an end -/
theorem lo_mul {x w : Int} (hx : 0 ≤ x) (hw : 0 < w) : loN (x * w) w = x ∧ loD (x * w) w = 1 := by
  have hg : Nat.gcd (x * w).natAbs w.natAbs = w.natAbs := by
    rw [Int.natAbs_mul]
    exact Nat.gcd_eq_right (Nat.dvd_mul_left _ _)
  have ew : ((w.natAbs : Nat) : Int) = w := by omega
  unfold loN loD
  rw [hg, ew]
  exact ⟨Int.mul_tdiv_cancel x (by omega), Int.tdiv_self (by omega)⟩
def endA (D : Nat → Nat → Int) (i : Nat) : Int × Int × Int × Int := (D 0 i, 1, D 1 i, 1)
def endB (D : Nat → Nat → Int) (i : Nat) : Int × Int × Int × Int := (D 2 i, 1, D 3 i, 1)
def mtP (D : Nat → Nat → Int) (a b : Nat) : Int × Int × Int × Int := loP (mX D a b) (mY D a b) (mD D a b)
theorem mtP_sw (D : Nat → Nat → Int) (a b : Nat) : mtP D b a = mtP D a b := by
  unfold mtP
  rw [(mXY_sw D a b).1, (mXY_sw D a b).2.1, (mXY_sw D a b).2.2]
theorem end_1 {D : Nat → Nat → Int} {n : Int} {a b : Nat} (h : LsD D n) (ha : (a : Int) < n) (hb : (b : Int) < n) (hd : ¬ dT D a b = 0) (hi : mIn D a b = true) : (mS D a b * tT D a b = 0 → mtP D a b = endA D a) ∧ (mS D a b * tT D a b = mS D a b * dT D a b → mtP D a b = endB D a) := by
  have hB := mXY_b h ha hb hd hi
  obtain ⟨⟨a1, a2, a3, a4⟩, hl⟩ := h.2 a ha
  have hw : 0 < mS D a b * dT D a b := by
    have := hB.2.2.1.1
    unfold mD at this
    rw [if_neg hd] at this
    exact this
  unfold mtP loP endA endB mX mY mD
  rw [if_neg hd, if_neg hd, if_neg hd]
  refine ⟨fun e => ?_, fun e => ?_⟩
  · rw [e, Int.zero_mul, Int.zero_mul, Int.add_zero, Int.add_zero, (lo_mul a1.1 hw).1, (lo_mul a1.1 hw).2, (lo_mul a2.1 hw).1, (lo_mul a2.1 hw).2]
  · rw [e]
    have e1 : D 0 a * (mS D a b * dT D a b) + mS D a b * dT D a b * mr D a = D 2 a * (mS D a b * dT D a b) := by unfold mr; grind
    have e2 : D 1 a * (mS D a b * dT D a b) + mS D a b * dT D a b * ms D a = D 3 a * (mS D a b * dT D a b) := by unfold ms; grind
    rw [e1, e2, (lo_mul a3.1 hw).1, (lo_mul a3.1 hw).2, (lo_mul a4.1 hw).1, (lo_mul a4.1 hw).2]
theorem touch_end {D : Nat → Nat → Int} {n : Int} {a b : Nat} (h : LsD D n) (ha : (a : Int) < n) (hb : (b : Int) < n) (hk : mK D a b = 2) : ∃ i, (i = a ∨ i = b) ∧ (mtP D a b = endA D i ∨ mtP D a b = endB D i) := by
  by_cases c : dT D a b = 0
  · refine ⟨mF D a b, mFT.1, Or.inl ?_⟩
    unfold mtP loP endA mX mY mD
    rw [if_pos c, if_pos c, if_pos c, (lo_1 _).1, (lo_1 _).2, (lo_1 _).1, (lo_1 _).2]
  · have hi : mIn D a b = true := by
      unfold mK at hk
      rw [if_neg c] at hk
      apply Decidable.byContradiction
      intro z
      rw [if_neg z] at hk
      omega
    have he : mE D a b = true := by
      unfold mK at hk
      rw [if_neg c, if_pos hi] at hk
      apply Decidable.byContradiction
      intro z
      rw [if_neg z] at hk
      omega
    have h1 := end_1 h ha hb c hi
    have c' : ¬ dT D b a = 0 := by have := dT_sw D a b; omega
    obtain ⟨e1, e2, e3⟩ := mSd_sw D a b c
    have hI : mIn D b a = true := by
      rw [mIn_iff] at hi ⊢
      rw [e1, e2, e3]
      omega
    have h2 := end_1 h hb ha c' hI
    rw [e1, e2, mtP_sw D a b] at h2
    rw [mE_iff] at he
    rcases he with e | e | e | e
    · exact ⟨a, Or.inl rfl, Or.inl (h1.1 e)⟩
    · exact ⟨a, Or.inl rfl, Or.inr (h1.2 e)⟩
    · exact ⟨b, Or.inr rfl, Or.inl (h2.1 e)⟩
    · exact ⟨b, Or.inr rfl, Or.inr (h2.2 e)⟩
/-- the places that are points -/
def IsEnd (D : Nat → Nat → Int) (n : Nat) (p : Int × Int × Int × Int) : Prop := ∃ i, i < n ∧ (p = endA D i ∨ p = endB D i)
def IsX (D : Nat → Nat → Int) (n : Nat) (p : Int × Int × Int × Int) : Prop := ∃ i j, i < j ∧ j < n ∧ mK D i j = 1 ∧ p = mtP D i j
def PtsOf (D : Nat → Nat → Int) (n : Nat) (f : Nat → Int × Int × Int × Int) (m : Nat) : Prop := RowP f m ∧ (∀ j, j < m → IsEnd D n (f j) ∨ IsX D n (f j)) ∧ ∀ p, (IsEnd D n p ∨ IsX D n p) → ∃ j, j < m ∧ f j = p
theorem Pts_one {D : Nat → Nat → Int} {n m k : Nat} {f g : Nat → Int × Int × Int × Int} (hf : PtsOf D n f m) (hg : PtsOf D n g k) : m = k ∧ ∀ j, j < m → f j = g j := by
  refine seq_unique ltP_irr ltP_tr hf.1.1 hg.1.1 (fun i hi => ?_) (fun j hj => ?_)
  · obtain ⟨j, hj, e⟩ := hg.2.2 _ (hf.2.1 i hi)
    exact ⟨j, hj, e.symm⟩
  · obtain ⟨i, hi, e⟩ := hf.2.2 _ (hg.2.1 j hj)
    exact ⟨i, hi, e.symm⟩
theorem end_ok {D : Nat → Nat → Int} {n : Int} {i : Nat} (h : LsD D n) (hi : (i : Int) < n) : (PlB (endA D i) ∧ PlR (endA D i)) ∧ (PlB (endB D i) ∧ PlR (endB D i)) := by
  obtain ⟨⟨a1, a2, a3, a4⟩, hl⟩ := h.2 i hi
  unfold PlB PlR endA endB
  simp
  omega
theorem mtP_ok {D : Nat → Nat → Int} {n : Int} {a b : Nat} (h : LsD D n) (ha : (a : Int) < n) (hb : (b : Int) < n) (hk : mK D a b = 1 ∨ mK D a b = 2) : PlB (mtP D a b) ∧ PlR (mtP D a b) := by
  have := mXY_all h ha hb hk
  exact loP_ok this.1 this.2.1 this.2.2
