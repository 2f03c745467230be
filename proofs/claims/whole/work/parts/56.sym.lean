/-! meeting either way round -/
theorem lesB_iff {x y u v : Int} : lesB x y u v = true ↔ (x < u ∨ (x = u ∧ y < v)) := by
  unfold lesB
  exact decide_eq_true_iff
theorem dT_sw (D : Nat → Nat → Int) (a b : Nat) : dT D b a = - dT D a b := by
  unfold dT
  have e1 := Int.mul_comm (mr D b) (ms D a)
  have e2 := Int.mul_comm (ms D b) (mr D a)
  omega
theorem mpq_sw (D : Nat → Nat → Int) (a b : Nat) : mp D b a = - mp D a b ∧ mq D b a = - mq D a b := by
  unfold mp mq
  omega
theorem tT_sw (D : Nat → Nat → Int) (a b : Nat) : tT D b a = - uT D a b := by
  unfold tT uT
  rw [(mpq_sw D a b).1, (mpq_sw D a b).2, Int.neg_mul, Int.neg_mul]
  omega
theorem uT_sw (D : Nat → Nat → Int) (a b : Nat) : uT D b a = - tT D a b := by
  unfold tT uT
  rw [(mpq_sw D a b).1, (mpq_sw D a b).2, Int.neg_mul, Int.neg_mul]
  omega
theorem mS_sw (D : Nat → Nat → Int) (a b : Nat) (h : ¬ dT D a b = 0) : mS D b a = - mS D a b := by
  unfold mS
  rw [dT_sw]
  by_cases c : dT D a b < 0
  · rw [if_pos c, if_neg (by omega)]
    omega
  · rw [if_neg c, if_pos (by omega)]
theorem mSd_sw (D : Nat → Nat → Int) (a b : Nat) (h : ¬ dT D a b = 0) : mS D b a * dT D b a = mS D a b * dT D a b ∧ mS D b a * tT D b a = mS D a b * uT D a b ∧ mS D b a * uT D b a = mS D a b * tT D a b := by
  rw [mS_sw D a b h, dT_sw D a b, tT_sw D a b, uT_sw D a b, Int.neg_mul_neg, Int.neg_mul_neg, Int.neg_mul_neg]
  exact ⟨rfl, rfl, rfl⟩
theorem mF_sw (D : Nat → Nat → Int) (a b : Nat) : D 0 (mF D b a) = D 0 (mF D a b) ∧ D 1 (mF D b a) = D 1 (mF D a b) := by
  unfold mF
  have h1 := lesB_iff (x := D 0 a) (y := D 1 a) (u := D 0 b) (v := D 1 b)
  have h2 := lesB_iff (x := D 0 b) (y := D 1 b) (u := D 0 a) (v := D 1 a)
  by_cases c1 : lesB (D 0 a) (D 1 a) (D 0 b) (D 1 b) = true
  · rw [if_pos c1]
    by_cases c2 : lesB (D 0 b) (D 1 b) (D 0 a) (D 1 a) = true
    · rw [if_pos c2]
      rw [h1] at c1
      rw [h2] at c2
      omega
    · rw [if_neg c2]
      exact ⟨rfl, rfl⟩
  · rw [if_neg c1]
    by_cases c2 : lesB (D 0 b) (D 1 b) (D 0 a) (D 1 a) = true
    · rw [if_pos c2]
      exact ⟨rfl, rfl⟩
    · rw [if_neg c2]
      rw [h1] at c1
      rw [h2] at c2
      omega
theorem mT_sw (D : Nat → Nat → Int) (a b : Nat) : D 2 (mT D b a) = D 2 (mT D a b) ∧ D 3 (mT D b a) = D 3 (mT D a b) := by
  unfold mT
  have h1 := lesB_iff (x := D 2 a) (y := D 3 a) (u := D 2 b) (v := D 3 b)
  have h2 := lesB_iff (x := D 2 b) (y := D 3 b) (u := D 2 a) (v := D 3 a)
  by_cases c1 : lesB (D 2 a) (D 3 a) (D 2 b) (D 3 b) = true
  · rw [if_pos c1]
    by_cases c2 : lesB (D 2 b) (D 3 b) (D 2 a) (D 3 a) = true
    · rw [if_pos c2]
      rw [h1] at c1
      rw [h2] at c2
      omega
    · rw [if_neg c2]
      exact ⟨rfl, rfl⟩
  · rw [if_neg c1]
    by_cases c2 : lesB (D 2 b) (D 3 b) (D 2 a) (D 3 a) = true
    · rw [if_pos c2]
      exact ⟨rfl, rfl⟩
    · rw [if_neg c2]
      rw [h1] at c1
      rw [h2] at c2
      omega
theorem rg4 (a b rx ry sx sy q : Int) : b * (rx * sy - ry * sx) + ((b - a) * ry - q * rx) * sx = a * (rx * sy - ry * sx) + ((b - a) * sy - q * sx) * rx := by grind
theorem rg5 (a b rx ry sx sy p : Int) : b * (rx * sy - ry * sx) + (p * ry - (b - a) * rx) * sy = a * (rx * sy - ry * sx) + (p * sy - (b - a) * sx) * ry := by grind
theorem rg6 (a s d t r : Int) : a * (s * d) + s * t * r = s * (a * d + t * r) := by grind
theorem mXY_sw (D : Nat → Nat → Int) (a b : Nat) : mX D b a = mX D a b ∧ mY D b a = mY D a b ∧ mD D b a = mD D a b := by
  unfold mX mY mD
  have hd := dT_sw D a b
  by_cases c : dT D a b = 0
  · rw [if_pos c, if_pos c, if_pos c, if_pos (by omega), if_pos (by omega), if_pos (by omega)]
    exact ⟨(mF_sw D a b).1, (mF_sw D a b).2, rfl⟩
  · rw [if_neg c, if_neg c, if_neg c, if_neg (by omega), if_neg (by omega), if_neg (by omega)]
    obtain ⟨e1, e2, e3⟩ := mSd_sw D a b c
    rw [e1, e2]
    refine ⟨?_, ?_, rfl⟩
    · rw [rg6, rg6]
      congr 1
      unfold dT uT tT
      have h := rg4 (D 0 a) (D 0 b) (mr D a) (ms D a) (mr D b) (ms D b) (mq D a b)
      rw [← mp.eq_1] at h
      exact h
    · rw [rg6, rg6]
      congr 1
      unfold dT uT tT
      have h := rg5 (D 1 a) (D 1 b) (mr D a) (ms D a) (mr D b) (ms D b) (mp D a b)
      rw [← mq.eq_1] at h
      exact h
theorem mK_sw {D : Nat → Nat → Int} {n : Int} {a b : Nat} (h : LsD D n) (ha : (a : Int) < n) (hb : (b : Int) < n) : mK D b a = mK D a b := by
  have hd := dT_sw D a b
  by_cases c : dT D a b = 0
  · have hr : ¬ (mr D a = 0 ∧ ms D a = 0) := by
      have := (h.2 a ha).2
      unfold mr ms
      omega
    have hs : ¬ (mr D b = 0 ∧ ms D b = 0) := by
      have := (h.2 b hb).2
      unfold mr ms
      omega
    have c' : dT D b a = 0 := by omega
    have hut : uT D a b = 0 ↔ uT D b a = 0 := by
      have e1 := uT_sw D a b
      have e2 := uT_sw D b a
      refine ⟨fun z => ?_, fun z => ?_⟩
      · have : tT D a b = 0 := row_t hr c z
        omega
      · have : tT D b a = 0 := row_t hs c' z
        omega
    unfold mK
    rw [if_pos c, if_pos c', (mF_sw D a b).1, (mF_sw D a b).2, (mT_sw D a b).1, (mT_sw D a b).2]
    by_cases z : uT D a b = 0
    · rw [if_pos z, if_pos (hut.mp z)]
    · rw [if_neg z, if_neg (fun y => z (hut.mpr y))]
  · obtain ⟨e1, e2, e3⟩ := mSd_sw D a b c
    have hI : mIn D b a = mIn D a b := by
      rw [Bool.eq_iff_iff, mIn_iff, mIn_iff, e1, e2, e3]
      omega
    have hE : mE D b a = mE D a b := by
      rw [Bool.eq_iff_iff, mE_iff, mE_iff, e1, e2, e3]
      omega
    unfold mK
    rw [if_neg c, if_neg (by omega), hI, hE]
