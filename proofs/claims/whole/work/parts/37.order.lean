/-! the order of the lines at an x: the same insertion on both sides -/
def sgn (x : Int) : Int := if x < 0 then -1 else if 0 < x then 1 else 0
theorem sgn_neg (x : Int) : sgn (-x) = - sgn x := by unfold sgn; grind
theorem sgn_mul {k x : Int} (hk : 0 < k) : sgn (k * x) = sgn x := by
  unfold sgn
  by_cases h : x < 0
  · have := Int.mul_neg_of_pos_of_neg hk h
    rw [if_pos h, if_pos this]
  · by_cases h2 : 0 < x
    · have := Int.mul_pos hk h2
      rw [if_neg h, if_pos h2, if_neg (by omega), if_pos this]
    · have : x = 0 := by omega
      subst this
      simp
theorem s_X9_cmp {n d m e A : Int} {post : Int → Prop} (h1 : -A ≤ n * e ∧ n * e ≤ A) (h2 : -A ≤ m * d ∧ m * d ≤ A) (hA : A < 4611686018427387904) (h : post (sgn (n * e - m * d))) : w_X9_compareFractions n d m e post := by
  unfold w_X9_compareFractions jn
  intro a ea b eb
  rw [w64_b h1 (by omega)] at ea
  rw [w64_b h2 (by omega)] at eb
  subst ea eb
  unfold sgn at h
  grind
theorem s_X10_against {n d m e A : Int} {post : Int → Prop} (h1 : -A ≤ n * e ∧ n * e ≤ A) (h2 : -A ≤ m * d ∧ m * d ≤ A) (hA : A < 4611686018427387904) (h : post (sgn (n * e - m * d))) : w_X10_against n d m e post := by
  unfold w_X10_against jn
  intro a ea
  rw [w64_b h1 (by omega), w64_b h2 (by omega), w64_id (show ok64 (n * e - m * d) from ⟨by omega, by omega⟩)] at ea
  subst ea
  unfold sgn at h
  grind
/-- lines by their fields -/
def LsD (D : Nat → Nat → Int) (n : Int) : Prop := (0 ≤ n ∧ n ≤ 10) ∧ ∀ i : Nat, (i : Int) < n → LnB (D 0 i) (D 1 i) (D 2 i) (D 3 i) ∧ (D 0 i < D 2 i ∨ (D 0 i = D 2 i ∧ D 1 i < D 3 i))
def LnAt (s : Sg) (c : Nat) (n : Int) (D : Nat → Nat → Int) : Prop := ∀ i : Nat, (i : Int) < n → s c i = D 0 i ∧ s (c + 1) i = D 1 i ∧ s (c + 2) i = D 2 i ∧ s (c + 3) i = D 3 i
def lD (s : Sg) : Nat → Nat → Int := fun k i => s (2 + k) i
theorem Base_LsD {s : Sg} (hB : Base s) : LsD (lD s) (s 1 0) := by
  have h := hB.2.1
  refine ⟨⟨h.1, h.2.1⟩, fun i hi => ?_⟩
  have := h.2.2 i hi
  exact ⟨⟨this.1, this.2.1, this.2.2.1, this.2.2.2.1⟩, this.2.2.2.2⟩
theorem Base_At {s : Sg} : LnAt s 2 (s 1 0) (lD s) := fun i _ => ⟨rfl, rfl, rfl, rfl⟩
theorem Base_At2 {s : Sg} (hB : Base s) : LnAt s 69 (s 1 0) (lD s) := hB.2.2.1
def hgt (D : Nat → Nat → Int) (i : Nat) (x xd : Int) : Int := D 1 i * (D 2 i - D 0 i) * xd + (D 3 i - D 1 i) * (x - D 0 i * xd)
def cmpT (D : Nat → Nat → Int) (x xd : Int) (a b : Nat) : Int :=
  if sgn (hgt D a x xd * (D 2 b - D 0 b) - hgt D b x xd * (D 2 a - D 0 a)) = 0 then sgn ((D 3 a - D 1 a) * (D 2 b - D 0 b) - (D 3 b - D 1 b) * (D 2 a - D 0 a))
  else sgn (hgt D a x xd * (D 2 b - D 0 b) - hgt D b x xd * (D 2 a - D 0 a))
def thereB (D : Nat → Nat → Int) (x xd : Int) (w : Int) (i : Nat) : Bool := decide ((i : Int) ≠ w ∧ D 0 i ≠ D 2 i ∧ D 0 i * xd ≤ x ∧ x ≤ D 2 i * xd)
theorem hgt_b {D : Nat → Nat → Int} {n : Int} {i : Nat} {x xd : Int} (h : LsD D n) (hi : (i : Int) < n) (hx : FrB x xd) : -20480000 ≤ hgt D i x xd ∧ hgt D i x xd ≤ 20480000 := by
  obtain ⟨⟨ha, hb, hu, hv⟩, hl⟩ := h.2 i hi
  have h1 := mb (a := D 1 i) (b := D 2 i - D 0 i) (A := 40) (B := 40) (by omega) (by omega)
  have h2 := mb (a := D 1 i * (D 2 i - D 0 i)) (b := xd) (B := 3200) h1 (by have := hx.2; omega)
  have h3 := (m40 (a := D 0 i) ha hx.2).2
  have h4 := mb (a := D 3 i - D 1 i) (b := x - D 0 i * xd) (A := 40) (B := 256000) (by omega) (by have := hx.1; omega)
  unfold hgt
  omega
theorem s_X2_height {s : Sg} {D : Nat → Nat → Int} {n i x xd : Int} {post : Int → Prop} (h : LsD D n) (hat : LnAt s 2 n D) (hi : 0 ≤ i ∧ i < n) (hx : FrB x xd) (hp : post (hgt D i.toNat x xd)) : w_X2_height s i x xd post := by
  obtain ⟨⟨ha, hb, hu, hv⟩, hl⟩ := h.2 i.toNat (by omega)
  obtain ⟨e1, e2, e3, e4⟩ := hat i.toNat (by omega)
  have hi10 : 0 ≤ i ∧ i < 10 := ⟨hi.1, by have := h.1; omega⟩
  unfold w_X2_height
  simp only [Nat.reduceAdd] at e1 e2 e3 e4
  rw [e1, e2, e3, e4]
  have h1 := mb (a := D 1 i.toNat) (b := D 2 i.toNat - D 0 i.toNat) (A := 40) (B := 40) (by omega) (by omega)
  have h2 := mb (a := D 1 i.toNat * (D 2 i.toNat - D 0 i.toNat)) (b := xd) (B := 3200) h1 (by have := hx.2; omega)
  obtain ⟨h3, h3b⟩ := (m40 (a := D 0 i.toNat) ha hx.2)
  have h4 := mb (a := D 3 i.toNat - D 1 i.toNat) (b := x - D 0 i.toNat * xd) (A := 40) (B := 256000) (by omega) (by have := hx.1; omega)
  have hb := hgt_b h (i := i.toNat) (by omega) hx
  unfold hgt at hb hp
  rw [w32_id (show ok32 (D 2 i.toNat - D 0 i.toNat) from ⟨by omega, by omega⟩), w32_b h1 (by decide), w64_b h2 (by decide), w32_id (show ok32 (D 3 i.toNat - D 1 i.toNat) from ⟨by omega, by omega⟩), h3, w64_b (x := x - D 0 i.toNat * xd) (A := 256000) (by have := hx.1; omega) (by decide), w64_b h4 (by decide), w64_b hb (by decide)]
  exact ⟨hi10, hi10, hi10, hi10, hi10, hi10, hp⟩
theorem s_X10_yAbove {s : Sg} {D : Nat → Nat → Int} {n i x xd : Int} {post : Int → Prop} (h : LsD D n) (hat : LnAt s 69 n D) (hi : 0 ≤ i ∧ i < n) (hx : FrB x xd) (hp : post (hgt D i.toNat x xd)) : w_X10_yAbove s i x xd post := by
  obtain ⟨⟨ha, hb, hu, hv⟩, hl⟩ := h.2 i.toNat (by omega)
  obtain ⟨e1, e2, e3, e4⟩ := hat i.toNat (by omega)
  have hi10 : 0 ≤ i ∧ i < 10 := ⟨hi.1, by have := h.1; omega⟩
  unfold w_X10_yAbove
  simp only [Nat.reduceAdd] at e1 e2 e3 e4
  rw [e1, e2, e3, e4]
  have h1 := mb (a := D 1 i.toNat) (b := D 2 i.toNat - D 0 i.toNat) (A := 40) (B := 40) (by omega) (by omega)
  have h2 := mb (a := D 1 i.toNat * (D 2 i.toNat - D 0 i.toNat)) (b := xd) (B := 3200) h1 (by have := hx.2; omega)
  obtain ⟨h3, h3b⟩ := (m40 (a := D 0 i.toNat) ha hx.2)
  have h4 := mb (b := D 3 i.toNat - D 1 i.toNat) (a := x - D 0 i.toNat * xd) (B := 40) (A := 256000) (by have := hx.1; omega) (by omega)
  have hb := hgt_b h (i := i.toNat) (by omega) hx
  unfold hgt at hb hp
  rw [Int.mul_comm (D 3 i.toNat - D 1 i.toNat)] at hb hp
  refine ⟨hi10, hi10, ?_⟩
  rintro _ rfl
  rw [w32_id (show ok32 (D 2 i.toNat - D 0 i.toNat) from ⟨by omega, by omega⟩), w64_b h1 (by decide), w64_b h2 (by decide), w32_id (show ok32 (D 3 i.toNat - D 1 i.toNat) from ⟨by omega, by omega⟩), h3, w64_b (x := x - D 0 i.toNat * xd) (A := 256000) (by have := hx.1; omega) (by decide), w64_b h4 (by decide), w64_b hb (by decide)]
  exact ⟨hi10, hi10, hi10, hi10, hp⟩
theorem s_X10_yBelow {s : Sg} {D : Nat → Nat → Int} {n i xd : Int} {post : Int → Prop} (h : LsD D n) (hat : LnAt s 69 n D) (hi : 0 ≤ i ∧ i < n) (hx : 0 ≤ xd ∧ xd ≤ 3200) (hp : post ((D 2 i.toNat - D 0 i.toNat) * xd)) : w_X10_yBelow s i xd post := by
  obtain ⟨⟨ha, hb, hu, hv⟩, hl⟩ := h.2 i.toNat (by omega)
  obtain ⟨e1, e2, e3, e4⟩ := hat i.toNat (by omega)
  have hi10 : 0 ≤ i ∧ i < 10 := ⟨hi.1, by have := h.1; omega⟩
  unfold w_X10_yBelow
  simp only [Nat.reduceAdd] at e1 e2 e3 e4
  rw [e1, e3]
  have h1 := mb (a := D 2 i.toNat - D 0 i.toNat) (b := xd) (A := 40) (B := 3200) (by omega) (by omega)
  rw [w32_id (show ok32 (D 2 i.toNat - D 0 i.toNat) from ⟨by omega, by omega⟩), w64_b h1 (by decide)]
  exact ⟨hi10, hi10, hp⟩
theorem s_X10_isThere {s : Sg} {D : Nat → Nat → Int} {n i x xd : Int} {post : Int → Prop} (h : LsD D n) (hat : LnAt s 69 n D) (hi : 0 ≤ i ∧ i < n) (hx : 0 ≤ xd ∧ xd ≤ 3200) (hp : ∀ r, BV r (D 0 i.toNat ≠ D 2 i.toNat ∧ D 0 i.toNat * xd ≤ x ∧ x ≤ D 2 i.toNat * xd) → post r) : w_X10_isThere s i x xd post := by
  obtain ⟨⟨ha, hb, hu, hv⟩, hl⟩ := h.2 i.toNat (by omega)
  obtain ⟨e1, e2, e3, e4⟩ := hat i.toNat (by omega)
  have hi10 : 0 ≤ i ∧ i < 10 := ⟨hi.1, by have := h.1; omega⟩
  simp only [Nat.reduceAdd] at e1 e2 e3 e4
  unfold w_X10_isThere jn
  refine s_X10_isUpright hi10 fun r e => ?_
  rw [e1, e3] at e ⊢
  rw [(m40 ha hx).1, (m40 hu hx).1]
  have h1 := hp 1
  have h0 := hp 0
  generalize D 0 i.toNat * xd = A at *
  generalize D 2 i.toNat * xd = B at *
  have hle : (A ≤ x ↔ ¬ x < A) ∧ (x ≤ B ↔ ¬ B < x) := by omega
  rw [hle.1, hle.2] at h1 h0
  grind
theorem hb2 {D : Nat → Nat → Int} {n : Int} {i j : Nat} {x xd : Int} (h : LsD D n) (hi : (i : Int) < n) (hj : (j : Int) < n) (hx : FrB x xd) : -819200000 ≤ hgt D i x xd * (D 2 j - D 0 j) ∧ hgt D i x xd * (D 2 j - D 0 j) ≤ 819200000 := by
  have h1 := hgt_b h hi hx
  obtain ⟨⟨ha, hb, hu, hv⟩, hl⟩ := h.2 j hj
  have h2 := mb (b := D 2 j - D 0 j) (B := 40) h1 (by omega)
  omega
theorem rb2 {D : Nat → Nat → Int} {n : Int} {i j : Nat} (h : LsD D n) (hi : (i : Int) < n) (hj : (j : Int) < n) : -1600 ≤ (D 3 i - D 1 i) * (D 2 j - D 0 j) ∧ (D 3 i - D 1 i) * (D 2 j - D 0 j) ≤ 1600 := by
  obtain ⟨⟨ha, hb, hu, hv⟩, hl⟩ := h.2 j hj
  obtain ⟨⟨ha', hb', hu', hv'⟩, hl'⟩ := h.2 i hi
  have h2 := mb (a := D 3 i - D 1 i) (b := D 2 j - D 0 j) (A := 40) (B := 40) (by omega) (by omega)
  omega
theorem s_run {s : Sg} {D : Nat → Nat → Int} {n i : Int} {post : Int → Prop} (h : LsD D n) (hat : LnAt s 2 n D) (hi : 0 ≤ i ∧ i < n) (hp : post (D 2 i.toNat - D 0 i.toNat)) : w_X2_run s 1 i post := by
  obtain ⟨⟨ha, hb, hu, hv⟩, hl⟩ := h.2 i.toNat (by omega)
  obtain ⟨e1, e2, e3, e4⟩ := hat i.toNat (by omega)
  have hi10 : 0 ≤ i ∧ i < 10 := ⟨hi.1, by have := h.1; omega⟩
  unfold w_X2_run
  simp only [Nat.reduceAdd] at e1 e2 e3 e4 ⊢
  rw [e1, e3, w32_id (show ok32 (D 2 i.toNat - D 0 i.toNat) from ⟨by omega, by omega⟩)]
  exact ⟨hi10, hi10, hp⟩
theorem s_rise {s : Sg} {D : Nat → Nat → Int} {n i : Int} {post : Int → Prop} (h : LsD D n) (hat : LnAt s 2 n D) (hi : 0 ≤ i ∧ i < n) (hp : post (D 3 i.toNat - D 1 i.toNat)) : w_X2_rise s 1 i post := by
  obtain ⟨⟨ha, hb, hu, hv⟩, hl⟩ := h.2 i.toNat (by omega)
  obtain ⟨e1, e2, e3, e4⟩ := hat i.toNat (by omega)
  have hi10 : 0 ≤ i ∧ i < 10 := ⟨hi.1, by have := h.1; omega⟩
  unfold w_X2_rise
  simp only [Nat.reduceAdd] at e1 e2 e3 e4 ⊢
  rw [e2, e4, w32_id (show ok32 (D 3 i.toNat - D 1 i.toNat) from ⟨by omega, by omega⟩)]
  exact ⟨hi10, hi10, hp⟩
theorem s_X7_compareTwo {s : Sg} {D : Nat → Nat → Int} {n i j x xd : Int} {post : Int → Prop} (h : LsD D n) (hat : LnAt s 2 n D) (hi : 0 ≤ i ∧ i < n) (hj : 0 ≤ j ∧ j < n) (hx : FrB x xd) (hhi : s 37 i.toNat = hgt D i.toNat x xd) (hhj : s 37 j.toNat = hgt D j.toNat x xd) (hp : post (cmpT D x xd i.toNat j.toNat)) : w_X7_compareTwo s i j post := by
  unfold w_X7_compareTwo jn
  have hi10 : 0 ≤ i ∧ i < 10 := ⟨hi.1, by have := h.1; omega⟩
  have hj10 : 0 ≤ j ∧ j < 10 := ⟨hj.1, by have := h.1; omega⟩
  refine ⟨hi10, s_run h hat hi ⟨hj10, s_run h hat hj ?_⟩⟩
  rw [hhi, hhj]
  have b1 := hb2 h (i := i.toNat) (j := j.toNat) (by omega) (by omega) hx
  have b2 := hb2 h (i := j.toNat) (j := i.toNat) (by omega) (by omega) hx
  unfold cmpT at hp
  refine s_X9_cmp b1 b2 (by decide) ⟨fun e => ?_, fun e => ?_⟩
  · rw [if_pos e] at hp
    refine s_rise h hat hi (s_run h hat hi (s_rise h hat hj (s_run h hat hj ?_)))
    exact s_X9_cmp (rb2 h (by omega) (by omega)) (rb2 h (by omega) (by omega)) (by decide) hp
  · rw [if_neg e] at hp
    exact hp
theorem rg1 (a b p q k : Int) : a * (p * k) - b * (q * k) = k * -(b * q - a * p) := by grind
theorem s_X10_isAhead {s : Sg} {D : Nat → Nat → Int} {n i j x xd : Int} {post : Int → Prop} (h : LsD D n) (hat : LnAt s 69 n D) (hi : 0 ≤ i ∧ i < n) (hj : 0 ≤ j ∧ j < i) (hx : FrB x xd) (hxd : 0 < xd) (hp : ∀ r, BV r (0 < cmpT D x xd j.toNat i.toNat) → post r) : w_X10_isAhead s i j x xd post := by
  unfold w_X10_isAhead jn
  have hi10 : 0 ≤ i ∧ i < 10 := ⟨hi.1, by have := h.1; omega⟩
  have hj10 : 0 ≤ j ∧ j < 10 := ⟨hj.1, by omega⟩
  have hjn : 0 ≤ j ∧ j < n := ⟨hj.1, by omega⟩
  refine s_X10_yAbove h hat hi hx (s_X10_yBelow h hat hi hx.2 (s_X10_yAbove h hat hjn hx (s_X10_yBelow h hat hjn hx.2 ?_)))
  have b1 := hb2 h (i := i.toNat) (j := j.toNat) (by omega) (by omega) hx
  have b2 := hb2 h (i := j.toNat) (j := i.toNat) (by omega) (by omega) hx
  have c1 := mb (b := xd) (A := 819200000) (B := 3200) b1 (by have := hx.2; omega)
  have c2 := mb (b := xd) (A := 819200000) (B := 3200) b2 (by have := hx.2; omega)
  rw [Int.mul_assoc] at c1 c2
  have hs : sgn (hgt D i.toNat x xd * ((D 2 j.toNat - D 0 j.toNat) * xd) - hgt D j.toNat x xd * ((D 2 i.toNat - D 0 i.toNat) * xd)) = - sgn (hgt D j.toNat x xd * (D 2 i.toNat - D 0 i.toNat) - hgt D i.toNat x xd * (D 2 j.toNat - D 0 j.toNat)) := by
    rw [← sgn_neg, ← sgn_mul hxd (x := -(_)), rg1]
  refine s_X10_against c1 c2 (by decide) ?_
  rw [hs]
  unfold cmpT at hp
  obtain ⟨e1, e2, e3, e4⟩ := hat i.toNat (by omega)
  obtain ⟨f1, f2, f3, f4⟩ := hat j.toNat (by omega)
  simp only [Nat.reduceAdd] at e1 e2 e3 e4 f1 f2 f3 f4
  rw [e1, e2, e3, e4, f1, f2, f3, f4]
  obtain ⟨⟨ha, hb, hu, hv⟩, hl⟩ := h.2 i.toNat (by omega)
  obtain ⟨⟨ha', hb', hu', hv'⟩, hl'⟩ := h.2 j.toNat (by omega)
  have h1 := hp 1
  have h0 := hp 0
  refine ⟨fun e => ?_, fun e => ?_⟩
  · rw [if_pos (by omega)] at h1 h0
    refine ⟨hi10, hi10, hi10, hi10, hj10, hj10, hj10, hj10, ?_⟩
    rw [w32_id (show ok32 (D 3 i.toNat - D 1 i.toNat) from ⟨by omega, by omega⟩), w32_id (show ok32 (D 2 i.toNat - D 0 i.toNat) from ⟨by omega, by omega⟩), w32_id (show ok32 (D 3 j.toNat - D 1 j.toNat) from ⟨by omega, by omega⟩), w32_id (show ok32 (D 2 j.toNat - D 0 j.toNat) from ⟨by omega, by omega⟩)]
    refine s_X10_against (rb2 h (by omega) (by omega)) (rb2 h (by omega) (by omega)) (by decide) ?_
    have hs2 : sgn ((D 3 i.toNat - D 1 i.toNat) * (D 2 j.toNat - D 0 j.toNat) - (D 3 j.toNat - D 1 j.toNat) * (D 2 i.toNat - D 0 i.toNat)) = - sgn ((D 3 j.toNat - D 1 j.toNat) * (D 2 i.toNat - D 0 i.toNat) - (D 3 i.toNat - D 1 i.toNat) * (D 2 j.toNat - D 0 j.toNat)) := by
      rw [← sgn_neg]
      congr 1
      omega
    rw [hs2]
    generalize sgn ((D 3 j.toNat - D 1 j.toNat) * (D 2 i.toNat - D 0 i.toNat) - (D 3 i.toNat - D 1 i.toNat) * (D 2 j.toNat - D 0 j.toNat)) = z at *
    refine ⟨fun e5 => ⟨fun _ => ⟨Or.inl rfl, h0 (Or.inr ⟨rfl, by omega⟩)⟩, fun e6 => by omega⟩, fun e5 => ⟨fun _ => ⟨Or.inl rfl, h0 (Or.inr ⟨rfl, by omega⟩)⟩, fun e6 => ⟨Or.inr rfl, h1 (Or.inl ⟨rfl, by omega⟩)⟩⟩⟩
  · rw [if_neg (by omega)] at h1 h0
    generalize sgn (hgt D j.toNat x xd * (D 2 i.toNat - D 0 i.toNat) - hgt D i.toNat x xd * (D 2 j.toNat - D 0 j.toNat)) = z at *
    refine ⟨fun _ => ⟨Or.inl rfl, h0 (Or.inr ⟨rfl, by omega⟩)⟩, fun e6 => ⟨Or.inr rfl, h1 (Or.inl ⟨rfl, by omega⟩)⟩⟩
/-! the insertion -/
def posN (gt : Nat → Nat → Bool) (r : Nat → Nat) (l : Nat) : Nat → Nat
  | 0 => 0
  | k + 1 => if gt (r k) l = true then posN gt r l k else k + 1
def insN (r : Nat → Nat) (p l : Nat) : Nat → Nat := fun j => if j < p then r j else if j = p then l else r (j - 1)
def cntN (th : Nat → Bool) : Nat → Nat
  | 0 => 0
  | n + 1 => if th n = true then cntN th n + 1 else cntN th n
def rowN (gt : Nat → Nat → Bool) (th : Nat → Bool) : Nat → Nat → Nat
  | 0 => fun _ => 0
  | n + 1 => if th n = true then insN (rowN gt th n) (posN gt (rowN gt th n) n (cntN th n)) n else rowN gt th n
theorem posN_le (gt : Nat → Nat → Bool) (r : Nat → Nat) (l k : Nat) : posN gt r l k ≤ k := by
  induction k with
  | zero => exact Nat.le_refl _
  | succ k ih =>
    unfold posN
    split
    · omega
    · omega
theorem cntN_le (th : Nat → Bool) (n : Nat) : cntN th n ≤ n := by
  induction n with
  | zero => exact Nat.le_refl _
  | succ n ih =>
    unfold cntN
    split <;> omega
theorem rowN_lt (gt : Nat → Nat → Bool) (th : Nat → Bool) (n : Nat) : ∀ j, j < cntN th n → rowN gt th n j < n ∧ th (rowN gt th n j) = true := by
  induction n with
  | zero => intro j h; exact absurd h (Nat.not_lt_zero _)
  | succ n ih =>
    intro j hj
    unfold rowN
    unfold cntN at hj
    by_cases c : th n = true
    · rw [if_pos c] at hj ⊢
      have hp := posN_le gt (rowN gt th n) n (cntN th n)
      unfold insN
      by_cases c1 : j < posN gt (rowN gt th n) n (cntN th n)
      · rw [if_pos c1]
        have := ih j (by omega)
        exact ⟨by omega, this.2⟩
      · rw [if_neg c1]
        by_cases c2 : j = posN gt (rowN gt th n) n (cntN th n)
        · rw [if_pos c2]
          exact ⟨by omega, c⟩
        · rw [if_neg c2]
          have := ih (j - 1) (by omega)
          exact ⟨by omega, this.2⟩
    · rw [if_neg c] at hj ⊢
      have := ih j hj
      exact ⟨by omega, this.2⟩
