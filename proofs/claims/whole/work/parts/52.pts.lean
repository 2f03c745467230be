/-! rows of places -/
def cmpP (p q : Int × Int × Int × Int) : Int :=
  if sgn (p.1 * q.2.1 - q.1 * p.2.1) = 0 then sgn (p.2.2.1 * q.2.2.2 - q.2.2.1 * p.2.2.2) else sgn (p.1 * q.2.1 - q.1 * p.2.1)
def PlB (p : Int × Int × Int × Int) : Prop := (0 ≤ p.1 ∧ p.1 ≤ 256000) ∧ (0 < p.2.1 ∧ p.2.1 ≤ 3200) ∧ (0 ≤ p.2.2.1 ∧ p.2.2.1 ≤ 256000) ∧ (0 < p.2.2.2 ∧ p.2.2.2 ≤ 3200)
/-- in lowest terms -/
def PlR (p : Int × Int × Int × Int) : Prop := Nat.gcd p.1.natAbs p.2.1.natAbs = 1 ∧ Nat.gcd p.2.2.1.natAbs p.2.2.2.natAbs = 1
def crX (p q : Int × Int × Int × Int) : Int := p.1 * q.2.1 - q.1 * p.2.1
def crY (p q : Int × Int × Int × Int) : Int := p.2.2.1 * q.2.2.2 - q.2.2.1 * p.2.2.2
theorem cmpP_iff (p q : Int × Int × Int × Int) : (cmpP p q < 0 ↔ (crX p q < 0 ∨ (crX p q = 0 ∧ crY p q < 0))) ∧ (cmpP p q = 0 ↔ (crX p q = 0 ∧ crY p q = 0)) ∧ (0 < cmpP p q ↔ (0 < crX p q ∨ (crX p q = 0 ∧ 0 < crY p q))) := by
  unfold cmpP
  rw [← crX.eq_1, ← crY.eq_1]
  have h1 := sgn_iff (crX p q)
  have h2 := sgn_iff (crY p q)
  by_cases c : sgn (crX p q) = 0
  · rw [if_pos c]
    have := h1.2.1.mp c
    rw [h2.1, h2.2.1, h2.2.2]
    omega
  · rw [if_neg c]
    have : ¬ crX p q = 0 := fun z => c (h1.2.1.mpr z)
    rw [h1.1, h1.2.1, h1.2.2]
    omega
theorem crX_sw (p q : Int × Int × Int × Int) : crX p q = - crX q p := by unfold crX; omega
theorem crY_sw (p q : Int × Int × Int × Int) : crY p q = - crY q p := by unfold crY; omega
def ltP (p q : Int × Int × Int × Int) : Prop := PlB p ∧ PlB q ∧ cmpP p q < 0
theorem ltP_irr (p : Int × Int × Int × Int) : ¬ ltP p p := by
  rintro ⟨-, -, h⟩
  have h1 := crX_sw p p
  have h2 := crY_sw p p
  have h3 := cmpP_iff p p
  omega
theorem ltP_tr (a b c : Int × Int × Int × Int) (h1 : ltP a b) (h2 : ltP b c) : ltP a c := by
  obtain ⟨pa, pb, h1⟩ := h1
  obtain ⟨-, pc, h2⟩ := h2
  refine ⟨pa, pc, ?_⟩
  have i1 := cmpP_iff a b
  have i2 := cmpP_iff b c
  have i3 := cmpP_iff a c
  have eX : b.2.1 * crX a c = c.2.1 * crX a b + a.2.1 * crX b c := rg2 _ _ _ _ _ _
  have eY : b.2.2.2 * crY a c = c.2.2.2 * crY a b + a.2.2.2 * crY b c := rg2 _ _ _ _ _ _
  have fX := fr_tr pa.2.1.1 pb.2.1.1 pc.2.1.1 eX (by omega) (by omega)
  generalize crX a b = p at *
  generalize crX b c = q at *
  generalize crX a c = z at *
  by_cases hz : z = 0
  · have h0 := fX.2.1 hz
    have fY := fr_tr pa.2.2.2.1 pb.2.2.2.1 pc.2.2.2.1 eY (by omega) (by omega)
    omega
  · omega
theorem ltP_of {p q : Int × Int × Int × Int} (hp : PlB p) (hq : PlB q) (h : 0 < cmpP p q) : ltP q p := by
  refine ⟨hq, hp, ?_⟩
  have h1 := crX_sw p q
  have h2 := crY_sw p q
  have h3 := cmpP_iff p q
  have h4 := cmpP_iff q p
  omega
/-- equal fractions in lowest terms are the same numbers -/
theorem fr_eq {x d y e : Int} (hx : 0 ≤ x) (hd : 0 < d) (hy : 0 ≤ y) (he : 0 < e) (h : x * e - y * d = 0) (g1 : Nat.gcd x.natAbs d.natAbs = 1) (g2 : Nat.gcd y.natAbs e.natAbs = 1) : x = y ∧ d = e := by
  have hn : x.natAbs * e.natAbs = y.natAbs * d.natAbs := by
    rw [← Int.natAbs_mul, ← Int.natAbs_mul]
    congr 1
    omega
  have d1 : d.natAbs ∣ x.natAbs * e.natAbs := ⟨y.natAbs, by rw [hn, Nat.mul_comm]⟩
  have d2 : e.natAbs ∣ y.natAbs * d.natAbs := ⟨x.natAbs, by rw [← hn, Nat.mul_comm]⟩
  have c1 : Nat.Coprime d.natAbs x.natAbs := by unfold Nat.Coprime; rw [Nat.gcd_comm]; exact g1
  have c2 : Nat.Coprime e.natAbs y.natAbs := by unfold Nat.Coprime; rw [Nat.gcd_comm]; exact g2
  have e1 := Nat.Coprime.dvd_of_dvd_mul_left c1 d1
  have e2 := Nat.Coprime.dvd_of_dvd_mul_left c2 d2
  have ee := Nat.dvd_antisymm e1 e2
  rw [ee] at hn
  have := Nat.eq_of_mul_eq_mul_right (by omega) hn
  omega
theorem cmpP_eq {p q : Int × Int × Int × Int} (hp : PlB p) (hq : PlB q) (rp : PlR p) (rq : PlR q) (h : cmpP p q = 0) : p = q := by
  have h3 := (cmpP_iff p q).2.1.mp h
  unfold crX crY at h3
  obtain ⟨p1, p2, p3, p4⟩ := p
  obtain ⟨q1, q2, q3, q4⟩ := q
  obtain ⟨a1, a2, a3, a4⟩ := hp
  obtain ⟨b1, b2, b3, b4⟩ := hq
  have x := fr_eq a1.1 a2.1 b1.1 b2.1 h3.1 rp.1 rq.1
  have y := fr_eq a3.1 a4.1 b3.1 b4.1 h3.2 rp.2 rq.2
  simp only at x y
  rw [x.1, x.2, y.1, y.2]
/-- a row with a place put in, or there already -/
def InsP (f : Nat → Int × Int × Int × Int) (m : Nat) (p : Int × Int × Int × Int) (g : Nat → Int × Int × Int × Int) (k : Nat) : Prop :=
  SInc ltP g k ∧ (∀ j, j < k → g j = p ∨ ∃ i, i < m ∧ g j = f i) ∧ (∃ j, j < k ∧ g j = p) ∧ (∀ i, i < m → ∃ j, j < k ∧ g j = f i) ∧ k ≤ m + 1
def insG (f : Nat → Int × Int × Int × Int) (a : Nat) (p : Int × Int × Int × Int) : Nat → Int × Int × Int × Int := fun j => if j < a then f j else if j = a then p else f (j - 1)
theorem InsP_new {f : Nat → Int × Int × Int × Int} {m a : Nat} {p : Int × Int × Int × Int} (hf : SInc ltP f m) (ha : a ≤ m) (h1 : ∀ j, j < a → ltP (f j) p) (h2 : ∀ j, a ≤ j → j < m → ltP p (f j)) : InsP f m p (insG f a p) (m + 1) := by
  refine ⟨fun i j hij hj => ?_, fun j hj => ?_, ⟨a, by omega, ?_⟩, fun i hi => ?_, by omega⟩
  · unfold insG
    by_cases c1 : i < a
    · rw [if_pos c1]
      by_cases c2 : j < a
      · rw [if_pos c2]; exact hf i j hij (by omega)
      · rw [if_neg c2]
        by_cases c3 : j = a
        · rw [if_pos c3]; exact h1 i c1
        · rw [if_neg c3]; exact hf i (j - 1) (by omega) (by omega)
    · rw [if_neg c1, if_neg (show ¬ j < a by omega), if_neg (show ¬ j = a by omega)]
      by_cases c3 : i = a
      · rw [if_pos c3]; exact h2 _ (by omega) (by omega)
      · rw [if_neg c3]; exact hf (i - 1) (j - 1) (by omega) (by omega)
  · unfold insG
    by_cases c1 : j < a
    · rw [if_pos c1]; exact Or.inr ⟨j, by omega, rfl⟩
    · rw [if_neg c1]
      by_cases c3 : j = a
      · rw [if_pos c3]; exact Or.inl rfl
      · rw [if_neg c3]; exact Or.inr ⟨j - 1, by omega, rfl⟩
  · unfold insG
    rw [if_neg (by omega), if_pos rfl]
  · by_cases c1 : i < a
    · exact ⟨i, by omega, by unfold insG; rw [if_pos c1]⟩
    · refine ⟨i + 1, by omega, ?_⟩
      unfold insG
      rw [if_neg (by omega), if_neg (by omega)]
      rfl
theorem InsP_old {f : Nat → Int × Int × Int × Int} {m i : Nat} {p : Int × Int × Int × Int} (hf : SInc ltP f m) (hi : i < m) (h : f i = p) : InsP f m p f m :=
  ⟨hf, fun j hj => Or.inr ⟨j, hj, rfl⟩, ⟨i, hi, h⟩, fun j hj => ⟨j, hj, rfl⟩, by omega⟩
/-- a row of places in four cells -/
def PtAt (s : Sg) (c1 c2 c3 c4 : Nat) (m : Nat) (f : Nat → Int × Int × Int × Int) : Prop := ∀ j, j < m → s c1 j = (f j).1 ∧ s c2 j = (f j).2.1 ∧ s c3 j = (f j).2.2.1 ∧ s c4 j = (f j).2.2.2
