/-! the sweep: x's, heights, what goes through a slab -/
def Swp (D : Nat → Nat → Int) (n m : Nat) (f : Nat → Int × Int × Int × Int) (M : Nat) (g : Nat → Int × Int) : Prop := LsD D (n : Int) ∧ PtsOf D n f m ∧ m ≤ 65 ∧ XsOf f m g M ∧ M ≤ 65
noncomputable def XX (g : Nat → Int × Int) (b : Nat) : Int := scl (g b).1 (g b).2
noncomputable def Yv (D : Nat → Nat → Int) (g : Nat → Int × Int) (i b : Nat) : Int := scl (hgt D i (g b).1 (g b).2) ((D 2 i - D 0 i) * (g b).2)
theorem sw_x {D : Nat → Nat → Int} {n m M : Nat} {f : Nat → Int × Int × Int × Int} {g : Nat → Int × Int} (hS : Swp D n m f M g) {b : Nat} (hb : b < M) : FrB (g b).1 (g b).2 ∧ (0 < (g b).2 ∧ (g b).2 ≤ 3200) ∧ (0 ≤ (g b).1 ∧ (g b).1 ≤ 40 * (g b).2) := by
  obtain ⟨h, hP, hm, hX, hM⟩ := hS
  obtain ⟨p, hp, e⟩ := hX.2.1 b hb
  have fr := pts_fr h hP hp
  obtain ⟨p1, p2, p3, p4⟩ := (hP.1.2 p hp).1
  rw [e]
  exact ⟨fr.1, p2, by omega, fr.2.2.1⟩
theorem XX_mul {D : Nat → Nat → Int} {n m M : Nat} {f : Nat → Int × Int × Int × Int} {g : Nat → Int × Int} (hS : Swp D n m f M g) {b : Nat} (hb : b < M) : XX g b * (g b).2 = (g b).1 * KK := by
  have := sw_x hS hb
  exact scl_mul (by omega) (by omega)
theorem XX_lt {D : Nat → Nat → Int} {n m M : Nat} {f : Nat → Int × Int × Int × Int} {g : Nat → Int × Int} (hS : Swp D n m f M g) {a b : Nat} (hab : a < b) (hb : b < M) : XX g a < XX g b := hS.2.2.2.1.1 a b hab hb
theorem XX_ix {D : Nat → Nat → Int} {n m M : Nat} {f : Nat → Int × Int × Int × Int} {g : Nat → Int × Int} (hS : Swp D n m f M g) {a b : Nat} (ha : a < M) (hb : b < M) (h : XX g a < XX g b) : a < b := by
  rcases Nat.lt_trichotomy a b with c | c | c
  · exact c
  · subst c; omega
  · have := XX_lt hS c ha; omega
theorem XX_eq {D : Nat → Nat → Int} {n m M : Nat} {f : Nat → Int × Int × Int × Int} {g : Nat → Int × Int} (hS : Swp D n m f M g) {a b : Nat} (ha : a < M) (hb : b < M) (h : XX g a = XX g b) : a = b := by
  rcases Nat.lt_trichotomy a b with c | c | c
  · have := XX_lt hS c hb; omega
  · exact c
  · have := XX_lt hS c ha; omega
theorem XX_pt {D : Nat → Nat → Int} {n m M : Nat} {f : Nat → Int × Int × Int × Int} {g : Nat → Int × Int} (hS : Swp D n m f M g) {p : Nat} (hp : p < m) : ∃ b, b < M ∧ g b = ((f p).1, (f p).2.1) ∧ XX g b = sX (f p) := by
  obtain ⟨b, hb, e⟩ := hS.2.2.2.1.2.2 p hp
  refine ⟨b, hb, e, ?_⟩
  unfold XX sX
  rw [e]
theorem end_pt {D : Nat → Nat → Int} {n m : Nat} {f : Nat → Int × Int × Int × Int} (hP : PtsOf D n f m) {i : Nat} (hi : i < n) : (∃ p, p < m ∧ f p = endA D i) ∧ ∃ p, p < m ∧ f p = endB D i :=
  ⟨hP.2.2 _ (Or.inl ⟨i, hi, Or.inl rfl⟩), hP.2.2 _ (Or.inl ⟨i, hi, Or.inr rfl⟩)⟩
theorem XX_end {D : Nat → Nat → Int} {n m M : Nat} {f : Nat → Int × Int × Int × Int} {g : Nat → Int × Int} (hS : Swp D n m f M g) {i : Nat} (hi : i < n) : (∃ b, b < M ∧ XX g b = D 0 i * KK) ∧ ∃ b, b < M ∧ XX g b = D 2 i * KK := by
  obtain ⟨⟨p, hp, e⟩, ⟨q, hq, e2⟩⟩ := end_pt hS.2.1 hi
  obtain ⟨b, hb, -, e3⟩ := XX_pt hS hp
  obtain ⟨c, hc, -, e4⟩ := XX_pt hS hq
  refine ⟨⟨b, hb, ?_⟩, ⟨c, hc, ?_⟩⟩
  · rw [e3, e]; exact scl_1 _
  · rw [e4, e2]; exact scl_1 _
theorem rch_iff {D : Nat → Nat → Int} {n m M : Nat} {f : Nat → Int × Int × Int × Int} {g : Nat → Int × Int} (hS : Swp D n m f M g) {b : Nat} (hb : b < M) (a : Int) : (a * (g b).2 ≤ (g b).1 ↔ a * KK ≤ XX g b) ∧ ((g b).1 ≤ a * (g b).2 ↔ XX g b ≤ a * KK) := by
  have := sw_x hS hb
  have l := le_same (a := a) this.2.1.1 KK_pos (XX_mul hS hb)
  exact ⟨l.1.symm, l.2.symm⟩
theorem Yd_b {r d : Int} (hr : 0 < r ∧ r ≤ 40) (hd : 0 < d ∧ d ≤ 3200) : 0 < r * d ∧ r * d ≤ 128000 := by
  have h1 := Int.mul_pos hr.1 hd.1
  have h2 := mb (a := r) (b := d) (A := 40) (B := 3200) (by omega) (by omega)
  omega
theorem run_b {D : Nat → Nat → Int} {n : Int} {i : Nat} (h : LsD D n) (hi : (i : Int) < n) (hr : D 0 i < D 2 i) : 0 < D 2 i - D 0 i ∧ D 2 i - D 0 i ≤ 40 := by
  obtain ⟨⟨a1, a2, a3, a4⟩, -⟩ := h.2 i hi
  omega
theorem Yv_mul {D : Nat → Nat → Int} {n m M : Nat} {f : Nat → Int × Int × Int × Int} {g : Nat → Int × Int} (hS : Swp D n m f M g) {b i : Nat} (hb : b < M) (hi : i < n) (hr : D 0 i < D 2 i) : Yv D g i b * ((D 2 i - D 0 i) * (g b).2) = hgt D i (g b).1 (g b).2 * KK := by
  have := sw_x hS hb
  have r := run_b hS.1 (i := i) (by omega) hr
  have y := Yd_b r this.2.1
  exact scl_mul y.1 y.2
theorem Yv_eq {D : Nat → Nat → Int} {n m M : Nat} {f : Nat → Int × Int × Int × Int} {g : Nat → Int × Int} (hS : Swp D n m f M g) {b i : Nat} (hb : b < M) (hi : i < n) (hr : D 0 i < D 2 i) : (Yv D g i b - D 1 i * KK) * (D 2 i - D 0 i) = (XX g b - D 0 i * KK) * (D 3 i - D 1 i) := by
  have e1 := Yv_mul hS hb hi hr
  have e2 := XX_mul hS hb
  have x := sw_x hS hb
  unfold hgt at e1
  refine mul_can (c := (g b).2) (by omega) ?_
  generalize Yv D g i b = Y at *
  generalize XX g b = X at *
  generalize KK = k at *
  have t1 : (Y - D 1 i * k) * (D 2 i - D 0 i) * (g b).2 = Y * ((D 2 i - D 0 i) * (g b).2) - D 1 i * k * (D 2 i - D 0 i) * (g b).2 := by grind
  have t2 : (X - D 0 i * k) * (D 3 i - D 1 i) * (g b).2 = X * (g b).2 * (D 3 i - D 1 i) - D 0 i * k * (D 3 i - D 1 i) * (g b).2 := by grind
  rw [t1, t2, e1, e2]
  grind
theorem Yv_dif {D : Nat → Nat → Int} {n m M : Nat} {f : Nat → Int × Int × Int × Int} {g : Nat → Int × Int} (hS : Swp D n m f M g) {b c i : Nat} (hb : b < M) (hc : c < M) (hi : i < n) (hr : D 0 i < D 2 i) : (Yv D g i c - Yv D g i b) * (D 2 i - D 0 i) = (XX g c - XX g b) * (D 3 i - D 1 i) := by
  have e1 := Yv_eq hS hb hi hr
  have e2 := Yv_eq hS hc hi hr
  grind
theorem crH_iff {D : Nat → Nat → Int} {n m M : Nat} {f : Nat → Int × Int × Int × Int} {g : Nat → Int × Int} (hS : Swp D n m f M g) {b i j : Nat} (hb : b < M) (hi : i < n) (hj : j < n) (hri : D 0 i < D 2 i) (hrj : D 0 j < D 2 j) : (crH D (g b).1 (g b).2 i j < 0 ↔ Yv D g i b < Yv D g j b) ∧ (crH D (g b).1 (g b).2 i j = 0 ↔ Yv D g i b = Yv D g j b) ∧ (0 < crH D (g b).1 (g b).2 i j ↔ Yv D g j b < Yv D g i b) := by
  have x := sw_x hS hb
  have r1 := run_b hS.1 (i := i) (by omega) hri
  have r2 := run_b hS.1 (i := j) (by omega) hrj
  have y1 := Yd_b r1 x.2.1
  have y2 := Yd_b r2 x.2.1
  have c := scl_cmp (x := hgt D i (g b).1 (g b).2) (y := hgt D j (g b).1 (g b).2) y1.1 y1.2 y2.1 y2.2
  rw [← Yv.eq_1, ← Yv.eq_1] at c
  have e : hgt D i (g b).1 (g b).2 * ((D 2 j - D 0 j) * (g b).2) - hgt D j (g b).1 (g b).2 * ((D 2 i - D 0 i) * (g b).2) = crH D (g b).1 (g b).2 i j * (g b).2 := by unfold crH; grind
  rw [e] at c
  have s := sgn_same (P := crH D (g b).1 (g b).2 i j) (p := crH D (g b).1 (g b).2 i j * (g b).2) (d := (g b).2) (k := 1) x.2.1.1 (by omega) (by omega)
  omega
theorem cr_next {D : Nat → Nat → Int} {n m M : Nat} {f : Nat → Int × Int × Int × Int} {g : Nat → Int × Int} (hS : Swp D n m f M g) {b c i j : Nat} (hb : b < M) (hc : c < M) (hi : i < n) (hj : j < n) (hri : D 0 i < D 2 i) (hrj : D 0 j < D 2 j) : ((Yv D g i c - Yv D g j c) - (Yv D g i b - Yv D g j b)) * ((D 2 i - D 0 i) * (D 2 j - D 0 j)) = (XX g c - XX g b) * crR D i j := by
  have e1 := Yv_dif hS hb hc hi hri
  have e2 := Yv_dif hS hb hc hj hrj
  unfold crR
  generalize Yv D g i c = p at *
  generalize Yv D g i b = q at *
  generalize Yv D g j c = r at *
  generalize Yv D g j b = s at *
  have t : ((p - r) - (q - s)) * ((D 2 i - D 0 i) * (D 2 j - D 0 j)) = (p - q) * (D 2 i - D 0 i) * (D 2 j - D 0 j) - (r - s) * (D 2 j - D 0 j) * (D 2 i - D 0 i) := by grind
  rw [t, e1, e2]
  grind
/-- of two lines alike at an x the steeper one is above at the next -/
theorem cr_next0 {D : Nat → Nat → Int} {n m M : Nat} {f : Nat → Int × Int × Int × Int} {g : Nat → Int × Int} (hS : Swp D n m f M g) {b c i j : Nat} (hbc : b < c) (hc : c < M) (hi : i < n) (hj : j < n) (hri : D 0 i < D 2 i) (hrj : D 0 j < D 2 j) (h0 : Yv D g i b = Yv D g j b) : (crR D i j < 0 ↔ Yv D g i c < Yv D g j c) ∧ (crR D i j = 0 ↔ Yv D g i c = Yv D g j c) ∧ (0 < crR D i j ↔ Yv D g j c < Yv D g i c) := by
  have e := cr_next hS (show b < M by omega) hc hi hj hri hrj
  have x := XX_lt hS hbc hc
  have r1 := run_b hS.1 (i := i) (by omega) hri
  have r2 := run_b hS.1 (i := j) (by omega) hrj
  have e2 : crR D i j * (XX g c - XX g b) = (Yv D g i c - Yv D g j c) * ((D 2 i - D 0 i) * (D 2 j - D 0 j)) := by
    rw [h0, Int.sub_self, Int.sub_zero] at e
    rw [e, Int.mul_comm]
  have s := sgn_same (P := crR D i j) (p := Yv D g i c - Yv D g j c) (d := XX g c - XX g b) (k := (D 2 i - D 0 i) * (D 2 j - D 0 j)) (by omega) (Int.mul_pos r1.1 r2.1) e2
  omega
theorem meet_dl {D : Nat → Nat → Int} {n m M : Nat} {f : Nat → Int × Int × Int × Int} {g : Nat → Int × Int} (hS : Swp D n m f M g) {b i j : Nat} (hb : b < M) (hi : i < n) (hj : j < n) (hri : D 0 i < D 2 i) (hrj : D 0 j < D 2 j) (hd : ¬ dT D i j = 0) : (Yv D g i b - Yv D g j b) * ((D 2 i - D 0 i) * (D 2 j - D 0 j)) = mS D i j * (mX D i j * KK - mD D i j * XX g b) := by
  have e1 := Yv_eq hS hb hi hri
  have e2 := Yv_eq hS hb hj hrj
  have ss : mS D i j * mS D i j = 1 := by unfold mS; split <;> rfl
  have hX : mS D i j * mX D i j = D 0 i * dT D i j + tT D i j * mr D i := by
    unfold mX
    rw [if_neg hd]
    have : mS D i j * (D 0 i * (mS D i j * dT D i j) + mS D i j * tT D i j * mr D i) = mS D i j * mS D i j * (D 0 i * dT D i j + tT D i j * mr D i) := by grind
    rw [this, ss, Int.one_mul]
  have hD : mS D i j * mD D i j = dT D i j := by
    unfold mD
    rw [if_neg hd]
    have : mS D i j * (mS D i j * dT D i j) = mS D i j * mS D i j * dT D i j := by grind
    rw [this, ss, Int.one_mul]
  have t0 : mS D i j * (mX D i j * KK - mD D i j * XX g b) = mS D i j * mX D i j * KK - mS D i j * mD D i j * XX g b := by grind
  rw [t0, hX, hD]
  unfold dT tT mp mq
  have a1 : mr D i = D 2 i - D 0 i := rfl
  have a2 : mr D j = D 2 j - D 0 j := rfl
  have a3 : ms D i = D 3 i - D 1 i := rfl
  have a4 : ms D j = D 3 j - D 1 j := rfl
  rw [a1, a2, a3, a4]
  generalize Yv D g i b = p at *
  generalize Yv D g j b = q at *
  generalize XX g b = X at *
  generalize KK = k at *
  generalize D 2 i - D 0 i = r at *
  generalize D 2 j - D 0 j = s at *
  generalize D 3 i - D 1 i = u at *
  generalize D 3 j - D 1 j = v at *
  have t1 : (p - q) * (r * s) = (p - D 1 i * k) * r * s - (q - D 1 j * k) * s * r + (D 1 i - D 1 j) * k * r * s := by grind
  rw [t1, e1, e2]
  grind
theorem t_in {D : Nat → Nat → Int} {i j : Nat} {k X X' : Int} (hk : 0 < k) (hri : D 0 i < D 2 i) (hd : ¬ dT D i j = 0) (hW : 0 < mD D i j) (h1 : mD D i j * X < mX D i j * k) (h2 : mX D i j * k < mD D i j * X') (h3 : D 0 i * k ≤ X) (h4 : X' ≤ D 2 i * k) : 0 < mS D i j * tT D i j ∧ mS D i j * tT D i j < mS D i j * dT D i j := by
  have eW : mD D i j = mS D i j * dT D i j := by unfold mD; rw [if_neg hd]
  have eX : mX D i j = D 0 i * mD D i j + mS D i j * tT D i j * mr D i := by rw [eW]; unfold mX; rw [if_neg hd]
  have er : mr D i = D 2 i - D 0 i := rfl
  rw [← eW]
  generalize mS D i j * tT D i j = t at *
  generalize mX D i j = x at *
  generalize mD D i j = W at *
  have hr : 0 < mr D i * k := Int.mul_pos (by omega) hk
  have m1 := Int.mul_le_mul_of_nonneg_left h3 (show 0 ≤ W by omega)
  have m2 := Int.mul_le_mul_of_nonneg_left h4 (show 0 ≤ W by omega)
  have p1 : t * (mr D i * k) = x * k - W * (D 0 i * k) := by rw [eX]; grind
  have p2 : (W - t) * (mr D i * k) = W * (D 2 i * k) - x * k := by rw [eX, er]; grind
  constructor
  · apply Decidable.byContradiction
    intro z
    have := Int.mul_nonpos_of_nonpos_of_nonneg (show t ≤ 0 by omega) (show 0 ≤ mr D i * k by omega)
    omega
  · apply Decidable.byContradiction
    intro z
    have := Int.mul_nonpos_of_nonpos_of_nonneg (show W - t ≤ 0 by omega) (show 0 ≤ mr D i * k by omega)
    omega
theorem mK_is1 {D : Nat → Nat → Int} {i j : Nat} {k X X' : Int} (hk : 0 < k) (hri : D 0 i < D 2 i) (hrj : D 0 j < D 2 j) (hd : ¬ dT D i j = 0) (hW : 0 < mD D i j) (h1 : mD D i j * X < mX D i j * k) (h2 : mX D i j * k < mD D i j * X') (h3 : D 0 i * k ≤ X) (h4 : X' ≤ D 2 i * k) (h5 : D 0 j * k ≤ X) (h6 : X' ≤ D 2 j * k) : mK D i j = 1 := by
  have t1 := t_in hk hri hd hW h1 h2 h3 h4
  have d' : ¬ dT D j i = 0 := by have := dT_sw D i j; omega
  have sw := mXY_sw D i j
  have t2 := t_in (i := j) (j := i) hk hrj d' (by rw [sw.2.2]; exact hW) (by rw [sw.2.2, sw.1]; exact h1) (by rw [sw.2.2, sw.1]; exact h2) h5 h6
  obtain ⟨e1, e2, e3⟩ := mSd_sw D i j hd
  rw [e1, e2] at t2
  have hI : mIn D i j = true := mIn_iff.mpr ⟨⟨by omega, by omega⟩, by omega, by omega⟩
  have hE : ¬ mE D i j = true := by rw [mE_iff]; omega
  unfold mK
  rw [if_neg hd, if_pos hI, if_neg hE]
theorem mtP_x {D : Nat → Nat → Int} {n : Nat} {i j : Nat} (h : LsD D (n : Int)) (hi : i < n) (hj : j < n) (hk : mK D i j = 1 ∨ mK D i j = 2) : sX (mtP D i j) * mD D i j = mX D i j * KK ∧ sY (mtP D i j) * mD D i j = mY D i j * KK := by
  have hb := mXY_all h (a := i) (b := j) (by omega) (by omega) hk
  have lx := lo_R hb.1 hb.2.2
  have ly := lo_R hb.2.1 hb.2.2
  have ex := scl_mul (x := loN (mX D i j) (mD D i j)) (d := loD (mX D i j) (mD D i j)) (by omega) (by omega)
  have ey := scl_mul (x := loN (mY D i j) (mD D i j)) (d := loD (mY D i j) (mD D i j)) (by omega) (by omega)
  have g1 : sX (mtP D i j) = scl (loN (mX D i j) (mD D i j)) (loD (mX D i j) (mD D i j)) := rfl
  have g2 : sY (mtP D i j) = scl (loN (mY D i j) (mD D i j)) (loD (mY D i j) (mD D i j)) := rfl
  rw [g1, g2]
  constructor
  · refine mul_can (c := loD (mX D i j) (mD D i j)) (by omega) ?_
    rw [Int.mul_right_comm, ex, Int.mul_right_comm, lx.2.2.2]
    grind
  · refine mul_can (c := loD (mY D i j) (mD D i j)) (by omega) ?_
    rw [Int.mul_right_comm, ey, Int.mul_right_comm, ly.2.2.2]
    grind
theorem x_pt {D : Nat → Nat → Int} {n m : Nat} {f : Nat → Int × Int × Int × Int} (hP : PtsOf D n f m) (h : LsD D (n : Int)) {i j : Nat} (hi : i < n) (hj : j < n) (hk : mK D i j = 1) : ∃ p, p < m ∧ f p = mtP D i j := by
  rcases Nat.lt_trichotomy i j with c | c | c
  · exact hP.2.2 _ (Or.inr ⟨i, j, c, hj, hk, rfl⟩)
  · subst c
    exfalso
    have := (mK_1 hk).1
    unfold dT at this
    apply this
    grind
  · refine hP.2.2 _ (Or.inr ⟨j, i, c, hi, ?_, (mtP_sw D i j).symm⟩)
    rw [mK_sw h (a := i) (b := j) (by omega) (by omega)]
    exact hk
def thrB (D : Nat → Nat → Int) (g : Nat → Int × Int) (b i : Nat) : Bool := decide (D 0 i ≠ D 2 i ∧ D 0 i * (g b).2 ≤ (g b).1 ∧ (g (b + 1)).1 ≤ D 2 i * (g (b + 1)).2)
theorem thr_iff {D : Nat → Nat → Int} {n m M : Nat} {f : Nat → Int × Int × Int × Int} {g : Nat → Int × Int} (hS : Swp D n m f M g) {b i : Nat} (hb : b + 1 < M) (hi : i < n) : thrB D g b i = true ↔ (D 0 i < D 2 i ∧ D 0 i * KK ≤ XX g b ∧ XX g (b + 1) ≤ D 2 i * KK) := by
  unfold thrB
  rw [decide_eq_true_iff, (rch_iff hS (show b < M by omega) _).1, (rch_iff hS hb _).2]
  have := (hS.1.2 i (by omega)).2
  omega
/-- within a slab lines don't cross -/
theorem no_cross {D : Nat → Nat → Int} {n m M : Nat} {f : Nat → Int × Int × Int × Int} {g : Nat → Int × Int} (hS : Swp D n m f M g) {b i j : Nat} (hb : b + 1 < M) (hi : i < n) (hj : j < n) (ti : thrB D g b i = true) (tj : thrB D g b j = true) (h : Yv D g i b < Yv D g j b) : Yv D g i (b + 1) ≤ Yv D g j (b + 1) := by
  rw [thr_iff hS hb hi] at ti
  rw [thr_iff hS hb hj] at tj
  apply Decidable.byContradiction
  intro z
  have r1 := run_b hS.1 (i := i) (by omega) ti.1
  have r2 := run_b hS.1 (i := j) (by omega) tj.1
  have rr := Int.mul_pos r1.1 r2.1
  have x := XX_lt hS (show b < b + 1 by omega) hb
  have cn := cr_next hS (show b < M by omega) hb hi hj ti.1 tj.1
  have hcr : 0 < crR D i j := by
    have : 0 < (XX g (b + 1) - XX g b) * crR D i j := by
      rw [← cn]
      exact Int.mul_pos (by omega) rr
    apply Decidable.byContradiction
    intro q
    have := Int.mul_nonpos_of_nonneg_of_nonpos (show 0 ≤ XX g (b + 1) - XX g b by omega) (show crR D i j ≤ 0 by omega)
    omega
  have hdc : dT D i j = - crR D i j := by unfold dT crR mr ms; grind
  have hd : ¬ dT D i j = 0 := by omega
  have hms : mS D i j = -1 := by unfold mS; rw [if_pos (by omega)]
  have hW : mD D i j = crR D i j := by unfold mD; rw [if_neg hd, hms]; omega
  have d1 := meet_dl hS (show b < M by omega) hi hj ti.1 tj.1 hd
  have d2 := meet_dl hS hb hi hj ti.1 tj.1 hd
  rw [hms] at d1 d2
  have n1 : (Yv D g i b - Yv D g j b) * ((D 2 i - D 0 i) * (D 2 j - D 0 j)) < 0 := Int.mul_neg_of_neg_of_pos (by omega) rr
  have n2 : 0 < (Yv D g i (b + 1) - Yv D g j (b + 1)) * ((D 2 i - D 0 i) * (D 2 j - D 0 j)) := Int.mul_pos (by omega) rr
  have k1 : mD D i j * XX g b < mX D i j * KK := by omega
  have k2 : mX D i j * KK < mD D i j * XX g (b + 1) := by omega
  have hk := mK_is1 KK_pos ti.1 tj.1 hd (by omega) k1 k2 ti.2.1 ti.2.2 tj.2.1 tj.2.2
  obtain ⟨p, hp, ep⟩ := x_pt hS.2.1 hS.1 hi hj hk
  obtain ⟨c, hc, -, ec⟩ := XX_pt hS hp
  have ex := (mtP_x hS.1 hi hj (Or.inl hk)).1
  rw [← ep, ← ec] at ex
  have hWp : 0 < mD D i j := by omega
  have l1 : XX g b < XX g c := by
    apply Decidable.byContradiction
    intro q
    have := Int.mul_le_mul_of_nonneg_left (show XX g c ≤ XX g b by omega) (show 0 ≤ mD D i j by omega)
    rw [Int.mul_comm] at ex
    omega
  have l2 : XX g c < XX g (b + 1) := by
    apply Decidable.byContradiction
    intro q
    have := Int.mul_le_mul_of_nonneg_left (show XX g (b + 1) ≤ XX g c by omega) (show 0 ≤ mD D i j by omega)
    rw [Int.mul_comm] at ex
    omega
  have i1 := XX_ix hS (show b < M by omega) hc l1
  have i2 := XX_ix hS hc hb l2
  omega
theorem cmpT_thr {D : Nat → Nat → Int} {n m M : Nat} {f : Nat → Int × Int × Int × Int} {g : Nat → Int × Int} (hS : Swp D n m f M g) {b i j : Nat} (hb : b + 1 < M) (hi : i < n) (hj : j < n) (ti : thrB D g b i = true) (tj : thrB D g b j = true) : (cmpT D (g b).1 (g b).2 i j < 0 ↔ (Yv D g i b < Yv D g j b ∨ (Yv D g i b = Yv D g j b ∧ Yv D g i (b + 1) < Yv D g j (b + 1)))) ∧ (cmpT D (g b).1 (g b).2 i j = 0 ↔ (Yv D g i b = Yv D g j b ∧ Yv D g i (b + 1) = Yv D g j (b + 1))) ∧ (0 < cmpT D (g b).1 (g b).2 i j ↔ (Yv D g j b < Yv D g i b ∨ (Yv D g i b = Yv D g j b ∧ Yv D g j (b + 1) < Yv D g i (b + 1)))) := by
  rw [thr_iff hS hb hi] at ti
  rw [thr_iff hS hb hj] at tj
  have c := cmpT_iff D (g b).1 (g b).2 i j
  have cH := crH_iff hS (show b < M by omega) hi hj ti.1 tj.1
  have cR := cr_next0 hS (show b < b + 1 by omega) hb hi hj ti.1 tj.1
  rw [c.1, c.2.1, c.2.2, cH.1, cH.2.1, cH.2.2]
  by_cases z : Yv D g i b = Yv D g j b
  · have := cR z
    rw [this.1, this.2.1, this.2.2]
    omega
  · omega
