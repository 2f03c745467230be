/-! the parts, by places with an x and by points -/
theorem meet_at {D : Nat → Nat → Int} {n : Nat} (h : LsD D (n : Int)) {i j : Nat} {X Y : Int} (hi : i < n) (hj : j < n) (hd : ¬ dT D i j = 0) (h1 : OnS D KK i X Y) (h2 : OnS D KK j X Y) : (mK D i j = 1 ∨ mK D i j = 2) ∧ sX (mtP D i j) = X ∧ sY (mtP D i j) = Y := by
  have ss : mS D i j * mS D i j = 1 := by unfold mS; split <;> rfl
  have hW : 0 < mS D i j * dT D i j := by
    unfold mS
    split <;> omega
  have hDe : mD D i j = mS D i j * dT D i j := by unfold mD; rw [if_neg hd]
  have core : ∀ a b : Nat, a < n → b < n → ¬ dT D a b = 0 → 0 < mS D a b * dT D a b → OnS D KK a X Y → OnS D KK b X Y → ((0 ≤ mS D a b * tT D a b ∧ mS D a b * tT D a b ≤ mS D a b * dT D a b) ∧ X * (mS D a b * dT D a b) = (D 0 a * (mS D a b * dT D a b) + mS D a b * tT D a b * mr D a) * KK ∧ Y * (mS D a b * dT D a b) = (D 1 a * (mS D a b * dT D a b) + mS D a b * tT D a b * ms D a) * KK) := by
    intro a b ha hb hdd hWW g1 g2
    have kp := KK_pos
    have hl := (h.2 a (by omega)).2
    obtain ⟨⟨r1, r2⟩, ⟨q1, q2⟩, e1⟩ := g1
    obtain ⟨-, -, e2⟩ := g2
    have w1 : D 2 a - D 0 a = mr D a := rfl
    have w2 : D 3 a - D 1 a = ms D a := rfl
    have w3 : D 2 b - D 0 b = mr D b := rfl
    have w4 : D 3 b - D 1 b = ms D b := rfl
    rw [w1, w2] at e1
    rw [w3, w4] at e2
    have p0 : D 0 b = D 0 a + mp D a b := by unfold mp; omega
    have p1 : D 1 b = D 1 a + mq D a b := by unfold mq; omega
    rw [p0, p1] at e2
    have k1 : (X - D 0 a * KK) * dT D a b = tT D a b * mr D a * KK := by
      unfold dT tT
      grind
    have k2 : (Y - D 1 a * KK) * dT D a b = tT D a b * ms D a * KK := by
      unfold dT tT
      grind
    have k3 : (X - D 0 a * KK) * (mS D a b * dT D a b) = mS D a b * tT D a b * mr D a * KK := by
      have : (X - D 0 a * KK) * (mS D a b * dT D a b) = mS D a b * ((X - D 0 a * KK) * dT D a b) := by grind
      rw [this, k1]
      grind
    have k4 : (Y - D 1 a * KK) * (mS D a b * dT D a b) = mS D a b * tT D a b * ms D a * KK := by
      have : (Y - D 1 a * KK) * (mS D a b * dT D a b) = mS D a b * ((Y - D 1 a * KK) * dT D a b) := by grind
      rw [this, k2]
      grind
    generalize mS D a b * dT D a b = W at *
    generalize mS D a b * tT D a b = t at *
    refine ⟨?_, by grind, by grind⟩
    by_cases c : D 0 a < D 2 a
    · have hr : 0 < mr D a * KK := Int.mul_pos (by unfold mr; omega) kp
      have m1 : t * (mr D a * KK) = (X - D 0 a * KK) * W := by rw [k3]; grind
      have m2 : (W - t) * (mr D a * KK) = (D 2 a * KK - X) * W := by
        have : D 2 a = D 0 a + mr D a := by unfold mr; omega
        rw [this]; grind
      have n1 := nn_of hr (by rw [m1]; exact Int.mul_nonneg (by omega) (by omega))
      have n2 := nn_of hr (by rw [m2]; exact Int.mul_nonneg (by omega) (by omega))
      omega
    · have hs : 0 < ms D a * KK := Int.mul_pos (by unfold ms; omega) kp
      have y1 : D 1 a * KK ≤ Y ∧ Y ≤ D 3 a * KK := by
        unfold minI at q1
        unfold maxI at q2
        rw [if_neg (by omega)] at q1
        rw [if_pos (by omega)] at q2
        exact ⟨q1, q2⟩
      have m1 : t * (ms D a * KK) = (Y - D 1 a * KK) * W := by rw [k4]; grind
      have m2 : (W - t) * (ms D a * KK) = (D 3 a * KK - Y) * W := by
        have : D 3 a = D 1 a + ms D a := by unfold ms; omega
        rw [this]; grind
      have n1 := nn_of hs (by rw [m1]; exact Int.mul_nonneg (by omega) (by omega))
      have n2 := nn_of hs (by rw [m2]; exact Int.mul_nonneg (by omega) (by omega))
      omega
  have c1 := core i j hi hj hd hW h1 h2
  have d' : ¬ dT D j i = 0 := by have := dT_sw D i j; omega
  obtain ⟨e1, e2, e3⟩ := mSd_sw D i j hd
  have c2 := core j i hj hi d' (by rw [e1]; exact hW) h2 h1
  rw [e1, e2] at c2
  have hI : mIn D i j = true := mIn_iff.mpr ⟨c1.1, c2.1⟩
  have hk : mK D i j = 1 ∨ mK D i j = 2 := by
    unfold mK
    rw [if_neg hd, if_pos hI]
    split
    · exact Or.inr rfl
    · exact Or.inl rfl
  refine ⟨hk, ?_, ?_⟩
  · have ex := (mtP_x h hi hj hk).1
    rw [hDe] at ex
    have eX : mX D i j = D 0 i * (mS D i j * dT D i j) + mS D i j * tT D i j * mr D i := by unfold mX; rw [if_neg hd]
    rw [eX, ← c1.2.1] at ex
    exact mul_can (by omega) ex
  · have ey := (mtP_x h hi hj hk).2
    rw [hDe] at ey
    have eY : mY D i j = D 1 i * (mS D i j * dT D i j) + mS D i j * tT D i j * ms D i := by unfold mY; rw [if_neg hd]
    rw [eY, ← c1.2.2] at ey
    exact mul_can (by omega) ey
theorem mt_pt {D : Nat → Nat → Int} {n m : Nat} {f : Nat → Int × Int × Int × Int} (hP : PtsOf D n f m) (h : LsD D (n : Int)) {i j : Nat} (hi : i < n) (hj : j < n) (hk : mK D i j = 1 ∨ mK D i j = 2) : ∃ p, p < m ∧ f p = mtP D i j := by
  rcases hk with hk | hk
  · exact x_pt hP h hi hj hk
  · obtain ⟨a, ha, e⟩ := touch_end h (a := i) (b := j) (by omega) (by omega) hk
    have hp := end_pt hP (show a < n by omega)
    rcases e with e | e
    · rw [e]; exact hp.1
    · rw [e]; exact hp.2
/-- of points: on a line -/
theorem on_p {D : Nat → Nat → Int} {n m : Nat} {f : Nat → Int × Int × Int × Int} (hP : PtsOf D n f m) {p l : Nat} (hp : p < m) : onD D (f p) l = true ↔ OnS D KK l (sX (f p)) (sY (f p)) := on_S (hP.1.2 p hp).1
theorem end_s (D : Nat → Nat → Int) (i : Nat) : sX (endA D i) = D 0 i * KK ∧ sY (endA D i) = D 1 i * KK ∧ sX (endB D i) = D 2 i * KK ∧ sY (endB D i) = D 3 i * KK := ⟨scl_1 _, scl_1 _, scl_1 _, scl_1 _⟩
theorem pt_in {D : Nat → Nat → Int} {n m : Nat} {f : Nat → Int × Int × Int × Int} (hP : PtsOf D n f m) {p q : Nat} (hp : p < m) (hq : q < m) (h1 : sX (f p) = sX (f q)) (h2 : sY (f p) = sY (f q)) : p = q := by
  have e := sXY_eq (hP.1.2 p hp).1 (hP.1.2 q hq).1 (hP.1.2 p hp).2 (hP.1.2 q hq).2 h1 h2
  rcases Nat.lt_trichotomy p q with c | c | c
  · have := hP.1.1 p q c hq
    rw [e] at this
    exact absurd this (ltP_irr _)
  · exact c
  · have := hP.1.1 q p c hp
    rw [e] at this
    exact absurd this (ltP_irr _)
theorem pt_lt {D : Nat → Nat → Int} {n m : Nat} {f : Nat → Int × Int × Int × Int} (hP : PtsOf D n f m) {p q : Nat} (hp : p < m) (hq : q < m) : p < q ↔ (sX (f p) < sX (f q) ∨ (sX (f p) = sX (f q) ∧ sY (f p) < sY (f q))) := by
  constructor
  · intro c; exact sXY_lt (hP.1.1 p q c hq)
  · intro z
    rcases Nat.lt_trichotomy p q with c | c | c
    · exact c
    · subst c; omega
    · have := sXY_lt (hP.1.1 q p c hp)
      omega
/-- all points of a line are of one part -/
theorem lab_line {D : Nat → Nat → Int} {n m : Nat} {f : Nat → Int × Int × Int × Int} {lab : Nat → Nat} (hl : LabOf (nxR D f n) m lab) {l : Nat} (hln : l < n) : ∀ q, q < m → onD D (f q) l = true → ∀ p, p ≤ q → onD D (f p) l = true → lab p = lab q := by
  intro q
  induction q using Nat.strongRecOn with
  | _ q ih =>
    intro hq oq p hpq op
    by_cases e : p = q
    · rw [e]
    · have key : ∀ N, N ≤ q → p < N → ∃ j, p ≤ j ∧ j < N ∧ onD D (f j) l = true ∧ ∀ k, k < N → j < k → ¬ onD D (f k) l = true := by
        intro N
        induction N with
        | zero => intro _ h; exact absurd h (Nat.not_lt_zero _)
        | succ N ihN =>
          intro hN hpN
          by_cases c : onD D (f N) l = true
          · exact ⟨N, by omega, by omega, c, fun k h1 h2 => by omega⟩
          · by_cases d : p = N
            · subst d; exact absurd op c
            · obtain ⟨j, j1, j2, j3, j4⟩ := ihN (by omega) (by omega)
              refine ⟨j, j1, by omega, j3, fun k h1 h2 => ?_⟩
              by_cases d2 : k = N
              · subst d2; exact c
              · exact j4 k (by omega) h2
      obtain ⟨j, j1, j2, j3, j4⟩ := key q (Nat.le_refl _) (by omega)
      have r1 := hl.2.1 j q (by omega) hq ⟨l, hln, nxB_iff.mpr ⟨j2, j3, oq, j4⟩⟩
      rw [← r1]
      exact ih j j2 (by omega) j3 p j1 op
theorem lab_line2 {D : Nat → Nat → Int} {n m : Nat} {f : Nat → Int × Int × Int × Int} {lab : Nat → Nat} (hl : LabOf (nxR D f n) m lab) {l p q : Nat} (hln : l < n) (hp : p < m) (hq : q < m) (op : onD D (f p) l = true) (oq : onD D (f q) l = true) : lab p = lab q := by
  rcases Nat.le_total p q with c | c
  · exact lab_line hl hln q hq oq p c op
  · exact (lab_line hl hln p hp op q c oq).symm
/-- lines that share a place are of one part -/
theorem lab_share {D : Nat → Nat → Int} {n m : Nat} {f : Nat → Int × Int × Int × Int} {lab : Nat → Nat} (h : LsD D (n : Int)) (hP : PtsOf D n f m) (hl : LabOf (nxR D f n) m lab) {i j p q : Nat} {X Y : Int} (hi : i < n) (hj : j < n) (h1 : OnS D KK i X Y) (h2 : OnS D KK j X Y) (hp : p < m) (hq : q < m) (op : onD D (f p) i = true) (oq : onD D (f q) j = true) : lab p = lab q := by
  have kp := KK_pos
  by_cases hd : dT D i j = 0
  · have common : ∃ r, r < m ∧ onD D (f r) i = true ∧ onD D (f r) j = true := by
      obtain ⟨⟨pa, hpa, ea⟩, -⟩ := end_pt hP hi
      obtain ⟨⟨qa, hqa, eb⟩, -⟩ := end_pt hP hj
      have oa := (end_on h (i := i) (by omega)).1
      have ob := (end_on h (i := j) (by omega)).1
      have li := (h.2 i (by omega)).2
      have lj := (h.2 j (by omega)).2
      have es := end_s D i
      have et := end_s D j
      have oi : OnS D KK i (D 0 i * KK) (D 1 i * KK) := by
        have := (on_p hP hpa).mp (by rw [ea]; exact oa)
        rw [ea, es.1, es.2.1] at this
        exact this
      have oj : OnS D KK j (D 0 j * KK) (D 1 j * KK) := by
        have := (on_p hP hqa).mp (by rw [eb]; exact ob)
        rw [eb, et.1, et.2.1] at this
        exact this
      unfold dT mr ms at hd
      by_cases ui : D 0 i = D 2 i
      · have uj : D 0 j = D 2 j := by
          rw [← ui, Int.sub_self, Int.zero_mul, Int.zero_sub] at hd
          rcases Int.mul_eq_zero.mp (show (D 3 i - D 1 i) * (D 2 j - D 0 j) = 0 by omega) with z | z <;> omega
        rw [OnS_up ui (by omega)] at h1
        rw [OnS_up uj (by omega)] at h2
        rcases Int.le_total (D 1 i * KK) (D 1 j * KK) with c | c
        · refine ⟨qa, hqa, ?_, by rw [eb]; exact ob⟩
          rw [on_p hP hqa, eb, et.1, et.2.1, OnS_up ui (by omega)]
          omega
        · refine ⟨pa, hpa, by rw [ea]; exact oa, ?_⟩
          rw [on_p hP hpa, ea, es.1, es.2.1, OnS_up uj (by omega)]
          omega
      · have uj : ¬ D 0 j = D 2 j := by
          intro z
          rw [← z, Int.sub_self, Int.mul_zero, Int.sub_zero] at hd
          rcases Int.mul_eq_zero.mp hd with w | w <;> omega
        rw [OnS_fl kp (by omega)] at h1 h2 oi oj
        have e1 := h1.2
        have e2 := h2.2
        have ri : 0 < D 2 i - D 0 i := by omega
        have rj : 0 < D 2 j - D 0 j := by omega
        rcases Int.le_total (D 0 i * KK) (D 0 j * KK) with c | c
        · refine ⟨qa, hqa, ?_, by rw [eb]; exact ob⟩
          rw [on_p hP hqa, eb, et.1, et.2.1, OnS_fl kp (by omega)]
          refine ⟨by omega, ?_⟩
          generalize D 2 i - D 0 i = a at *
          generalize D 2 j - D 0 j = b at *
          generalize D 3 i - D 1 i = u at *
          generalize D 3 j - D 1 j = v at *
          refine mul_can (c := b) (by omega) ?_
          generalize D 0 i * KK = P at *
          generalize D 1 i * KK = Q at *
          generalize D 0 j * KK = R at *
          generalize D 1 j * KK = S at *
          have t1 : (R - P) * u * b = (X - P) * u * b - (X - R) * (u * b) := by grind
          have t2 : u * b = a * v := by omega
          rw [t1, e1, t2]
          have t3 : (X - R) * (a * v) = (X - R) * v * a := by grind
          rw [t3, e2]
          grind
        · refine ⟨pa, hpa, by rw [ea]; exact oa, ?_⟩
          rw [on_p hP hpa, ea, es.1, es.2.1, OnS_fl kp (by omega)]
          refine ⟨by omega, ?_⟩
          generalize D 2 i - D 0 i = a at *
          generalize D 2 j - D 0 j = b at *
          generalize D 3 i - D 1 i = u at *
          generalize D 3 j - D 1 j = v at *
          refine mul_can (c := a) (by omega) ?_
          generalize D 0 i * KK = P at *
          generalize D 1 i * KK = Q at *
          generalize D 0 j * KK = R at *
          generalize D 1 j * KK = S at *
          have t1 : (P - R) * v * a = (X - R) * v * a - (X - P) * (a * v) := by grind
          have t2 : a * v = u * b := by omega
          rw [t1, e2, t2]
          have t3 : (X - P) * (u * b) = (X - P) * u * b := by grind
          rw [t3, e1]
          grind
    obtain ⟨r, hr, r1, r2⟩ := common
    exact (lab_line2 hl hi hp hr op r1).trans (lab_line2 hl hj hr hq r2 oq)
  · obtain ⟨hk, ex, ey⟩ := meet_at h hi hj hd h1 h2
    obtain ⟨r, hr, er⟩ := mt_pt hP h hi hj hk
    have r1 : onD D (f r) i = true := by rw [on_p hP hr, er, ex, ey]; exact h1
    have r2 : onD D (f r) j = true := by rw [on_p hP hr, er, ex, ey]; exact h2
    exact (lab_line2 hl hi hp hr op r1).trans (lab_line2 hl hj hr hq r2 oq)
/-- of a line and an x: the place that it has there -/
theorem on_fl {D : Nat → Nat → Int} {n m M : Nat} {f : Nat → Int × Int × Int × Int} {g : Nat → Int × Int} (hS : Swp D n m f M g) {c i : Nat} {y : Int} (hc : c < M) (hi : i < n) (hu : D 0 i < D 2 i) : OnS D KK i (XX g c) y ↔ (rchB D g c i = true ∧ y = Yv D g i c) := by
  rw [OnS_fl KK_pos hu, rch_S hS hc]
  refine and_congr Iff.rfl ?_
  have e := Yv_eq hS hc hi hu
  rw [← e]
  constructor
  · intro z
    have := mul_can (show D 2 i - D 0 i ≠ 0 by omega) z
    omega
  · intro z; rw [z]
theorem on_up {D : Nat → Nat → Int} {n m M : Nat} {f : Nat → Int × Int × Int × Int} {g : Nat → Int × Int} (hS : Swp D n m f M g) {c i : Nat} {y : Int} (hc : c < M) (hi : i < n) (hu : D 0 i = D 2 i) : OnS D KK i (XX g c) y ↔ (rchB D g c i = true ∧ D 1 i * KK ≤ y ∧ y ≤ D 3 i * KK) := by
  have hl := (hS.1.2 i (by omega)).2
  rw [OnS_up hu (by omega), rch_S hS hc, ← hu]
  omega
theorem Tv_on {D : Nat → Nat → Int} {n m M : Nat} {f : Nat → Int × Int × Int × Int} {g : Nat → Int × Int} (hS : Swp D n m f M g) {c : Nat} {y : Int} (hc : c < M) (h : IsT D g n c y) : ∃ i, i < n ∧ OnS D KK i (XX g c) y := by
  obtain ⟨i, hi, hr, e⟩ := T_is h
  have hl := (hS.1.2 i (by omega)).2
  refine ⟨i, hi, ?_⟩
  rcases e with ⟨hu, rfl⟩ | ⟨hu, e⟩
  · exact (on_fl hS hc hi (by omega)).mpr ⟨hr, rfl⟩
  · have hm : D 1 i * KK ≤ D 3 i * KK := Int.mul_le_mul_of_nonneg_right (by omega) (by have := KK_pos; omega)
    refine (on_up hS hc hi hu).mpr ⟨hr, ?_⟩
    rcases e with rfl | rfl <;> omega
theorem pt_T {D : Nat → Nat → Int} {n m M : Nat} {f : Nat → Int × Int × Int × Int} {g : Nat → Int × Int} (hS : Swp D n m f M g) {c p : Nat} (hc : c < M) (hp : p < m) (hx : XX g c = sX (f p)) : IsT D g n c (sY (f p)) := by
  have h := hS.1
  have fl : ∀ i, i < n → D 0 i < D 2 i → onD D (f p) i = true → IsT D g n c (sY (f p)) := by
    intro i hi hu o
    rw [on_p hS.2.1 hp, ← hx, on_fl hS hc hi hu] at o
    rw [o.2]
    exact T_fl hi o.1 (by omega)
  rcases hS.2.1.2.1 p hp with ⟨i, hi, e⟩ | ⟨i, j, hij, hj, hk, e⟩
  · have hl := (h.2 i (by omega)).2
    by_cases hu : D 0 i = D 2 i
    · have es := end_s D i
      have hr : rchB D g c i = true := by
        rw [rch_S hS hc, hx, ← hu]
        rcases e with e | e
        · rw [e, es.1]; omega
        · rw [e, es.2.2.1, ← hu]; omega
      have t := T_up (g := g) (c := c) hi hr hu
      rcases e with e | e
      · rw [e, es.2.1]; exact t.1
      · rw [e, es.2.2.2]; exact t.2
    · refine fl i hi (by omega) ?_
      have := end_on h (i := i) (by omega)
      rcases e with e | e
      · rw [e]; exact this.1
      · rw [e]; exact this.2
  · obtain ⟨k1, k2, -⟩ := mK_1 hk
    have oi := meet_on h (a := i) (b := j) (by omega) (by omega) k1 k2
    have oj := meet_on2 h (a := i) (b := j) (by omega) (by omega) k1 k2
    rw [← e] at oi oj
    have li := (h.2 i (by omega)).2
    have lj := (h.2 j (by omega)).2
    by_cases ui : D 0 i = D 2 i
    · by_cases uj : D 0 j = D 2 j
      · exfalso
        apply k1
        unfold dT mr
        rw [ui, uj, Int.sub_self, Int.sub_self, Int.zero_mul, Int.mul_zero, Int.sub_zero]
      · exact fl j hj (by omega) oj
    · exact fl i (by omega) (by omega) oi
/-- the code of a place -/
noncomputable def cdV (D : Nat → Nat → Int) (g : Nat → Int × Int) (n c : Nat) (y : Int) : Nat := 32 * c + rk D g n c y
theorem cd_ok {D : Nat → Nat → Int} {n m M : Nat} {f : Nat → Int × Int × Int × Int} {g : Nat → Int × Int} (hS : Swp D n m f M g) {c : Nat} {y : Int} (hc : c < M) (h : IsT D g n c y) : cdV D g n c y < 32 * M ∧ prB D g n M (cdV D g n c y) = true := by
  have r := rk_lt h
  have t := tK_20 (D := D) (g := g) (n := n) (c := c) (by have := hS.1.1; omega)
  unfold cdV
  refine ⟨by omega, ?_⟩
  rw [pr_at D g n M hc (by omega), decide_eq_true_iff]
  exact r
theorem lbH_ok {D : Nat → Nat → Int} {n m M : Nat} {f : Nat → Int × Int × Int × Int} {g : Nat → Int × Int} (hS : Swp D n m f M g) : LabOf (fun x y => ∃ e, e ∈ lsH D g n M ∧ x = eU D g n M e ∧ y = eV D g n M e) (32 * M + 1) (lbH D g n M) := by
  refine Lab_congr (lbl_ok (A := eU D g n M) (B := eV D g n M) (n := 32 * M + 1) (lsH D g n M).reverse (fun e he => ?_)) (fun a b _ _ => ?_) (fun _ _ => rfl)
  · have := mem_H.mp (List.mem_reverse.mp he)
    exact (e_bd hS this.1 this.2.1).1
  · exact ⟨fun ⟨e, he, h1, h2⟩ => ⟨e, List.mem_reverse.mp he, h1, h2⟩, fun ⟨e, he, h1, h2⟩ => ⟨e, List.mem_reverse.mpr he, h1, h2⟩⟩
theorem grp_of {D : Nat → Nat → Int} {n m M : Nat} {f : Nat → Int × Int × Int × Int} {g : Nat → Int × Int} (hS : Swp D n m f M g) {b i : Nat} (hb : b + 1 < M) (hi : i < n) (t : thrB D g b i = true) : ∃ q, q < gcN D g n b ∧ GV D g n b q b = Yv D g i b ∧ GV D g n b q (b + 1) = Yv D g i (b + 1) := by
  obtain ⟨k, hk, e⟩ := rw_mem hi t
  have v := GV_k hS hb hk
  rw [e] at v
  exact ⟨gq D g n b k, gq_lt hk, v.1, v.2⟩
theorem walk_s {D : Nat → Nat → Int} {n m M : Nat} {f : Nat → Int × Int × Int × Int} {g : Nat → Int × Int} (hS : Swp D n m f M g) {c i : Nat} (hc : c + 1 < M) (hi : i < n) (t : thrB D g c i = true) : lbH D g n M (cdV D g n c (Yv D g i c)) = lbH D g n M (cdV D g n (c + 1) (Yv D g i (c + 1))) := by
  obtain ⟨q, hq, v1, v2⟩ := grp_of hS hc hi t
  have hn := hS.1.1
  have g10 := gc_le (g := g) (b := c) hS.1
  have en : nC D g n M (c + 1) = gcN D g n c + 1 := by unfold nC; rw [if_neg (by omega), Nat.add_sub_cancel]
  obtain ⟨a1, a2, a3, a4, a5⟩ := e_even D g n M (c := c + 1) (k := q) (by omega)
  obtain ⟨r1, r2, r3⟩ := thr_rch hS hc hi t
  have t1 := cd_ok hS (show c < M by omega) (T_fl hi r2 (by omega))
  have t2 := cd_ok hS hc (T_fl hi r3 (by omega))
  refine (lbH_ok hS).2.1 _ _ (by omega) (by omega) ⟨2 * (32 * (c + 1) + q), mem_H.mpr ⟨by omega, by rw [a1, decide_eq_true_iff]; omega, eH_even D g n (by omega)⟩, ?_, ?_⟩
  · rw [a2]
    unfold cdV EV
    rw [Nat.add_sub_cancel, v1]
  · rw [a3]
    unfold cdV EV
    rw [Nat.add_sub_cancel, v2]
theorem walk_u {D : Nat → Nat → Int} {n m M : Nat} {f : Nat → Int × Int × Int × Int} {g : Nat → Int × Int} (hS : Swp D n m f M g) {c i k : Nat} (hc : c < M) (hi : i < n) (hu : D 0 i = D 2 i) (hr : rchB D g c i = true) (h1 : rk D g n c (D 1 i * KK) ≤ k) (h2 : k < rk D g n c (D 3 i * KK)) : lbH D g n M (32 * c + k) = lbH D g n M (32 * c + (k + 1)) := by
  have hn := hS.1.1
  have t := rk_lt (T_up (g := g) (c := c) hi hr hu).2
  have t20 := tK_20 (D := D) (g := g) (n := n) (c := c) (by omega)
  obtain ⟨a1, a2, a3, a4, a5⟩ := e_odd D g n M (c := c) (k := k + 1) (by omega)
  refine (lbH_ok hS).2.1 _ _ (by omega) (by omega) ⟨2 * (32 * c + (k + 1)) + 1, mem_H.mpr ⟨by omega, by rw [a1, decide_eq_true_iff]; omega, ?_⟩, ?_, ?_⟩
  · rw [eH_odd D g n (by omega)]
    exact cov_iff.mpr ⟨i, hi, upS_iff.mpr ⟨hu, hr, by omega, by omega⟩⟩
  · rw [a2, if_neg (by omega), Nat.add_sub_cancel]
  · rw [a3, if_neg (by omega)]
/-- all that a line has with the x's is joined -/
theorem walk {D : Nat → Nat → Int} {n m M : Nat} {f : Nat → Int × Int × Int × Int} {g : Nat → Int × Int} (hS : Swp D n m f M g) {i : Nat} (hi : i < n) : ∀ c' c, c ≤ c' → c' < M → ∀ y y', IsT D g n c y → IsT D g n c' y' → OnS D KK i (XX g c) y → OnS D KK i (XX g c') y' → lbH D g n M (cdV D g n c y) = lbH D g n M (cdV D g n c' y') := by
  have hl := (hS.1.2 i (by omega)).2
  by_cases hu : D 0 i = D 2 i
  · intro c' c hcc hc' y y' ty ty' oy oy'
    have e : c = c' := by
      refine XX_eq hS (by omega) hc' ?_
      rw [OnS_up hu (by omega)] at oy oy'
      omega
    subst e
    have o1 := (on_up hS hc' hi hu).mp oy
    have o2 := (on_up hS hc' hi hu).mp oy'
    have tu := T_up (g := g) (c := c) hi o1.1 hu
    have rc : ∀ {a b : Int}, IsT D g n c a → IsT D g n c b → a ≤ b → rk D g n c a ≤ rk D g n c b := fun ha hb hab => rkI_mono hab
    have key : ∀ k', k' ≤ rk D g n c (D 3 i * KK) → ∀ k, rk D g n c (D 1 i * KK) ≤ k → k ≤ k' → lbH D g n M (32 * c + k) = lbH D g n M (32 * c + k') := by
      intro k'
      induction k' with
      | zero => intro _ k _ h; have : k = 0 := by omega
                rw [this]
      | succ k' ih =>
        intro h1 k h2 h3
        by_cases e : k = k' + 1
        · rw [e]
        · rw [ih (by omega) k h2 (by omega)]
          exact walk_u hS hc' hi hu o1.1 (by omega) (by omega)
    unfold cdV
    have a1 := rc tu.1 ty o1.2.1
    have a2 := rc ty tu.2 o1.2.2
    have a3 := rc tu.1 ty' o2.2.1
    have a4 := rc ty' tu.2 o2.2.2
    rcases Nat.le_total (rk D g n c y) (rk D g n c y') with q | q
    · exact key _ a4 _ a1 q
    · exact (key _ a2 _ a3 q).symm
  · have hu' : D 0 i < D 2 i := by omega
    intro c'
    induction c' with
    | zero =>
      intro c hcc hc' y y' ty ty' oy oy'
      have : c = 0 := by omega
      subst this
      rw [((on_fl hS hc' hi hu').mp oy).2, ((on_fl hS hc' hi hu').mp oy').2]
    | succ c' ih =>
      intro c hcc hc' y y' ty ty' oy oy'
      by_cases e : c = c' + 1
      · subst e
        rw [((on_fl hS hc' hi hu').mp oy).2, ((on_fl hS hc' hi hu').mp oy').2]
      · have o1 := (on_fl hS (show c < M by omega) hi hu').mp oy
        have o2 := (on_fl hS hc' hi hu').mp oy'
        have x1 := (rch_S hS (show c < M by omega) i).mp o1.1
        have x2 := (rch_S hS hc' i).mp o2.1
        have l1 := XX_lt hS (show c' < c' + 1 by omega) hc'
        have l0 : XX g c ≤ XX g c' := by
          by_cases z : c = c'
          · rw [z]; exact Int.le_refl _
          · have := XX_lt hS (show c < c' by omega) (by omega); omega
        have rc : rchB D g c' i = true := by rw [rch_S hS (by omega)]; omega
        have t : thrB D g c' i = true := by rw [thr_iff hS hc' hi]; exact ⟨hu', by omega, by omega⟩
        rw [ih c (by omega) (by omega) y (Yv D g i c') ty (T_fl hi rc (by omega)) oy ((on_fl hS (show c' < M by omega) hi hu').mpr ⟨rc, rfl⟩), o2.2]
        exact walk_s hS hc' hi t
noncomputable def pbX (g : Nat → Int × Int) (f : Nat → Int × Int × Int × Int) (M p : Nat) : Nat := by
  classical exact if h : ∃ c, c < M ∧ XX g c = sX (f p) then Classical.choose h else 0
theorem pb_ok {D : Nat → Nat → Int} {n m M : Nat} {f : Nat → Int × Int × Int × Int} {g : Nat → Int × Int} (hS : Swp D n m f M g) {p : Nat} (hp : p < m) : pbX g f M p < M ∧ XX g (pbX g f M p) = sX (f p) := by
  obtain ⟨c, hc, -, e⟩ := XX_pt hS hp
  have hx : ∃ c, c < M ∧ XX g c = sX (f p) := ⟨c, hc, e⟩
  unfold pbX
  rw [dif_pos hx]
  exact Classical.choose_spec hx
/-- the code of a point -/
noncomputable def cdP (D : Nat → Nat → Int) (g : Nat → Int × Int) (f : Nat → Int × Int × Int × Int) (n M p : Nat) : Nat := cdV D g n (pbX g f M p) (sY (f p))
theorem cdP_ok {D : Nat → Nat → Int} {n m M : Nat} {f : Nat → Int × Int × Int × Int} {g : Nat → Int × Int} (hS : Swp D n m f M g) {p : Nat} (hp : p < m) : cdP D g f n M p < 32 * M ∧ prB D g n M (cdP D g f n M p) = true := by
  obtain ⟨h1, h2⟩ := pb_ok hS hp
  exact cd_ok hS h1 (pt_T hS h1 hp h2)
theorem cdP_in {D : Nat → Nat → Int} {n m M : Nat} {f : Nat → Int × Int × Int × Int} {g : Nat → Int × Int} (hS : Swp D n m f M g) {p q : Nat} (hp : p < m) (hq : q < m) (h : cdP D g f n M p = cdP D g f n M q) : p = q := by
  obtain ⟨h1, h2⟩ := pb_ok hS hp
  obtain ⟨h3, h4⟩ := pb_ok hS hq
  have t1 := pt_T hS h1 hp h2
  have t2 := pt_T hS h3 hq h4
  have r1 := rk_lt t1
  have r2 := rk_lt t2
  have k1 := tK_20 (D := D) (g := g) (n := n) (c := pbX g f M p) (by have := hS.1.1; omega)
  have k2 := tK_20 (D := D) (g := g) (n := n) (c := pbX g f M q) (by have := hS.1.1; omega)
  unfold cdP cdV at h
  have e : pbX g f M p = pbX g f M q := by omega
  rw [← e] at t2 h h4
  refine pt_in hS.2.1 hp hq (by omega) ((rk_cmp t1 t2).2.mp (by omega))
noncomputable def lnX (D : Nat → Nat → Int) (g : Nat → Int × Int) (n x : Nat) : Nat := by
  classical exact if h : ∃ i, i < n ∧ OnS D KK i (XX g (x / 32)) (tau D g n (x / 32) (x % 32)) then Classical.choose h else 0
theorem ln_ok {D : Nat → Nat → Int} {n m M : Nat} {f : Nat → Int × Int × Int × Int} {g : Nat → Int × Int} (hS : Swp D n m f M g) {x : Nat} (hx : prB D g n M x = true) : lnX D g n x < n ∧ OnS D KK (lnX D g n x) (XX g (x / 32)) (tau D g n (x / 32) (x % 32)) ∧ x / 32 < M ∧ IsT D g n (x / 32) (tau D g n (x / 32) (x % 32)) ∧ cdV D g n (x / 32) (tau D g n (x / 32) (x % 32)) = x := by
  unfold prB at hx
  rw [decide_eq_true_iff] at hx
  have t : IsT D g n (x / 32) (tau D g n (x / 32) (x % 32)) := ⟨_, hx.2, rfl⟩
  have hx2 := Tv_on hS (show x / 32 < M by omega) t
  unfold lnX
  rw [dif_pos hx2]
  have s := Classical.choose_spec hx2
  refine ⟨s.1, s.2, by omega, t, ?_⟩
  unfold cdV
  rw [rk_tau hx.2]
  omega
noncomputable def gnX (D : Nat → Nat → Int) (g : Nat → Int × Int) (f : Nat → Int × Int × Int × Int) (n m x : Nat) : Nat := by
  classical exact if h : ∃ p, p < m ∧ f p = endA D (lnX D g n x) then Classical.choose h else 0
theorem gn_ok {D : Nat → Nat → Int} {n m M : Nat} {f : Nat → Int × Int × Int × Int} {g : Nat → Int × Int} (hS : Swp D n m f M g) {x : Nat} (hx : prB D g n M x = true) : gnX D g f n m x < m ∧ f (gnX D g f n m x) = endA D (lnX D g n x) := by
  have h := (end_pt hS.2.1 (ln_ok hS hx).1).1
  unfold gnX
  rw [dif_pos h]
  exact Classical.choose_spec h
theorem parts_eq {D : Nat → Nat → Int} {n m M : Nat} {f : Nat → Int × Int × Int × Int} {g : Nat → Int × Int} (hS : Swp D n m f M g) {lab : Nat → Nat} (hl : LabOf (nxR D f n) m lab) : cntN (fun i => lab i == i) m = cntN (fun x => prB D g n M x && lbH D g n M x == x) (32 * M) := by
  have h := hS.1
  have hP := hS.2.1
  have c := Lab_cls (P := prB D g n M) (cdP D g f n M) (gnX D g f n m) hl (lbH_ok hS) (fun a b _ _ r => ?_) (fun p hp => ⟨by have := (cdP_ok hS hp).1; omega, (cdP_ok hS hp).2⟩) (fun x _ px => (gn_ok hS px).1) (fun p q hp hq r => ?_) (fun x y hx hy r px py => ?_) (fun p hp => ?_) (fun x hx px => ?_)
  · rw [c, cntN_s, if_neg]
    rw [Bool.and_eq_true]
    intro z
    have := z.1
    unfold prB at this
    rw [decide_eq_true_iff] at this
    omega
  · obtain ⟨e, he, rfl, rfl⟩ := r
    obtain ⟨h1, h2, h3⟩ := mem_H.mp he
    have ep := ends_pr hS h1 h2
    have nz : ∀ y, (y = 32 * M ∨ prB D g n M y = true) → y ≠ 32 * M → prB D g n M y = true := fun y hy hne => hy.resolve_left hne
    obtain ⟨c, k, hc, hk, rfl | rfl⟩ := e_form h1
    · obtain ⟨a1, a2, a3, a4, a5⟩ := e_even D g n M (c := c) hk
      rw [a1, decide_eq_true_iff] at h2
      obtain ⟨k1, k2, -⟩ := EV_ok hS (s := c) (c := c) h2 (Or.inl rfl)
      have r1 := rk_32 hS (s := c) (c := c) h2 (Or.inl rfl)
      have r2 := rk_32 hS (s := c) (c := c - 1) h2 (Or.inr (by omega))
      rw [nz _ ep.1 (by rw [a2]; omega), nz _ ep.2 (by rw [a3]; omega)]
    · obtain ⟨a1, a2, a3, a4, a5⟩ := e_odd D g n M (c := c) hk
      rw [a1, decide_eq_true_iff] at h2
      rw [eH_odd D g n hk] at h3
      have := cov_r h3
      rw [nz _ ep.1 (by rw [a2, if_neg (by omega)]; omega), nz _ ep.2 (by rw [a3, if_neg (by omega)]; omega)]
  · obtain ⟨l, hln, r⟩ := r
    rw [nxB_iff] at r
    obtain ⟨b1, b2⟩ := pb_ok hS hp
    obtain ⟨b3, b4⟩ := pb_ok hS hq
    have o1 := (on_p hP hp).mp r.2.1
    have o2 := (on_p hP hq).mp r.2.2.1
    rw [← b2] at o1
    rw [← b4] at o2
    have lt := (pt_lt hP hp hq).mp r.1
    have cc : pbX g f M p ≤ pbX g f M q := by
      apply Decidable.byContradiction
      intro z
      have := XX_lt hS (show pbX g f M q < pbX g f M p by omega) b1
      omega
    exact walk hS hln _ _ cc b3 _ _ (pt_T hS b1 hp b2) (pt_T hS b3 hq b4) o1 o2
  · obtain ⟨e, he, rfl, rfl⟩ := r
    obtain ⟨h1, h2, h3⟩ := mem_H.mp he
    obtain ⟨g1, g2⟩ := gn_ok hS px
    obtain ⟨g3, g4⟩ := gn_ok hS py
    obtain ⟨l1, l2, l3, l4, l5⟩ := ln_ok hS px
    obtain ⟨l6, l7, l8, l9, l10⟩ := ln_ok hS py
    have ea := (end_on h (i := lnX D g n (eU D g n M e)) (by omega)).1
    have eb := (end_on h (i := lnX D g n (eV D g n M e)) (by omega)).1
    rw [← g2] at ea
    rw [← g4] at eb
    have both : ∃ i, i < n ∧ OnS D KK i (XX g (eU D g n M e / 32)) (tau D g n (eU D g n M e / 32) (eU D g n M e % 32)) ∧ OnS D KK i (XX g (eV D g n M e / 32)) (tau D g n (eV D g n M e / 32) (eV D g n M e % 32)) := by
      obtain ⟨c, k, hc, hk, rfl | rfl⟩ := e_form h1
      · obtain ⟨a1, a2, a3, a4, a5⟩ := e_even D g n M (c := c) hk
        rw [a1, decide_eq_true_iff] at h2
        obtain ⟨k1, k2, k3, k4, -⟩ := EV_ok hS (s := c) (c := c) h2 (Or.inl rfl)
        have k5 := (EV_ok hS (s := c) (c := c - 1) h2 (Or.inr (by omega))).2.2.2.1
        have r1 := rk_32 hS (s := c) (c := c) h2 (Or.inl rfl)
        have r2 := rk_32 hS (s := c) (c := c - 1) h2 (Or.inr (by omega))
        have hb : (c - 1) + 1 < M := by omega
        obtain ⟨i, hi, hh⟩ := hiP_ex (D := D) (g := g) (n := n) (b := c - 1) (q := k) (by omega)
        obtain ⟨w1, w2, w3, w4, w5⟩ := hiP_ok hS hb hh
        obtain ⟨z1, z2, z3⟩ := thr_rch hS hb hi w2
        rw [a2, a3, show (32 * (c - 1) + rk D g n (c - 1) (EV D g n c k (c - 1))) / 32 = c - 1 by omega, show (32 * (c - 1) + rk D g n (c - 1) (EV D g n c k (c - 1))) % 32 = rk D g n (c - 1) (EV D g n c k (c - 1)) by omega, show (32 * c + rk D g n c (EV D g n c k c)) / 32 = c by omega, show (32 * c + rk D g n c (EV D g n c k c)) % 32 = rk D g n c (EV D g n c k c) by omega, tau_rk k4, tau_rk k5]
        refine ⟨i, hi, (on_fl hS (by omega) hi z1).mpr ⟨z2, w4.symm⟩, ?_⟩
        rw [show c - 1 + 1 = c by omega] at z3 w5
        exact (on_fl hS (by omega) hi z1).mpr ⟨z3, w5.symm⟩
      · obtain ⟨a1, a2, a3, a4, a5⟩ := e_odd D g n M (c := c) hk
        rw [a1, decide_eq_true_iff] at h2
        rw [eH_odd D g n hk] at h3
        have cr := cov_r h3
        obtain ⟨i, hi, hu⟩ := cov_iff.mp h3
        rw [upS_iff] at hu
        have tu := T_up (g := g) (c := c) hi hu.2.1 hu.1
        have tt : ∀ y, y < tK D g n c → rk D g n c (D 1 i * KK) ≤ y → y ≤ rk D g n c (D 3 i * KK) → D 1 i * KK ≤ tau D g n c y ∧ tau D g n c y ≤ D 3 i * KK := by
          intro y hy y1 y2
          have ty : IsT D g n c (tau D g n c y) := ⟨y, hy, rfl⟩
          have q1 := rk_cmp ty tu.1
          have q2 := rk_cmp tu.2 ty
          rw [rk_tau hy] at q1 q2
          omega
        rw [a2, a3, if_neg (by omega), if_neg (by omega), show (32 * c + (k - 1)) / 32 = c by omega, show (32 * c + (k - 1)) % 32 = k - 1 by omega, show (32 * c + k) / 32 = c by omega, show (32 * c + k) % 32 = k by omega]
        exact ⟨i, hi, (on_up hS h2.1 hi hu.1).mpr ⟨hu.2.1, tt _ (by omega) (by omega) (by omega)⟩, (on_up hS h2.1 hi hu.1).mpr ⟨hu.2.1, tt _ (by omega) (by omega) (by omega)⟩⟩
    obtain ⟨i, hi, o1, o2⟩ := both
    obtain ⟨⟨pa, hpa, epa⟩, -⟩ := end_pt hP hi
    have oa := (end_on h (i := i) (by omega)).1
    rw [← epa] at oa
    exact (lab_share h hP hl l1 hi l2 o1 g1 hpa ea oa).trans (lab_share h hP hl hi l6 o2 l7 hpa g3 oa eb)
  · have px := (cdP_ok hS hp).2
    obtain ⟨g1, g2⟩ := gn_ok hS px
    obtain ⟨l1, l2, l3, l4, l5⟩ := ln_ok hS px
    have ea := (end_on h (i := lnX D g n (cdP D g f n M p)) (by omega)).1
    rw [← g2] at ea
    obtain ⟨b1, b2⟩ := pb_ok hS hp
    have t := pt_T hS b1 hp b2
    have r := rk_lt t
    have t20 := tK_20 (D := D) (g := g) (n := n) (c := pbX g f M p) (by have := h.1; omega)
    have e1 : cdP D g f n M p / 32 = pbX g f M p := by unfold cdP cdV; omega
    have e2 : cdP D g f n M p % 32 = rk D g n (pbX g f M p) (sY (f p)) := by unfold cdP cdV; omega
    rw [e1, e2, tau_rk t, b2] at l2
    exact lab_line2 hl l1 g1 hp ea ((on_p hP hp).mpr l2)
  · obtain ⟨g1, g2⟩ := gn_ok hS px
    obtain ⟨l1, l2, l3, l4, l5⟩ := ln_ok hS px
    obtain ⟨b1, b2⟩ := pb_ok hS g1
    have ea := (end_on h (i := lnX D g n x) (by omega)).1
    rw [← g2, on_p hP g1, ← b2] at ea
    have t := pt_T hS b1 g1 b2
    have w : lbH D g n M (cdV D g n (pbX g f M (gnX D g f n m x)) (sY (f (gnX D g f n m x)))) = lbH D g n M (cdV D g n (x / 32) (tau D g n (x / 32) (x % 32))) := by
      rcases Nat.le_total (pbX g f M (gnX D g f n m x)) (x / 32) with q | q
      · exact walk hS l1 _ _ q l3 _ _ t l4 ea l2
      · exact (walk hS l1 _ _ q b1 _ _ l4 t l2 ea).symm
    rw [l5] at w
    exact w
