/-! the class's points: lines through them, pieces, parts -/
theorem nn_of {z W : Int} (hW : 0 < W) (h : 0 ≤ z * W) : 0 ≤ z := by
  apply Decidable.byContradiction
  intro c
  have := Int.mul_neg_of_neg_of_pos (show z < 0 by omega) hW
  omega
def onD (D : Nat → Nat → Int) (q : Int × Int × Int × Int) (i : Nat) : Bool := onB (D 0 i) (D 1 i) (D 2 i) (D 3 i) q.1 q.2.1 q.2.2.1 q.2.2.2
theorem onD_iff {D : Nat → Nat → Int} {q : Int × Int × Int × Int} {i : Nat} : onD D q i = true ↔ OnL (D 0 i) (D 1 i) (D 2 i) (D 3 i) q.1 q.2.1 q.2.2.1 q.2.2.2 := onB_iff
theorem end_on {D : Nat → Nat → Int} {n : Int} {i : Nat} (h : LsD D n) (hi : (i : Int) < n) : onD D (endA D i) i = true ∧ onD D (endB D i) i = true := by
  obtain ⟨⟨a1, a2, a3, a4⟩, hl⟩ := h.2 i hi
  rw [onD_iff, onD_iff]
  unfold OnL endA endB minI maxI
  simp only [Int.mul_one, Int.sub_self, Int.zero_mul]
  refine ⟨⟨by omega, by split <;> split <;> omega, trivial⟩, ⟨by omega, by split <;> split <;> omega, ?_⟩⟩
  exact Int.mul_comm _ _
theorem sc_le {p W x X d T r a : Int} (e : x * W = X * d) (e2 : X = a * W + T * r) : (x - a * d) * W = T * r * d := by
  subst e2
  grind
theorem meet_on {D : Nat → Nat → Int} {n : Int} {a b : Nat} (h : LsD D n) (ha : (a : Int) < n) (hb : (b : Int) < n) (hd : ¬ dT D a b = 0) (hi : mIn D a b = true) : onD D (mtP D a b) a = true := by
  have hxy := mXY_b h ha hb hd hi
  obtain ⟨⟨a1, a2, a3, a4⟩, hl⟩ := h.2 a ha
  rw [mIn_iff] at hi
  have hX : mX D a b = D 0 a * mD D a b + mS D a b * tT D a b * mr D a := by unfold mX mD; rw [if_neg hd, if_neg hd]
  have hY : mY D a b = D 1 a * mD D a b + mS D a b * tT D a b * ms D a := by unfold mY mD; rw [if_neg hd, if_neg hd]
  have hW : mS D a b * dT D a b = mD D a b := by unfold mD; rw [if_neg hd]
  rw [hW] at hi
  have lx := lo_R hxy.1 hxy.2.2.1
  have ly := lo_R hxy.2.1 hxy.2.2.1
  rw [onD_iff]
  unfold mtP loP OnL
  dsimp only
  generalize loN (mX D a b) (mD D a b) = x at *
  generalize loD (mX D a b) (mD D a b) = xd at *
  generalize loN (mY D a b) (mD D a b) = y at *
  generalize loD (mY D a b) (mD D a b) = yd at *
  have e1 := lx.2.2.2
  have e2 := ly.2.2.2
  rw [hX] at e1
  rw [hY] at e2
  have hWp := hxy.2.2.1.1
  generalize mD D a b = W at *
  generalize mS D a b * tT D a b = T at *
  have er : D 2 a = D 0 a + mr D a := by unfold mr; omega
  have es : D 3 a = D 1 a + ms D a := by unfold ms; omega
  have hr : 0 ≤ mr D a := by unfold mr; omega
  have g1 : (x - D 0 a * xd) * W = T * mr D a * xd := by grind
  have g2 : (D 2 a * xd - x) * W = (W - T) * mr D a * xd := by rw [er]; grind
  have g3 : (y - D 1 a * yd) * W = T * ms D a * yd := by grind
  have g4 : (D 3 a * yd - y) * W = (W - T) * ms D a * yd := by rw [es]; grind
  have n1 : 0 ≤ T * mr D a * xd := Int.mul_nonneg (Int.mul_nonneg (by omega) hr) (by omega)
  have n2 : 0 ≤ (W - T) * mr D a * xd := Int.mul_nonneg (Int.mul_nonneg (by omega) hr) (by omega)
  have k1 := nn_of hWp (by rw [g1]; exact n1)
  have k2 := nn_of hWp (by rw [g2]; exact n2)
  refine ⟨⟨by omega, by omega⟩, ?_, ?_⟩
  · unfold minI maxI
    by_cases c : D 3 a < D 1 a
    · rw [if_pos c, if_neg (by omega)]
      have m3 : 0 ≤ -(T * ms D a * yd) := by
        have : 0 ≤ T * (- ms D a) * yd := Int.mul_nonneg (Int.mul_nonneg (by omega) (by omega)) (by omega)
        rw [Int.mul_neg, Int.neg_mul] at this
        exact this
      have m4 : 0 ≤ -((W - T) * ms D a * yd) := by
        have : 0 ≤ (W - T) * (- ms D a) * yd := Int.mul_nonneg (Int.mul_nonneg (by omega) (by omega)) (by omega)
        rw [Int.mul_neg, Int.neg_mul] at this
        exact this
      have k3 := nn_of (z := -(y - D 1 a * yd)) hWp (by rw [Int.neg_mul, g3]; exact m3)
      have k4 := nn_of (z := -(D 3 a * yd - y)) hWp (by rw [Int.neg_mul, g4]; exact m4)
      exact ⟨by omega, by omega⟩
    · rw [if_neg c]
      have m3 : 0 ≤ T * ms D a * yd := Int.mul_nonneg (Int.mul_nonneg (by omega) (by omega)) (by omega)
      have m4 : 0 ≤ (W - T) * ms D a * yd := Int.mul_nonneg (Int.mul_nonneg (by omega) (by omega)) (by omega)
      have k3 := nn_of hWp (by rw [g3]; exact m3)
      have k4 := nn_of hWp (by rw [g4]; exact m4)
      refine ⟨by omega, ?_⟩
      split
      · omega
      · have : D 3 a = D 1 a := by omega
        rw [this] at k4
        omega
  · refine Int.eq_of_mul_eq_mul_right (show W ≠ 0 by omega) ?_
    have w1 : D 3 a - D 1 a = ms D a := rfl
    have w2 : D 2 a - D 0 a = mr D a := rfl
    rw [w1, w2]
    generalize x - D 0 a * xd = P at *
    generalize y - D 1 a * yd = Q at *
    have t1 : P * yd * ms D a * W = P * W * yd * ms D a := by grind
    have t2 : Q * xd * mr D a * W = Q * W * xd * mr D a := by grind
    rw [t1, t2, g1, g3]
    grind
theorem meet_on2 {D : Nat → Nat → Int} {n : Int} {a b : Nat} (h : LsD D n) (ha : (a : Int) < n) (hb : (b : Int) < n) (hd : ¬ dT D a b = 0) (hi : mIn D a b = true) : onD D (mtP D a b) b = true := by
  have c' : ¬ dT D b a = 0 := by have := dT_sw D a b; omega
  obtain ⟨e1, e2, e3⟩ := mSd_sw D a b hd
  have hI : mIn D b a = true := by
    rw [mIn_iff] at hi ⊢
    rw [e1, e2, e3]
    omega
  have := meet_on h hb ha c' hI
  rw [mtP_sw] at this
  exact this
theorem mK_1 {D : Nat → Nat → Int} {a b : Nat} (hk : mK D a b = 1) : ¬ dT D a b = 0 ∧ mIn D a b = true ∧ ¬ mE D a b = true := by
  unfold mK at hk
  by_cases c : dT D a b = 0
  · rw [if_pos c] at hk
    split at hk
    · split at hk
      · omega
      · split at hk <;> omega
    · omega
  · rw [if_neg c] at hk
    by_cases c2 : mIn D a b = true
    · rw [if_pos c2] at hk
      by_cases c3 : mE D a b = true
      · rw [if_pos c3] at hk; omega
      · exact ⟨c, c2, c3⟩
    · rw [if_neg c2] at hk; omega
theorem on_fr {D : Nat → Nat → Int} {n : Int} {i : Nat} {q : Int × Int × Int × Int} (h : LsD D n) (hi : (i : Int) < n) (hq : PlB q) (ho : onD D q i = true) : FrB q.1 q.2.1 ∧ FrB q.2.2.1 q.2.2.2 ∧ q.1 ≤ 40 * q.2.1 ∧ q.2.2.1 ≤ 40 * q.2.2.2 := by
  obtain ⟨⟨a1, a2, a3, a4⟩, hl⟩ := h.2 i hi
  obtain ⟨q1, q2, q3, q4⟩ := hq
  rw [onD_iff] at ho
  obtain ⟨o1, o2, -⟩ := ho
  have b1 := maxI_b a2 a4
  have k1 : D 2 i * q.2.1 ≤ 40 * q.2.1 := Int.mul_le_mul_of_nonneg_right a3.2 (by omega)
  have k2 : maxI (D 1 i) (D 3 i) * q.2.2.2 ≤ 40 * q.2.2.2 := Int.mul_le_mul_of_nonneg_right b1.2 (by omega)
  exact ⟨⟨by omega, by omega⟩, ⟨by omega, by omega⟩, by omega, by omega⟩
theorem pts_on {D : Nat → Nat → Int} {n m : Nat} {f : Nat → Int × Int × Int × Int} (h : LsD D (n : Int)) (hP : PtsOf D n f m) {p : Nat} (hp : p < m) : ∃ i, i < n ∧ onD D (f p) i = true := by
  rcases hP.2.1 p hp with ⟨i, hi, e⟩ | ⟨i, j, hij, hj, hk, e⟩
  · have := end_on h (i := i) (by omega)
    refine ⟨i, hi, ?_⟩
    rcases e with e | e <;> rw [e]
    · exact this.1
    · exact this.2
  · obtain ⟨k1, k2, -⟩ := mK_1 hk
    exact ⟨i, by omega, by rw [e]; exact meet_on h (by omega) (by omega) k1 k2⟩
theorem pts_fr {D : Nat → Nat → Int} {n m : Nat} {f : Nat → Int × Int × Int × Int} (h : LsD D (n : Int)) (hP : PtsOf D n f m) {p : Nat} (hp : p < m) : FrB (f p).1 (f p).2.1 ∧ FrB (f p).2.2.1 (f p).2.2.2 ∧ (f p).1 ≤ 40 * (f p).2.1 ∧ (f p).2.2.1 ≤ 40 * (f p).2.2.2 := by
  obtain ⟨i, hi, ho⟩ := pts_on h hP hp
  exact on_fr h (by omega) (hP.1.2 p hp).1 ho
def thrP (D : Nat → Nat → Int) (n : Nat) (q : Int × Int × Int × Int) : Int := bitsOf (onD D q) n
theorem s_X4_linesThrough {s : Sg} {c0 c1 n p : Nat} {D : Nat → Nat → Int} {q : Int × Int × Int × Int} {post : Int → Prop} (h : LsD D (n : Int)) (hn : s c1 0 = (n : Int)) (hat : LnAt s (c1 + 1) (n : Int) D) (hp65 : p < 65) (hq : s (c0 + 1) p = q.1 ∧ s (c0 + 2) p = q.2.1 ∧ s (c0 + 3) p = q.2.2.1 ∧ s (c0 + 4) p = q.2.2.2) (f1 : FrB q.1 q.2.1) (f2 : FrB q.2.2.1 q.2.2.2) (hp : post (thrP D n q)) : w_X4_linesThrough s c0 c1 (p : Int) post := by
  unfold w_X4_linesThrough
  have hn10 := h.1
  rw [hn, Int.toNat_natCast, hq.1, hq.2.1, hq.2.2.1, hq.2.2.2]
  refine lr_2 (fun b i => ∃ k : Nat, i = (k : Int) ∧ k ≤ n ∧ b = bitsOf (onD D q) k) (fun _ i => ((n : Int) - i).toNat) ?_ 0 0 ⟨0, rfl, Nat.zero_le _, rfl⟩
  rintro again _ _ ⟨k, rfl, hk, rfl⟩ ih
  refine ⟨fun c => ?_, fun c => ?_⟩
  · have e : k = n := by omega
    rw [e]
    exact hp
  · obtain ⟨hl, -⟩ := h.2 k (by omega)
    obtain ⟨e1, e2, e3, e4⟩ := hat k (by omega)
    simp only [Nat.add_assoc, Nat.reduceAdd] at e1 e2 e3 e4
    refine ⟨by omega, by omega, by omega, by omega, s_X2_holds (by omega) (by rw [Int.toNat_natCast, e1, e2, e3, e4]; exact hl) f1 f2 fun r e => ?_⟩
    rw [Int.toNat_natCast, e1, e2, e3, e4, ← onD_iff] at e
    have b1 : ok32 ((k : Int) + 1) := ⟨by omega, by omega⟩
    have b2 : (k : Int) + 1 = ((k + 1 : Nat) : Int) := by omega
    unfold jn
    refine ⟨fun z v ev => ?_, fun z v ev w ew => ?_⟩
    · rw [ev, w32_id b1, b2]
      clear ev
      refine ih _ _ ⟨k + 1, rfl, by omega, ?_⟩ (by omega)
      rw [bitsOf_s, if_neg (by rcases e with e | e; omega; exact e.2)]
    · rw [ev, ew, w32_id b1, b2]
      clear ev ew
      refine ih _ _ ⟨k + 1, rfl, by omega, ?_⟩ (by omega)
      rw [bitsOf_s, if_pos (by rcases e with e | e; exact e.2; omega)]
/-- two points next to each other on a line -/
def nxB (D : Nat → Nat → Int) (f : Nat → Int × Int × Int × Int) (l i j : Nat) : Bool := decide (i < j ∧ onD D (f i) l = true ∧ onD D (f j) l = true ∧ ∀ k, k < j → i < k → ¬ onD D (f k) l = true)
theorem nxB_iff {D : Nat → Nat → Int} {f : Nat → Int × Int × Int × Int} {l i j : Nat} : nxB D f l i j = true ↔ (i < j ∧ onD D (f i) l = true ∧ onD D (f j) l = true ∧ ∀ k, k < j → i < k → ¬ onD D (f k) l = true) := by
  unfold nxB
  exact decide_eq_true_iff
theorem nxB_one {D : Nat → Nat → Int} {f : Nat → Int × Int × Int × Int} {l i i' j : Nat} (h : nxB D f l i j = true) (h' : nxB D f l i' j = true) : i = i' := by
  rw [nxB_iff] at h h'
  rcases Nat.lt_trichotomy i i' with c | c | c
  · exact absurd h'.2.1 (h.2.2.2 i' h'.1 c)
  · exact c
  · exact absurd h.2.1 (h'.2.2.2 i h.1 c)
def nxR (D : Nat → Nat → Int) (f : Nat → Int × Int × Int × Int) (n i j : Nat) : Prop := ∃ l, l < n ∧ nxB D f l i j = true
/-- of the lines on both the least one -/
def lsB (D : Nat → Nat → Int) (f : Nat → Int × Int × Int × Int) (l i j : Nat) : Bool := decide (∀ k, k < l → ¬ (onD D (f i) k = true ∧ onD D (f j) k = true))
def pcB (D : Nat → Nat → Int) (f : Nat → Int × Int × Int × Int) (l j : Nat) : Bool := decide (∃ i, i < j ∧ nxB D f l i j = true ∧ lsB D f l i j = true)
theorem pcB_iff {D : Nat → Nat → Int} {f : Nat → Int × Int × Int × Int} {l j : Nat} : pcB D f l j = true ↔ ∃ i, i < j ∧ nxB D f l i j = true ∧ lsB D f l i j = true := by
  unfold pcB
  exact decide_eq_true_iff
/-- how many pieces there are -/
def pcN (D : Nat → Nat → Int) (f : Nat → Int × Int × Int × Int) (n m : Nat) : Nat := sm (fun l => cntN (pcB D f l) m) n
theorem pcN_le (D : Nat → Nat → Int) (f : Nat → Int × Int × Int × Int) (n m : Nat) : pcN D f n m ≤ m * n := by
  unfold pcN
  rw [← sm_c]
  exact sm_le (fun l _ => cntN_le _ _)
/-- last of those below p that are on l -/
def LastOn (D : Nat → Nat → Int) (f : Nat → Int × Int × Int × Int) (l p : Nat) (v : Int) : Prop := (v = -1 ∧ ∀ k, k < p → ¬ onD D (f k) l = true) ∨ ∃ i : Nat, v = (i : Int) ∧ i < p ∧ onD D (f i) l = true ∧ ∀ k, k < p → i < k → ¬ onD D (f k) l = true
def wkR (D : Nat → Nat → Int) (f : Nat → Int × Int × Int × Int) (L P i j : Nat) : Prop := (∃ l, l < L ∧ nxB D f l i j = true) ∨ (j < P ∧ nxB D f L i j = true)
theorem s_X4_walkAlong {s : Sg} {c0 n m L N0 : Nat} {D : Nat → Nat → Int} {f : Nat → Int × Int × Int × Int} {p0 : Nat → Nat} {post : Sg → Prop} (hn : n ≤ 10) (hm : s c0 0 = (m : Int)) (hm65 : m ≤ 65) (hth : ∀ p, p < m → s (c0 + 5) p = thrP D n (f p)) (hL : L < n) (hN : s c0 1 = (N0 : Int)) (hN2 : N0 ≤ 1000)
    (hp0 : ∀ i, i < m → p0 i ≤ i) (hat : ∀ i, i < m → s (c0 + 6) i = (p0 i : Int)) (hlab : LabOf (wkR D f L 0) m (rt p0))
    (hp : ∀ (t : Sg) (q : Nat → Nat), (∀ c, c ≠ c0 → c ≠ c0 + 6 → t c = s c) → (∀ o, o ≠ 1 → t c0 o = s c0 o) → t c0 1 = ((N0 + cntN (pcB D f L) m : Nat) : Int) → (∀ i, i < m → q i ≤ i) → (∀ i, i < m → t (c0 + 6) i = (q i : Int)) → LabOf (wkR D f (L + 1) 0) m (rt q) → post t) : w_X4_walkAlong s c0 (L : Int) post := by
  unfold w_X4_walkAlong
  refine lr_2s (fun v w t => ∃ p q, w = ((p : Nat) : Int) ∧ p ≤ m ∧ LastOn D f L p v ∧ (∀ c, c ≠ c0 → c ≠ c0 + 6 → t c = s c) ∧ (∀ o, o ≠ 1 → t c0 o = s c0 o) ∧ t c0 1 = ((N0 + cntN (pcB D f L) p : Nat) : Int) ∧ (∀ i, i < m → q i ≤ i) ∧ (∀ i, i < m → t (c0 + 6) i = (q i : Int)) ∧ LabOf (wkR D f L p) m (rt q)) (fun _ w _ => ((m : Int) - w).toNat) ?_ (-1) 0 s ⟨0, p0, rfl, Nat.zero_le _, Or.inl ⟨rfl, fun k hk => by omega⟩, fun _ _ _ => rfl, fun _ _ => rfl, by simpa [cntN] using hN, hp0, hat, hlab⟩
  rintro again v _ t ⟨p, q, rfl, hpm, hlast, ho, ho2, hcnt, hq, hqa, hql⟩ ih
  have t0 : t c0 0 = (m : Int) := by rw [ho2 0 (by omega), hm]
  rw [t0]
  refine ⟨fun c => ?_, fun c => ⟨by omega, ?_⟩⟩
  · have e : p = m := by omega
    subst e
    refine hp t q ho ho2 hcnt hq hqa (Lab_congr hql (fun a b ha hb => ?_) (fun _ _ => rfl))
    unfold wkR
    refine ⟨?_, ?_⟩
    · rintro (⟨l, hl, e⟩ | ⟨_, e⟩)
      · exact Or.inl ⟨l, by omega, e⟩
      · exact Or.inl ⟨L, by omega, e⟩
    · rintro (⟨l, hl, e⟩ | ⟨z, e⟩)
      · by_cases z : l = L
        · subst z; exact Or.inr ⟨hb, e⟩
        · exact Or.inl ⟨l, by omega, e⟩
      · omega
  · have hp2 : p < m := by omega
    have b1 : ok32 ((p : Int) + 1) := ⟨by omega, by omega⟩
    have b2 : (p : Int) + 1 = ((p + 1 : Nat) : Int) := by omega
    have th5 : t (c0 + 5) = s (c0 + 5) := ho _ (by omega) (by omega)
    unfold jn
    rw [Int.toNat_natCast, th5, hth p hp2]
    unfold thrP
    rw [bit_at (onD D (f p)) (by omega) (by omega)]
    have cs : cntN (pcB D f L) (p + 1) = cntN (pcB D f L) p + ind (pcB D f L p) := by
      rw [cntN_s]; unfold ind; split <;> omega
    by_cases hon : onD D (f p) L = true
    · rw [if_pos ⟨hL, hon⟩]
      refine ⟨fun _ => ?_, fun z => absurd z (by decide)⟩
      have fin : ∀ (u : Sg) (q' : Nat → Nat), (∀ c, c ≠ c0 → c ≠ c0 + 6 → u c = s c) → (∀ o, o ≠ 1 → u c0 o = s c0 o) → u c0 1 = ((N0 + cntN (pcB D f L) (p + 1) : Nat) : Int) → (∀ i, i < m → q' i ≤ i) → (∀ i, i < m → u (c0 + 6) i = (q' i : Int)) → LabOf (wkR D f L (p + 1)) m (rt q') → ∀ v3, v3 = w32 ((p : Int) + 1) → again (p : Int) v3 u := by
        intro u q' k1 k2 k3 k4 k5 k6 v3 ev3
        rw [ev3, w32_id b1, b2]
        clear ev3
        exact ih _ _ _ ⟨p + 1, q', rfl, by omega, Or.inr ⟨p, rfl, by omega, hon, fun k h1 h2 => by omega⟩, k1, k2, k3, k4, k5, k6⟩ (by omega)
      rcases hlast with ⟨rfl, hno⟩ | ⟨i, rfl, hip, hoi, hbt⟩
      · refine ⟨fun _ => fin t q ho ho2 ?_ hq hqa (Lab_congr hql (fun a b ha hb => ?_) (fun _ _ => rfl)), fun z => absurd rfl z⟩
        · rw [hcnt, cs, ind_f]
          · rfl
          · rw [pcB_iff]
            rintro ⟨i, h1, h2, -⟩
            rw [nxB_iff] at h2
            exact hno i h1 h2.2.1
        · unfold wkR
          refine or_congr Iff.rfl ⟨fun z => ⟨by omega, z.2⟩, fun z => ⟨?_, z.2⟩⟩
          have z2 := z.2
          rw [nxB_iff] at z2
          by_cases e : b = p
          · subst e
            exact absurd z2.2.1 (hno a z2.1)
          · omega
      · refine ⟨fun z => by omega, fun _ => ⟨by omega, by omega, ?_⟩⟩
        have hnx : nxB D f L i p = true := nxB_iff.mpr ⟨hip, hoi, hon, hbt⟩
        rw [Int.toNat_natCast, hth i (by omega)]
        unfold thrP
        rw [iand_bits _ _ (by omega)]
        refine s_X9_leastOf hn fun r hr => ?_
        have hls : r = (L : Int) ↔ pcB D f L p = true := by
          rw [pcB_iff]
          constructor
          · intro e
            refine ⟨i, hip, hnx, ?_⟩
            unfold lsB
            rw [decide_eq_true_iff]
            intro k hk z
            rcases hr with ⟨e2, hh⟩ | ⟨k', hk', e2, hy, hh⟩
            · omega
            · refine hh k (by omega) ?_
              rw [Bool.and_eq_true]
              exact z
          · rintro ⟨i', h1, h2, h3⟩
            have := nxB_one h2 hnx
            subst this
            unfold lsB at h3
            rw [decide_eq_true_iff] at h3
            rcases hr with ⟨e2, hh⟩ | ⟨k', hk', e2, hy, hh⟩
            · refine absurd ?_ (hh L hL)
              rw [Bool.and_eq_true]
              exact ⟨hoi, hon⟩
            · rcases Nat.lt_trichotomy k' L with d | d | d
              · rw [Bool.and_eq_true] at hy
                exact absurd hy (h3 k' d)
              · omega
              · refine absurd ?_ (hh L d)
                rw [Bool.and_eq_true]
                exact ⟨hoi, hon⟩
        have uni : ∀ u : Sg, (∀ c, c ≠ c0 → u c = t c) → (∀ o, o ≠ 1 → u c0 o = t c0 o) → u c0 1 = ((N0 + cntN (pcB D f L) (p + 1) : Nat) : Int) → w_X4_unite u c0 (i : Int) (p : Int) (fun s_17 => ∀ v3_9, v3_9 = w32 ((p : Int) + 1) → again (p : Int) v3_9 s_17) := by
          intro u u1 u2 u3
          refine s_X4_unite (m := m) (p := q) (by rw [u2 0 (by omega), t0]) hm65 hq (fun j hj => by rw [u1 _ (by omega)]; exact hqa j hj) (by omega) hp2 fun x xo xa => ?_
          refine fin x (unP q i p) (fun c h1 h2 => by rw [xo c h2, u1 c h1, ho c h1 h2]) (fun o h1 => by rw [xo c0 (by omega), u2 o h1, ho2 o h1]) (by rw [xo c0 (by omega), u3]) (unP_le hq) xa ?_
          refine Lab_congr (Lab_mrg hql (a := i) (b := p) (by omega) hp2) (fun a b ha hb => ?_) (unP_rt hq (by omega) hp2)
          unfold wkR
          refine ⟨?_, ?_⟩
          · rintro ((e | ⟨e1, e⟩) | ⟨rfl, rfl⟩)
            · exact Or.inl e
            · exact Or.inr ⟨by omega, e⟩
            · exact Or.inr ⟨by omega, hnx⟩
          · rintro (e | ⟨e1, e⟩)
            · exact Or.inl (Or.inl e)
            · by_cases z : b = p
              · subst z
                exact Or.inr ⟨nxB_one e hnx, rfl⟩
              · exact Or.inl (Or.inr ⟨by omega, e⟩)
        have ncp := cntN_le (pcB D f L) p
        refine ⟨fun z => uni t (fun _ _ => rfl) (fun _ _ => rfl) ?_, fun z u eu => ?_⟩
        · rw [hcnt, cs, ind_f (fun y => z (hls.mpr y))]
          rfl
        · rw [hcnt, w32_id (show ok32 (((N0 + cntN (pcB D f L) p : Nat) : Int) + 1) from ⟨by omega, by omega⟩)] at eu
          refine uni u (fun c hcc => by rw [eu, up_ne _ _ _ hcc]) (fun o hoo => by rw [eu, up_apply, if_neg (fun y => hoo y.2)]) ?_
          rw [eu, up_apply, if_pos ⟨rfl, rfl⟩, cs, ind_t (hls.mp z)]
          omega
    · rw [if_neg (fun z => hon z.2)]
      refine ⟨fun z => absurd rfl z, fun _ v3 ev3 => ?_⟩
      rw [ev3, w32_id b1, b2]
      clear ev3
      refine ih _ _ _ ⟨p + 1, q, rfl, by omega, ?_, ho, ho2, ?_, hq, hqa, Lab_congr hql (fun a b ha hb => ?_) (fun _ _ => rfl)⟩ (by omega)
      · rcases hlast with ⟨e, hno⟩ | ⟨i, e, hip, hoi, hbt⟩
        · refine Or.inl ⟨e, fun k hk => ?_⟩
          by_cases z : k = p
          · subst z; exact hon
          · exact hno k (by omega)
        · refine Or.inr ⟨i, e, by omega, hoi, fun k h1 h2 => ?_⟩
          by_cases z : k = p
          · subst z; exact hon
          · exact hbt k (by omega) h2
      · rw [hcnt, cs, ind_f]
        · rfl
        · rw [pcB_iff]
          rintro ⟨i, h1, h2, -⟩
          rw [nxB_iff] at h2
          exact hon h2.2.2.1
      · unfold wkR
        refine or_congr Iff.rfl ⟨fun z => ⟨by omega, z.2⟩, fun z => ⟨?_, z.2⟩⟩
        have z2 := z.2
        rw [nxB_iff] at z2
        by_cases e : b = p
        · subst e
          exact absurd z2.2.2.1 hon
        · omega
/-- a path made short, place by place -/
def shP (p : Nat → Nat) (k : Nat) : Nat → Nat := fun i => if i < k then rt p i else p i
theorem shP_ok {p : Nat → Nat} {m : Nat} (hp : ∀ i, i < m → p i ≤ i) (k : Nat) : (∀ i, i < m → shP p k i ≤ i) ∧ ∀ i, i < m → rt (shP p k) i = rt p i := by
  have h1 : ∀ i, i < m → shP p k i ≤ i := by
    intro i hi
    unfold shP
    split
    · exact (rt_ok hp i hi).1
    · exact hp i hi
  refine ⟨h1, fun i => ?_⟩
  induction i using Nat.strongRecOn with
  | _ i ih =>
    intro hi
    have hr := rt_ok hp i hi
    have e : shP p k i = if i < k then rt p i else p i := rfl
    rw [rt_step h1 hi, e]
    by_cases c : i < k
    · rw [if_pos c]
      by_cases d : rt p i = i
      · rw [if_pos d, d]
      · rw [if_neg d, ih (rt p i) (by omega) (by omega), rt_fix hp (by omega) hr.2]
    · rw [if_neg c]
      by_cases d : p i = i
      · rw [if_pos d, rt_fix hp hi d]
      · have := hp i hi
        rw [if_neg d, ih (p i) (by omega) (by omega), rt_rt hp hi]
theorem s_X4_countParts {s : Sg} {c0 m : Nat} {p : Nat → Nat} {post : Sg → Prop} (hm : s c0 0 = (m : Int)) (hm65 : m ≤ 65) (hpl : ∀ i, i < m → p i ≤ i) (hat : ∀ i, i < m → s (c0 + 6) i = (p i : Int))
    (hp : ∀ t : Sg, (∀ c, c ≠ c0 → c ≠ c0 + 6 → t c = s c) → (∀ o, o ≠ 2 → t c0 o = s c0 o) → t c0 2 = (cntN (fun i => rt p i == i) m : Int) → (∀ i, i < m → t (c0 + 6) i = (rt p i : Int)) → post t) : w_X4_countParts s c0 post := by
  unfold w_X4_countParts
  rintro _ rfl
  refine lr_1s (fun v t => ∃ k : Nat, v = (k : Int) ∧ k ≤ m ∧ (∀ c, c ≠ c0 → c ≠ c0 + 6 → t c = s c) ∧ (∀ o, o ≠ 2 → t c0 o = s c0 o) ∧ t c0 2 = (cntN (fun i => rt p i == i) k : Int) ∧ (∀ i, i < m → t (c0 + 6) i = (shP p k i : Int))) (fun v _ => ((m : Int) - v).toNat) ?_ 0 _ ⟨0, rfl, Nat.zero_le _, fun c h1 _ => up_ne _ _ _ h1, fun o h1 => by rw [up_apply, if_neg (fun z => h1 z.2)], by rw [up_apply, if_pos ⟨rfl, rfl⟩]; rfl, fun i hi => by rw [up_ne _ _ _ (by omega), hat i hi]; rfl⟩
  rintro again _ t ⟨k, rfl, hk, ho, ho2, hcnt, ha⟩ ih
  have t0 : t c0 0 = (m : Int) := by rw [ho2 0 (by omega), hm]
  rw [t0]
  refine ⟨fun c => ?_, fun c => ?_⟩
  · have e : k = m := by omega
    subst e
    refine hp t ho ho2 hcnt (fun i hi => ?_)
    rw [ha i hi]
    unfold shP
    rw [if_pos hi]
  · have hk2 : k < m := by omega
    obtain ⟨g1, g2⟩ := shP_ok hpl k
    refine s_X4_rootOf t0 hm65 g1 ha hk2 ?_
    rw [g2 k hk2]
    have hr := rt_ok hpl k hk2
    have b1 : ok32 ((k : Int) + 1) := ⟨by omega, by omega⟩
    have b2 : (k : Int) + 1 = ((k + 1 : Nat) : Int) := by omega
    have cl := cntN_le (fun i => rt p i == i) k
    refine ⟨by omega, fun u eu => ⟨by omega, ?_⟩⟩
    rw [Int.toNat_natCast] at eu
    have uo : ∀ c, c ≠ c0 + 6 → u c = t c := fun c hcc => by rw [eu, up_ne _ _ _ hcc]
    have ua : ∀ i, i < m → u (c0 + 6) i = (shP p (k + 1) i : Int) := fun i hi => by
      rw [eu, up_apply]
      unfold shP
      by_cases e : i = k
      · subst e
        rw [if_pos ⟨rfl, rfl⟩, if_pos (by omega)]
      · rw [if_neg (fun z => e z.2), ha i hi]
        unfold shP
        by_cases d : i < k
        · rw [if_pos d, if_pos (by omega)]
        · rw [if_neg d, if_neg (by omega)]
    have uk : u (c0 + 6) k = (rt p k : Int) := by rw [ua k hk2]; unfold shP; rw [if_pos (by omega)]
    clear eu
    unfold jn
    rw [Int.toNat_natCast, uk]
    have cs : cntN (fun i => rt p i == i) (k + 1) = cntN (fun i => rt p i == i) k + ind (rt p k == k) := by
      rw [cntN_s]; unfold ind; split <;> omega
    refine ⟨fun z v ev => ?_, fun z x ex v ev => ?_⟩
    · rw [ev, w32_id b1, b2]
      clear ev
      refine ih _ _ ⟨k + 1, rfl, by omega, fun c h1 h2 => by rw [uo c h2, ho c h1 h2], fun o h1 => by rw [uo c0 (by omega), ho2 o h1], ?_, ua⟩ (by omega)
      rw [uo c0 (by omega), hcnt, cs, ind_f (by rw [beq_iff_eq]; omega)]
      rfl
    · rw [ev, w32_id b1, b2, ex, uo c0 (by omega), hcnt, w32_id (show ok32 ((cntN (fun i => rt p i == i) k : Int) + 1) from ⟨by omega, by omega⟩)]
      clear ev ex
      refine ih _ _ ⟨k + 1, rfl, by omega, fun c h1 h2 => by rw [up_ne _ _ _ h1, uo c h2, ho c h1 h2], fun o h1 => by rw [up_apply, if_neg (fun y => h1 y.2), uo c0 (by omega), ho2 o h1], ?_, fun i hi => by rw [up_ne _ _ _ (by omega)]; exact ua i hi⟩ (by omega)
      rw [up_apply, if_pos ⟨rfl, rfl⟩, cs, ind_t (by rw [beq_iff_eq]; omega)]
      omega
/-- what is known of the points -/
def PInv (t : Sg) (c0 : Nat) (D : Nat → Nat → Int) (n m : Nat) (f : Nat → Int × Int × Int × Int) : Prop :=
  PtsOf D n f m ∧ m ≤ 65 ∧ t c0 0 = (m : Int) ∧ PtAt t (c0 + 1) (c0 + 2) (c0 + 3) (c0 + 4) m f ∧ (∀ p, p < m → t (c0 + 5) p = thrP D n (f p)) ∧ (∃ lab, LabOf (nxR D f n) m lab ∧ (∀ p, p < m → t (c0 + 6) p = (lab p : Int)) ∧ t c0 2 = (cntN (fun i => lab i == i) m : Int)) ∧ t c0 1 = (pcN D f n m : Int) ∧ ∀ k : Nat, k < 4 → t (c0 + 7) k = (twN D n (k : Int) : Int)
theorem s_X4_find {s : Sg} {c0 c1 n : Nat} {D : Nat → Nat → Int} {post : Sg → Prop} (h : LsD D (n : Int)) (hn : s c1 0 = (n : Int)) (hat : LnAt s (c1 + 1) (n : Int) D) (hc : c1 + 4 < c0)
    (hp : ∀ (t : Sg) (m : Nat) (f : Nat → Int × Int × Int × Int), (∀ c, (c < c0 ∨ c0 + 8 < c) → t c = s c) → PInv t c0 D n m f → post t) : w_X4_find s c0 c1 post := by
  unfold w_X4_find
  rintro _ rfl
  have hn10 := h.1
  refine lr_1s (fun v t => ∃ i m f, v = ((i : Nat) : Int) ∧ i ≤ n ∧ (∀ c, (c < c0 ∨ c0 + 8 < c) → t c = s c) ∧ t c0 0 = ((m : Nat) : Int) ∧ PtAt t (c0 + 1) (c0 + 2) (c0 + 3) (c0 + 4) m f ∧ RowM (EndsTo D i) f m ∧ m ≤ 2 * i) (fun v _ => ((n : Int) - v).toNat) ?_ 0 _ ⟨0, 0, fun _ => (0, 1, 0, 1), rfl, Nat.zero_le _, fun c hcc => up_ne _ _ _ (by omega), by rw [up_apply, if_pos ⟨rfl, rfl⟩]; rfl, fun j hj => absurd hj (Nat.not_lt_zero _), ⟨⟨fun a b _ hb => absurd hb (Nat.not_lt_zero _), fun j hj => absurd hj (Nat.not_lt_zero _)⟩, fun j hj => absurd hj (Nat.not_lt_zero _), fun p ⟨a, ha, _⟩ => absurd ha (Nat.not_lt_zero _)⟩, Nat.le_refl _⟩
  rintro again _ t ⟨i, m, f, rfl, hi, ho, hsz, hpt, hrow, hm⟩ ih
  have kn : t c1 0 = (n : Int) := by rw [ho c1 (by omega)]; exact hn
  have kat : ∀ u : Sg, (∀ c, (c < c0 ∨ c0 + 8 < c) → u c = s c) → LnAt u (c1 + 1) (n : Int) D := fun u uo x hx => by
    rw [uo (c1 + 1) (by omega), uo (c1 + 1 + 1) (by omega), uo (c1 + 1 + 2) (by omega), uo (c1 + 1 + 3) (by omega)]
    exact hat x hx
  rw [kn]
  refine ⟨fun c => ?_, fun c => ?_⟩
  · have e : i = n := by omega
    subst e
    refine s_X4_addMeetings h kn (kat t ho) hc hsz hpt hrow hm fun u m2 f2 uo usz upt hP hm65 utw => ?_
    have uo2 : ∀ c, (c < c0 ∨ c0 + 8 < c) → u c = s c := fun c hcc => by rw [uo c hcc, ho c hcc]
    clear ih hpt hrow hm hsz
    refine lr_1s (fun v t => ∃ p : Nat, v = (p : Int) ∧ p ≤ m2 ∧ (∀ c, c ≠ c0 + 5 → c ≠ c0 + 6 → t c = u c) ∧ (∀ j, j < p → t (c0 + 5) j = thrP D i (f2 j)) ∧ ∀ j, j < p → t (c0 + 6) j = (j : Int)) (fun v _ => ((m2 : Int) - v).toNat) ?_ 0 u ⟨0, rfl, Nat.zero_le _, fun _ _ _ => rfl, fun j hj => absurd hj (Nat.not_lt_zero _), fun j hj => absurd hj (Nat.not_lt_zero _)⟩
    rintro again2 _ x ⟨p, rfl, hpm, xo, x5, x6⟩ ih2
    have x0 : x c0 0 = (m2 : Int) := by rw [xo c0 (by omega) (by omega)]; exact usz
    have xo2 : ∀ c, (c < c0 ∨ c0 + 8 < c) → x c = s c := fun c hcc => by rw [xo c (by omega) (by omega), uo2 c hcc]
    rw [x0]
    refine ⟨fun q => ?_, fun q => ?_⟩
    · have e : p = m2 := by omega
      subst e
      rintro _ rfl
      refine lr_1s (fun v t => ∃ l q, v = ((l : Nat) : Int) ∧ l ≤ i ∧ (∀ c, c ≠ c0 → c ≠ c0 + 6 → t c = x c) ∧ (∀ o, o ≠ 1 → t c0 o = x c0 o) ∧ t c0 1 = (sm (fun l => cntN (pcB D f2 l) p) l : Int) ∧ (∀ j, j < p → q j ≤ j) ∧ (∀ j, j < p → t (c0 + 6) j = (q j : Int)) ∧ LabOf (wkR D f2 l 0) p (rt q)) (fun v _ => ((i : Int) - v).toNat) ?_ 0 _ ⟨0, fun j => j, rfl, Nat.zero_le _, fun c h1 _ => up_ne _ _ _ h1, fun o h1 => by rw [up_apply, if_neg (fun z => h1 z.2)], by rw [up_apply, if_pos ⟨rfl, rfl⟩]; rfl, fun j _ => Nat.le_refl _, fun j hj => by rw [up_ne _ _ _ (by omega)]; exact x6 j hj, Lab_id (fun a b _ _ z => by
        rcases z with ⟨l, hl, -⟩ | ⟨z, -⟩
        · exact absurd hl (Nat.not_lt_zero _)
        · exact absurd z (Nat.not_lt_zero _)) (fun j hj => rt_fix (m := p) (fun j _ => Nat.le_refl _) hj rfl)⟩
      rintro again3 _ y ⟨l, q3, rfl, hl, yo, yo2, y1, hq, hqa, hql⟩ ih3
      have yn : y c1 0 = (i : Int) := by rw [yo c1 (by omega) (by omega), xo2 c1 (by omega)]; exact hn
      have y0 : y c0 0 = (p : Int) := by rw [yo2 0 (by omega)]; exact x0
      have hle : ∀ a, a ≤ i → sm (fun l => cntN (pcB D f2 l) p) a ≤ 650 := by
        intro a ha
        have h1 := pcN_le D f2 a p
        have h2 : p * a ≤ 65 * 10 := Nat.mul_le_mul hm65 (by omega)
        unfold pcN at h1
        omega
      rw [yn]
      refine ⟨fun q4 => ?_, fun q4 => ?_⟩
      · have e : l = i := by omega
        subst e
        refine s_X4_countParts y0 hm65 hq hqa fun z zo zo2 z2 z6 => ?_
        refine hp z p f2 (fun c hcc => by rw [zo c (by omega) (by omega), yo c (by omega) (by omega), xo2 c hcc]) ⟨hP, hm65, by rw [zo2 0 (by omega)]; exact y0, fun j hj => ?_, fun j hj => ?_, ⟨rt q3, Lab_congr hql (fun a b ha hb => ?_) (fun _ _ => rfl), z6, z2⟩, ?_, fun k hk => ?_⟩
        · rw [zo (c0 + 1) (by omega) (by omega), zo (c0 + 2) (by omega) (by omega), zo (c0 + 3) (by omega) (by omega), zo (c0 + 4) (by omega) (by omega), yo (c0 + 1) (by omega) (by omega), yo (c0 + 2) (by omega) (by omega), yo (c0 + 3) (by omega) (by omega), yo (c0 + 4) (by omega) (by omega), xo (c0 + 1) (by omega) (by omega), xo (c0 + 2) (by omega) (by omega), xo (c0 + 3) (by omega) (by omega), xo (c0 + 4) (by omega) (by omega)]
          exact upt j hj
        · rw [zo (c0 + 5) (by omega) (by omega), yo (c0 + 5) (by omega) (by omega)]
          exact x5 j hj
        · unfold wkR nxR
          refine ⟨?_, Or.inl⟩
          rintro (e | ⟨e, -⟩)
          · exact e
          · exact absurd e (Nat.not_lt_zero _)
        · rw [zo2 1 (by omega), y1]
          rfl
        · rw [zo (c0 + 7) (by omega) (by omega), yo (c0 + 7) (by omega) (by omega), xo (c0 + 7) (by omega) (by omega)]
          exact utw k hk
      · have b1 : ok32 ((l : Int) + 1) := ⟨by omega, by omega⟩
        have b2 : (l : Int) + 1 = ((l + 1 : Nat) : Int) := by omega
        have := hle l hl
        refine s_X4_walkAlong (n := i) (by omega) y0 hm65 (fun j hj => by rw [yo (c0 + 5) (by omega) (by omega)]; exact x5 j hj) (by omega) y1 (by omega) hq hqa hql fun z q5 zo zo2 z1 zq zqa zl v ev => ?_
        rw [ev, w32_id b1, b2]
        clear ev
        exact ih3 _ _ ⟨l + 1, q5, rfl, by omega, fun c h1 h2 => by rw [zo c h1 h2, yo c h1 h2], fun o h1 => by rw [zo2 o h1, yo2 o h1], by rw [z1, sm_s], zq, zqa, zl⟩ (by omega)
    · have fr := pts_fr h hP (p := p) (by omega)
      have xpt : x (c0 + 1) p = (f2 p).1 ∧ x (c0 + 2) p = (f2 p).2.1 ∧ x (c0 + 3) p = (f2 p).2.2.1 ∧ x (c0 + 4) p = (f2 p).2.2.2 := by
        rw [xo (c0 + 1) (by omega) (by omega), xo (c0 + 2) (by omega) (by omega), xo (c0 + 3) (by omega) (by omega), xo (c0 + 4) (by omega) (by omega)]
        exact upt p (by omega)
      have b1 : ok32 ((p : Int) + 1) := ⟨by omega, by omega⟩
      have b2 : (p : Int) + 1 = ((p + 1 : Nat) : Int) := by omega
      refine s_X4_linesThrough (q := f2 p) h (by rw [xo2 c1 (by omega)]; exact hn) (kat x xo2) (by omega) xpt fr.1 fr.2.1 ⟨by omega, ?_⟩
      rintro _ rfl
      refine ⟨by omega, ?_⟩
      rintro _ rfl v ev
      rw [ev, w32_id b1, b2, Int.toNat_natCast]
      clear ev
      refine ih2 _ _ ⟨p + 1, rfl, by omega, fun c h1 h2 => by rw [up_ne _ _ _ h2, up_ne _ _ _ h1, xo c h1 h2], fun j hj => ?_, fun j hj => ?_⟩ (by omega)
      · rw [up_ne _ _ _ (by omega), up_apply]
        by_cases e : j = p
        · rw [if_pos ⟨rfl, e⟩, e]
        · rw [if_neg (fun z => e z.2)]
          exact x5 j (by omega)
      · rw [up_apply]
        by_cases e : j = p
        · rw [if_pos ⟨rfl, e⟩, e]
        · rw [if_neg (fun z => e z.2), up_ne _ _ _ (by omega)]
          exact x6 j (by omega)
  · have hi2 : i < n := by omega
    have b1 : ok32 ((i : Int) + 1) := ⟨by omega, by omega⟩
    have b2 : (i : Int) + 1 = ((i + 1 : Nat) : Int) := by omega
    obtain ⟨a1, a2, a3, a4⟩ := kat t ho i (by omega)
    simp only [Nat.add_assoc, Nat.reduceAdd] at a1 a2 a3 a4
    have he := end_ok h (i := i) (by omega)
    rw [Int.toNat_natCast, a1, a2]
    refine ⟨by omega, by omega, s_X4_add (q := endA D i) (m := m) (f := f) hsz hpt hrow.1 he.1 (by omega) fun u g k uo uo2 usz upt uins => ⟨by omega, by omega, ?_⟩⟩
    have uo3 : ∀ c, (c < c0 ∨ c0 + 8 < c) → u c = s c := fun c hcc => by rw [uo c (by omega), ho c hcc]
    obtain ⟨d1, d2, d3, d4⟩ := kat u uo3 i (by omega)
    simp only [Nat.add_assoc, Nat.reduceAdd] at d1 d2 d3 d4
    rw [d3, d4]
    have um := uins.2.2.2.2
    have urow : RowM (fun p => EndsTo D i p ∨ p = endA D i) g k := RowM_ins hrow he.1 uins (fun p => Iff.rfl)
    refine s_X4_add (q := endB D i) (m := k) (f := g) usz upt urow.1 he.2 (by omega) fun x g2 k2 xo xo2 xsz xpt xins v ev => ?_
    rw [ev, w32_id b1, b2]
    clear ev
    have xm := xins.2.2.2.2
    refine ih _ _ ⟨i + 1, k2, g2, rfl, by omega, fun c hcc => by rw [xo c (by omega), uo3 c hcc], xsz, xpt, RowM_ins urow he.2 xins (fun p => ?_), by omega⟩ (by omega)
    unfold EndsTo
    refine ⟨?_, ?_⟩
    · rintro ⟨a, ha, e⟩
      by_cases z : a = i
      · subst z
        rcases e with e | e
        · exact Or.inl (Or.inr e)
        · exact Or.inr e
      · exact Or.inl (Or.inl ⟨a, by omega, e⟩)
    · rintro ((⟨a, ha, e⟩ | e) | e)
      · exact ⟨a, by omega, e⟩
      · exact ⟨i, by omega, Or.inl e⟩
      · exact ⟨i, by omega, Or.inr e⟩
