/-! all places in whole numbers -/
theorem ex_mult : ∀ N : Nat, ∃ K : Nat, 0 < K ∧ ∀ d, 0 < d → d ≤ N → d ∣ K := by
  intro N
  induction N with
  | zero => exact ⟨1, by omega, fun d h1 h2 => by omega⟩
  | succ N ih =>
    obtain ⟨K, h0, h⟩ := ih
    refine ⟨K * (N + 1), Nat.mul_pos h0 (by omega), fun d h1 h2 => ?_⟩
    by_cases e : d = N + 1
    · subst e
      exact Nat.dvd_mul_left _ _
    · exact Nat.dvd_trans (h d h1 (by omega)) (Nat.dvd_mul_right _ _)
theorem ex_KK : ∃ K : Int, 0 < K ∧ ∀ d : Int, 0 < d → d ≤ 128000 → d ∣ K := by
  obtain ⟨K, h0, h⟩ := ex_mult 128000
  refine ⟨(K : Int), by omega, fun d h1 h2 => ?_⟩
  have e : d = ((d.toNat : Nat) : Int) := by omega
  rw [e]
  exact Int.natCast_dvd_natCast.mpr (h d.toNat (by omega) (by omega))
noncomputable def KK : Int := Classical.choose ex_KK
theorem KK_pos : 0 < KK := (Classical.choose_spec ex_KK).1
theorem KK_dvd {d : Int} (h1 : 0 < d) (h2 : d ≤ 128000) : d ∣ KK := (Classical.choose_spec ex_KK).2 d h1 h2
noncomputable def scl (x d : Int) : Int := x * (KK / d)
theorem scl_mul {x d : Int} (h1 : 0 < d) (h2 : d ≤ 128000) : scl x d * d = x * KK := by
  unfold scl
  rw [Int.mul_assoc, Int.ediv_mul_cancel (KK_dvd h1 h2)]
theorem scl_dif {x d y e : Int} (h1 : 0 < d) (h2 : d ≤ 128000) (h3 : 0 < e) (h4 : e ≤ 128000) : (scl x d - scl y e) * (d * e) = (x * e - y * d) * KK := by
  have a := scl_mul (x := x) h1 h2
  have b := scl_mul (x := y) h3 h4
  generalize scl x d = P at *
  generalize scl y e = Q at *
  have : (P - Q) * (d * e) = P * d * e - Q * e * d := by grind
  rw [this, a, b]
  grind
theorem sgn_same {P p d k : Int} (hd : 0 < d) (hk : 0 < k) (e : P * d = p * k) : (P < 0 ↔ p < 0) ∧ (P = 0 ↔ p = 0) ∧ (0 < P ↔ 0 < p) := by
  have a1 : P < 0 → P * d < 0 := fun h => Int.mul_neg_of_neg_of_pos h hd
  have a2 : 0 < P → 0 < P * d := fun h => Int.mul_pos h hd
  have a3 : P = 0 → P * d = 0 := fun h => by rw [h, Int.zero_mul]
  have b1 : p < 0 → p * k < 0 := fun h => Int.mul_neg_of_neg_of_pos h hk
  have b2 : 0 < p → 0 < p * k := fun h => Int.mul_pos h hk
  have b3 : p = 0 → p * k = 0 := fun h => by rw [h, Int.zero_mul]
  rcases Int.lt_trichotomy P 0 with c | c | c <;> rcases Int.lt_trichotomy p 0 with q | q | q <;> omega
theorem scl_cmp {x d y e : Int} (h1 : 0 < d) (h2 : d ≤ 128000) (h3 : 0 < e) (h4 : e ≤ 128000) : (scl x d < scl y e ↔ x * e - y * d < 0) ∧ (scl x d = scl y e ↔ x * e - y * d = 0) ∧ (scl y e < scl x d ↔ 0 < x * e - y * d) := by
  have := sgn_same (Int.mul_pos h1 h3) KK_pos (scl_dif (x := x) (y := y) h1 h2 h3 h4)
  omega
theorem scl_1 (x : Int) : scl x 1 = x * KK := by
  have := scl_mul (x := x) (d := 1) (by omega) (by omega)
  omega
noncomputable def sX (q : Int × Int × Int × Int) : Int := scl q.1 q.2.1
noncomputable def sY (q : Int × Int × Int × Int) : Int := scl q.2.2.1 q.2.2.2
theorem sXY_cmp {p q : Int × Int × Int × Int} (hp : PlB p) (hq : PlB q) : ((sX p < sX q ↔ crX p q < 0) ∧ (sX p = sX q ↔ crX p q = 0)) ∧ ((sY p < sY q ↔ crY p q < 0) ∧ (sY p = sY q ↔ crY p q = 0)) := by
  obtain ⟨p1, p2, p3, p4⟩ := hp
  obtain ⟨q1, q2, q3, q4⟩ := hq
  have a := scl_cmp (x := p.1) (d := p.2.1) (y := q.1) (e := q.2.1) (by omega) (by omega) (by omega) (by omega)
  have b := scl_cmp (x := p.2.2.1) (d := p.2.2.2) (y := q.2.2.1) (e := q.2.2.2) (by omega) (by omega) (by omega) (by omega)
  exact ⟨⟨a.1, a.2.1⟩, ⟨b.1, b.2.1⟩⟩
theorem sXY_lt {p q : Int × Int × Int × Int} (h : ltP p q) : sX p < sX q ∨ (sX p = sX q ∧ sY p < sY q) := by
  obtain ⟨hp, hq, h⟩ := h
  have i := cmpP_iff p q
  have c := sXY_cmp hp hq
  rw [c.1.1, c.1.2, c.2.1]
  exact i.1.mp h
theorem sXY_eq {p q : Int × Int × Int × Int} (hp : PlB p) (hq : PlB q) (rp : PlR p) (rq : PlR q) (h1 : sX p = sX q) (h2 : sY p = sY q) : p = q := by
  have c := sXY_cmp hp hq
  refine cmpP_eq hp hq rp rq ((cmpP_iff p q).2.1.mpr ⟨c.1.2.mp h1, c.2.2.mp h2⟩)
def OnS (D : Nat → Nat → Int) (k : Int) (i : Nat) (X Y : Int) : Prop := (D 0 i * k ≤ X ∧ X ≤ D 2 i * k) ∧ (minI (D 1 i) (D 3 i) * k ≤ Y ∧ Y ≤ maxI (D 1 i) (D 3 i) * k) ∧ (X - D 0 i * k) * (D 3 i - D 1 i) = (Y - D 1 i * k) * (D 2 i - D 0 i)
theorem le_same {P p d k a : Int} (hd : 0 < d) (hk : 0 < k) (e : P * d = p * k) : (a * k ≤ P ↔ a * d ≤ p) ∧ (P ≤ a * k ↔ p ≤ a * d) := by
  have := sgn_same (P := P - a * k) (p := p - a * d) hd hk (by grind)
  omega
theorem on_S {D : Nat → Nat → Int} {q : Int × Int × Int × Int} {i : Nat} (hq : PlB q) : onD D q i = true ↔ OnS D KK i (sX q) (sY q) := by
  rw [onD_iff]
  obtain ⟨q1, q2, q3, q4⟩ := hq
  have ex := scl_mul (x := q.1) (d := q.2.1) (by omega) (by omega)
  have ey := scl_mul (x := q.2.2.1) (d := q.2.2.2) (by omega) (by omega)
  rw [← sX.eq_1] at ex
  rw [← sY.eq_1] at ey
  unfold OnL OnS
  have kp := KK_pos
  generalize KK = k at *
  have hx := fun a => le_same (a := a) q2.1 kp ex
  have hy := fun a => le_same (a := a) q4.1 kp ey
  rw [(hx _).1, (hx _).2, (hy _).1, (hy _).2]
  refine and_congr Iff.rfl (and_congr Iff.rfl ?_)
  have s1 : (sX q - D 0 i * k) * q.2.1 = (q.1 - D 0 i * q.2.1) * k := by grind
  have s2 : (sY q - D 1 i * k) * q.2.2.2 = (q.2.2.1 - D 1 i * q.2.2.2) * k := by grind
  generalize sX q - D 0 i * k = P at *
  generalize sY q - D 1 i * k = Q at *
  generalize q.1 - D 0 i * q.2.1 = p at *
  generalize q.2.2.1 - D 1 i * q.2.2.2 = r at *
  generalize D 3 i - D 1 i = v at *
  generalize D 2 i - D 0 i = u at *
  generalize q.2.1 = d at *
  generalize q.2.2.2 = e at *
  have m := sgn_same (P := P * v - Q * u) (p := p * e * v - r * d * u) (d := d * e) (k := k) (Int.mul_pos q2.1 q4.1) kp (by
    have t1 : (P * v - Q * u) * (d * e) = P * d * (e * v) - Q * e * (d * u) := by grind
    rw [t1, s1, s2]
    grind)
  omega
theorem mul_can {a b c : Int} (h : c ≠ 0) (e : a * c = b * c) : a = b := Int.eq_of_mul_eq_mul_right h e
theorem OnS_up {D : Nat → Nat → Int} {k : Int} {i : Nat} {X Y : Int} (h : D 0 i = D 2 i) (h2 : D 1 i < D 3 i) : OnS D k i X Y ↔ (X = D 0 i * k ∧ D 1 i * k ≤ Y ∧ Y ≤ D 3 i * k) := by
  unfold OnS minI maxI
  rw [if_neg (by omega), if_pos h2, ← h]
  constructor
  · rintro ⟨⟨a, b⟩, c, -⟩
    exact ⟨by omega, c⟩
  · rintro ⟨rfl, c⟩
    refine ⟨⟨Int.le_refl _, Int.le_refl _⟩, c, ?_⟩
    rw [Int.sub_self, Int.sub_self, Int.zero_mul, Int.mul_zero]
theorem OnS_fl {D : Nat → Nat → Int} {k : Int} {i : Nat} {X Y : Int} (hk : 0 < k) (h : D 0 i < D 2 i) : OnS D k i X Y ↔ ((D 0 i * k ≤ X ∧ X ≤ D 2 i * k) ∧ (X - D 0 i * k) * (D 3 i - D 1 i) = (Y - D 1 i * k) * (D 2 i - D 0 i)) := by
  unfold OnS
  refine ⟨fun z => ⟨z.1, z.2.2⟩, fun z => ⟨z.1, ?_, z.2⟩⟩
  obtain ⟨⟨z1, z2⟩, z3⟩ := z
  have hr : 0 < D 2 i - D 0 i := by omega
  have hX : X - D 0 i * k ≤ (D 2 i - D 0 i) * k := by
    rw [Int.sub_mul]
    omega
  have hX0 : 0 ≤ X - D 0 i * k := by omega
  generalize X - D 0 i * k = P at *
  have eY : Y = D 1 i * k + (Y - D 1 i * k) := by omega
  have eY2 : D 3 i * k - Y = (D 3 i - D 1 i) * k - (Y - D 1 i * k) := by rw [Int.sub_mul]; omega
  generalize Y - D 1 i * k = Q at *
  generalize D 2 i - D 0 i = r at *
  have g1 : Q * r = P * (D 3 i - D 1 i) := z3.symm
  have g2 : ((D 3 i - D 1 i) * k - Q) * r = (r * k - P) * (D 3 i - D 1 i) := by grind
  unfold minI maxI
  by_cases c : D 3 i < D 1 i
  · rw [if_pos c, if_neg (by omega)]
    have k1 := nn_of (z := -Q) hr (by rw [Int.neg_mul, g1, ← Int.mul_neg]; exact Int.mul_nonneg hX0 (by omega))
    have k2 := nn_of (z := -((D 3 i - D 1 i) * k - Q)) hr (by rw [Int.neg_mul, g2, ← Int.mul_neg]; exact Int.mul_nonneg (by omega) (by omega))
    omega
  · rw [if_neg c]
    have k1 := nn_of (z := Q) hr (by rw [g1]; exact Int.mul_nonneg hX0 (by omega))
    have k2 := nn_of (z := (D 3 i - D 1 i) * k - Q) hr (by rw [g2]; exact Int.mul_nonneg (by omega) (by omega))
    split
    · omega
    · have : D 3 i - D 1 i = 0 := by omega
      rw [this, Int.zero_mul] at k2
      omega
/-- what lies between two places of a line and another one lies on that other one too -/
theorem seg_on {D : Nat → Nat → Int} {k : Int} {l l' : Nat} {X1 Y1 X2 Y2 X Y : Int} (hk : 0 < k) (hl : D 0 l < D 2 l ∨ (D 0 l = D 2 l ∧ D 1 l < D 3 l)) (hl' : D 0 l' < D 2 l' ∨ (D 0 l' = D 2 l' ∧ D 1 l' < D 3 l'))
    (h1 : OnS D k l X1 Y1) (h2 : OnS D k l X2 Y2) (h1' : OnS D k l' X1 Y1) (h2' : OnS D k l' X2 Y2) (h : OnS D k l X Y) (o12 : X1 < X2 ∨ (X1 = X2 ∧ Y1 < Y2)) (o1 : X1 < X ∨ (X1 = X ∧ Y1 ≤ Y)) (o2 : X < X2 ∨ (X = X2 ∧ Y ≤ Y2)) : OnS D k l' X Y := by
  rcases hl with c | c
  · rw [OnS_fl hk c] at h1 h2 h
    have hX : X1 < X2 := by
      rcases o12 with z | ⟨z1, z2⟩
      · exact z
      · exfalso
        have e := h1.2.symm.trans (z1 ▸ h2.2)
        have := mul_can (by omega) e
        omega
    rcases hl' with c' | c'
    · rw [OnS_fl hk c'] at h1' h2' ⊢
      refine ⟨by omega, ?_⟩
      have e1 := h1.2
      have e2 := h2.2
      have e := h.2
      have f1 := h1'.2
      have f2 := h2'.2
      have hr : 0 < D 2 l - D 0 l := by omega
      generalize D 2 l - D 0 l = r at *
      generalize D 3 l - D 1 l = s at *
      generalize D 2 l' - D 0 l' = r' at *
      generalize D 3 l' - D 1 l' = s' at *
      generalize D 0 l * k = A at *
      generalize D 1 l * k = B at *
      generalize D 0 l' * k = A' at *
      generalize D 1 l' * k = B' at *
      have d1 : (X2 - X1) * s = (Y2 - Y1) * r := by grind
      have d2 : (X2 - X1) * s' = (Y2 - Y1) * r' := by grind
      have d3 : (X - X1) * s = (Y - Y1) * r := by grind
      have key : (X - X1) * s' = (Y - Y1) * r' := by
        refine mul_can (c := (X2 - X1) * r) (Int.ne_of_gt (Int.mul_pos (by omega) hr)) ?_
        have t1 : (X - X1) * s' * ((X2 - X1) * r) = (X - X1) * r * ((X2 - X1) * s') := by grind
        have t2 : (Y - Y1) * r' * ((X2 - X1) * r) = (Y - Y1) * r * ((X2 - X1) * r') := by grind
        rw [t1, t2, d2, ← d3]
        have t3 : (X - X1) * r * ((Y2 - Y1) * r') = (X - X1) * r' * ((Y2 - Y1) * r) := by grind
        rw [t3, ← d1]
        grind
      grind
    · rw [OnS_up c'.1 c'.2] at h1' h2'
      omega
  · rw [OnS_up c.1 c.2] at h1 h2 h
    rcases hl' with c' | c'
    · rw [OnS_fl hk c'] at h1' h2'
      exfalso
      have z : X1 = X2 := by omega
      have e := h1'.2.symm.trans (z ▸ h2'.2)
      have := mul_can (by omega) e
      omega
    · rw [OnS_up c'.1 c'.2] at h1' h2' ⊢
      omega
theorem nxB_ot {D : Nat → Nat → Int} {n m : Nat} {f : Nat → Int × Int × Int × Int} (h : LsD D (n : Int)) (hf : RowP f m) {l l' i j : Nat} (hj : j < m) (hl : l < n) (hl' : l' < n) (hn : nxB D f l i j = true) (h1 : onD D (f i) l' = true) (h2 : onD D (f j) l' = true) : nxB D f l' i j = true := by
  rw [nxB_iff] at hn ⊢
  refine ⟨hn.1, h1, h2, fun k hk hik z => hn.2.2.2 k hk hik ?_⟩
  have bi := (hf.2 i (by omega)).1
  have bj := (hf.2 j (by omega)).1
  have bk := (hf.2 k (by omega)).1
  have o1 := sXY_lt (hf.1 i k hik (by omega))
  have o2 := sXY_lt (hf.1 k j hk (by omega))
  have o3 := sXY_lt (hf.1 i j hn.1 (by omega))
  rw [on_S bi] at h1
  rw [on_S bj] at h2
  rw [on_S bk] at z ⊢
  have g1 := hn.2.1
  have g2 := hn.2.2.1
  rw [on_S bi] at g1
  rw [on_S bj] at g2
  exact seg_on KK_pos (h.2 l' (by omega)).2 (h.2 l (by omega)).2 h1 h2 g1 g2 z o3 (by omega) (by omega)
theorem lsB_iff {D : Nat → Nat → Int} {f : Nat → Int × Int × Int × Int} {l i j : Nat} : lsB D f l i j = true ↔ ∀ k, k < l → ¬ (onD D (f i) k = true ∧ onD D (f j) k = true) := by
  unfold lsB
  exact decide_eq_true_iff
theorem ind_1 {n : Nat} {P : Nat → Bool} {Q : Bool} (h1 : Q = true → ∃ k, k < n ∧ P k = true ∧ ∀ i, i < n → P i = true → i = k) (h2 : ∀ i, i < n → P i = true → Q = true) : sm (fun i => ind (P i)) n = ind Q := by
  by_cases c : Q = true
  · obtain ⟨k, hk, pk, u⟩ := h1 c
    rw [sm_one hk (fun i hi hne => ind_f (fun z => hne (u i hi z))), ind_t pk, ind_t c]
  · rw [ind_f c]
    exact sm_0 (fun i hi => ind_f (fun z => c (h2 i hi z)))
theorem pc_eq {D : Nat → Nat → Int} {n m : Nat} {f : Nat → Int × Int × Int × Int} (h : LsD D (n : Int)) (hf : RowP f m) : pcN D f n m = pcR D f n m := by
  have e1 : pcN D f n m = sm (fun l => sm (fun j => sm (fun i => ind (nxB D f l i j && lsB D f l i j)) m) m) n := by
    unfold pcN
    refine sm_congr fun l _ => ?_
    rw [cnt_sm]
    refine sm_congr fun j hj => ?_
    refine (ind_1 (fun c => ?_) (fun i hi c => ?_)).symm
    · rw [pcB_iff] at c
      obtain ⟨i, hij, c1, c2⟩ := c
      refine ⟨i, by omega, by rw [c1, c2]; rfl, fun i' _ z => ?_⟩
      rw [Bool.and_eq_true] at z
      exact nxB_one z.1 c1
    · rw [Bool.and_eq_true] at c
      exact pcB_iff.mpr ⟨i, (nxB_iff.mp c.1).1, c.1, c.2⟩
  have e2 : pcR D f n m = sm (fun i => sm (fun j => sm (fun l => ind (nxB D f l i j && lsB D f l i j)) n) m) m := by
    unfold pcR
    refine sm_congr fun i _ => ?_
    rw [cnt_sm]
    refine sm_congr fun j hj => ?_
    refine (ind_1 (fun c => ?_) (fun l hl c => ?_)).symm
    · rw [isPc_iff] at c
      obtain ⟨l, hl, c⟩ := c
      have cc := nxB_iff.mp c
      obtain ⟨k, hk, fk, _⟩ := fst_ex (L := fun l => onD D (f i) l && onD D (f j) l) (g := fun _ => 0) l (by rw [Bool.and_eq_true]; exact ⟨cc.2.1, cc.2.2.1⟩)
      rw [fstB_iff, Bool.and_eq_true] at fk
      refine ⟨k, by omega, ?_, fun l' hl' z => ?_⟩
      · rw [Bool.and_eq_true]
        refine ⟨nxB_ot h hf hj hl (by omega) c fk.1.1 fk.1.2, lsB_iff.mpr fun x hx z => ?_⟩
        exact fk.2 x hx (by rw [Bool.and_eq_true]; exact z) rfl
      · rw [Bool.and_eq_true, nxB_iff, lsB_iff] at z
        rcases Nat.lt_trichotomy l' k with d | d | d
        · exact absurd rfl (fk.2 l' d (by rw [Bool.and_eq_true]; exact ⟨z.1.2.1, z.1.2.2.1⟩))
        · exact d
        · exact absurd fk.1 (z.2 k d)
    · rw [Bool.and_eq_true] at c
      exact isPc_iff.mpr ⟨l, hl, c.1⟩
  rw [e1, e2]
  have e3 : ∀ l, sm (fun j => sm (fun i => ind (nxB D f l i j && lsB D f l i j)) m) m = sm (fun i => sm (fun j => ind (nxB D f l i j && lsB D f l i j)) m) m := fun l => sm_swap _ _ _
  rw [sm_congr (fun l _ => e3 l), sm_swap]
  exact sm_congr (fun i _ => sm_swap _ _ _)
