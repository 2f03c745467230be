theorem m3200 {a b : Int} (ha : 0 ≤ a ∧ a ≤ 40) (hb : 0 ≤ b ∧ b ≤ 3200) : w64 (a * b) = a * b ∧ (0 ≤ a * b ∧ a * b ≤ 128000) := by
  have h := mb (a := a) (b := b) (A := 40) (B := 3200) (by omega) (by omega)
  have h2 := Int.mul_nonneg ha.1 hb.1
  exact ⟨w64_b h (by decide), h2, by omega⟩
theorem mS_b {D : Nat → Nat → Int} {n : Int} {a b : Nat} (h : LsD D n) (ha : (a : Int) < n) (hb : (b : Int) < n) : (0 ≤ mS D a b * dT D a b ∧ mS D a b * dT D a b ≤ 3200) ∧ (-3200 ≤ mS D a b * tT D a b ∧ mS D a b * tT D a b ≤ 3200) ∧ (-3200 ≤ mS D a b * uT D a b ∧ mS D a b * uT D a b ≤ 3200) ∧ (-3200 ≤ dT D a b ∧ dT D a b ≤ 3200) ∧ (-3200 ≤ tT D a b ∧ tT D a b ≤ 3200) ∧ (-3200 ≤ uT D a b ∧ uT D a b ≤ 3200) := by
  have l1 := ln40 h ha hb
  have l2 := ln40 h hb ha
  have h1 := (t64 l1.1 l2.2.1 l1.2.1 l2.1).2
  have h2 := (t64 l1.2.2.1 l2.2.1 l1.2.2.2.1 l2.1).2
  have h3 := (t64 l1.2.2.1 l1.2.1 l1.2.2.2.1 l1.1).2
  rw [← dT.eq_1] at h1
  rw [← tT.eq_1] at h2
  rw [← uT.eq_1] at h3
  unfold mS
  by_cases c : dT D a b < 0
  · rw [if_pos c]; omega
  · rw [if_neg c]; omega
theorem mIn_iff {D : Nat → Nat → Int} {a b : Nat} : mIn D a b = true ↔ ((0 ≤ mS D a b * tT D a b ∧ mS D a b * tT D a b ≤ mS D a b * dT D a b) ∧ (0 ≤ mS D a b * uT D a b ∧ mS D a b * uT D a b ≤ mS D a b * dT D a b)) := by
  unfold mIn
  exact decide_eq_true_iff
theorem mE_iff {D : Nat → Nat → Int} {a b : Nat} : mE D a b = true ↔ (mS D a b * tT D a b = 0 ∨ mS D a b * tT D a b = mS D a b * dT D a b ∨ mS D a b * uT D a b = 0 ∨ mS D a b * uT D a b = mS D a b * dT D a b) := by
  unfold mE
  exact decide_eq_true_iff
theorem rg3 (y w t v z : Int) : y * w + t * (v - y) = y * (w - t) + t * v := by grind
theorem mXY_b {D : Nat → Nat → Int} {n : Int} {a b : Nat} (h : LsD D n) (ha : (a : Int) < n) (hb : (b : Int) < n) (hd : ¬ dT D a b = 0) (hi : mIn D a b = true) :
    (0 ≤ mX D a b ∧ mX D a b ≤ 256000) ∧ (0 ≤ mY D a b ∧ mY D a b ≤ 256000) ∧ (0 < mD D a b ∧ mD D a b ≤ 3200) ∧
    w64 (w64 (D 0 a * (mS D a b * dT D a b)) + w64 (mS D a b * tT D a b * mr D a)) = mX D a b ∧ w64 (w64 (D 1 a * (mS D a b * dT D a b)) + w64 (mS D a b * tT D a b * ms D a)) = mY D a b := by
  rw [mIn_iff] at hi
  have hB := mS_b h ha hb
  have l1 := ln40 h ha hb
  obtain ⟨⟨a1, a2, a3, a4⟩, hl⟩ := h.2 a ha
  have hne : ¬ mS D a b * dT D a b = 0 := by
    unfold mS
    split <;> omega
  unfold mX mY mD
  rw [if_neg hd, if_neg hd, if_neg hd]
  generalize mS D a b * dT D a b = w at *
  generalize mS D a b * tT D a b = t at *
  have x1 := m3200 a1 hB.1
  have y1 := m3200 a2 hB.1
  have x2 := mb (a := t) (b := mr D a) (A := 3200) (B := 40) (by omega) l1.1
  have y2 := mb (a := t) (b := ms D a) (A := 3200) (B := 40) (by omega) l1.2.1
  have x3 := Int.mul_nonneg (show 0 ≤ t by omega) l1.2.2.2.2
  have y3 : 0 ≤ D 1 a * w + t * ms D a := by
    unfold ms
    rw [rg3 _ _ _ _ 0]
    have p1 := Int.mul_nonneg a2.1 (show 0 ≤ w - t by omega)
    have p2 := Int.mul_nonneg (show 0 ≤ t by omega) a4.1
    omega
  rw [x1.1, y1.1, w64_b x2 (by decide), w64_b y2 (by decide)]
  refine ⟨by omega, by omega, by omega, w64_id ⟨by omega, by omega⟩, w64_id ⟨by omega, by omega⟩⟩
theorem lo_w {x d : Int} (hx : 0 ≤ x ∧ x ≤ 256000) (hd : 0 < d ∧ d ≤ 3200) : w64 (loN x d) = loN x d ∧ w64 (loD x d) = loD x d ∧ (0 ≤ loN x d ∧ loN x d ≤ 256000) ∧ (0 ≤ loD x d ∧ loD x d ≤ 3200) := by
  have ex : x = ((x.natAbs : Nat) : Int) := by omega
  have ed : d = ((d.natAbs : Nat) : Int) := by omega
  have h1 : loN x d = ((x.natAbs / Nat.gcd x.natAbs d.natAbs : Nat) : Int) := by
    unfold loN
    conv => lhs; rw [ex]
    rw [tdiv_nat, Int.natAbs_natCast]
  have h2 : loD x d = ((d.natAbs / Nat.gcd x.natAbs d.natAbs : Nat) : Int) := by
    unfold loD
    conv => lhs; rw [ed]
    rw [tdiv_nat, Int.natAbs_natCast]
  have h3 := Nat.div_le_self x.natAbs (Nat.gcd x.natAbs d.natAbs)
  have h4 := Nat.div_le_self d.natAbs (Nat.gcd x.natAbs d.natAbs)
  rw [h1, h2]
  clear h1 h2
  generalize x.natAbs / Nat.gcd x.natAbs d.natAbs = X at *
  generalize d.natAbs / Nat.gcd x.natAbs d.natAbs = Y at *
  refine ⟨w64_id ⟨by omega, by omega⟩, w64_id ⟨by omega, by omega⟩, by omega, by omega⟩
theorem s_X3_layAt {s : Sg} {c : Nat} {x y d : Int} {post : Sg → Prop} (hx : 0 ≤ x ∧ x ≤ 256000) (hy : 0 ≤ y ∧ y ≤ 256000) (hd : 0 < d ∧ d ≤ 3200) (hp : post (up (up (up (up s c 1 (loN x d)) c 2 (loD x d)) c 3 (loN y d)) c 4 (loD y d))) : w_X3_layAt s c x y d post := by
  unfold w_X3_layAt
  have ex : x = ((x.natAbs : Nat) : Int) := by omega
  have ey : y = ((y.natAbs : Nat) : Int) := by omega
  have ed : d = ((d.natAbs : Nat) : Int) := by omega
  have pw : (2 : Nat) ^ 40 = 1099511627776 := by decide
  have g1 : 0 < Nat.gcd x.natAbs d.natAbs := Nat.gcd_pos_of_pos_right _ (by omega)
  have g2 : 0 < Nat.gcd y.natAbs d.natAbs := Nat.gcd_pos_of_pos_right _ (by omega)
  have w1 := lo_w hx hd
  have w2 := lo_w hy hd
  have c1 : ∀ post : Int → Prop, post (Nat.gcd x.natAbs d.natAbs : Int) → w_X9_commonDivisor x d post := by
    intro post h
    rw [ex, ed]
    exact s_X9_commonDivisor (by omega) (by omega) (by simpa using g1) (by simpa using h)
  have c2 : ∀ post : Int → Prop, post (Nat.gcd y.natAbs d.natAbs : Int) → w_X9_commonDivisor y d post := by
    intro post h
    rw [ey, ed]
    exact s_X9_commonDivisor (by omega) (by omega) (by simpa using g2) (by simpa using h)
  refine c1 _ (c2 _ ?_)
  refine ⟨by omega, ?_⟩
  rintro _ rfl
  refine ⟨by omega, ?_⟩
  rintro _ rfl
  refine ⟨by omega, ?_⟩
  rintro _ rfl
  refine ⟨by omega, ?_⟩
  rintro _ rfl
  rw [← loN.eq_1, ← loD.eq_1, ← loN.eq_1, ← loD.eq_1, w1.1, w1.2.1, w2.1, w2.2.1]
  exact hp
theorem s_X3_find {s : Sg} {c0 c1 : Nat} {D : Nat → Nat → Int} {n : Int} {a b : Nat} {post : Sg → Prop} (h : LsD D n) (hat : LnAt s (c1 + 1) n D) (hc : c0 < c1 + 1 ∨ c1 + 4 < c0) (ha : (a : Int) < n) (hb : (b : Int) < n) (hp : ∀ t, (∀ c, c ≠ c0 → t c = s c) → MtAt t c0 D a b → post t) : w_X3_find s c0 c1 (a : Int) (b : Int) post := by
  unfold w_X3_find
  intro s1 es1
  have hn := h.1
  have ha10 : 0 ≤ (a : Int) ∧ (a : Int) < 10 := by omega
  have hb10 : 0 ≤ (b : Int) ∧ (b : Int) < 10 := by omega
  have s1o : ∀ c, c ≠ c0 → s1 c = s c := fun c hcc => by rw [es1, up_ne _ _ _ hcc]
  have s10 : s1 c0 0 = 0 := by rw [es1, up_apply]; simp
  clear es1
  have hat1 : LnAt s1 (c1 + 1) n D := fun i hi => by
    rw [s1o (c1 + 1) (by omega), s1o (c1 + 1 + 1) (by omega), s1o (c1 + 1 + 2) (by omega), s1o (c1 + 1 + 3) (by omega)]
    exact hat i hi
  refine s_runG h hat1 ha (s_riseG h hat1 ha (s_runG h hat1 hb (s_riseG h hat1 hb ?_)))
  obtain ⟨a1, a2, a3, a4⟩ := hat1 a ha
  obtain ⟨b1, b2, b3, b4⟩ := hat1 b hb
  simp only [Nat.add_assoc, Nat.reduceAdd] at a1 a2 a3 a4 b1 b2 b3 b4
  simp only [Int.toNat_natCast]
  rw [a1, a2, b1, b2]
  have l1 := ln40 h ha hb
  have l2 := ln40 h hb ha
  refine ⟨hb10, ha10, fun v12 e12 => ⟨hb10, ha10, fun v14 e14 => ?_⟩⟩
  rw [w32_id (show ok32 (D 0 b - D 0 a) from ⟨by have := l1.2.2.1; unfold B40 mp at this; omega, by have := l1.2.2.1; unfold B40 mp at this; omega⟩), ← mp.eq_1 D a b] at e12
  rw [w32_id (show ok32 (D 1 b - D 1 a) from ⟨by have := l1.2.2.2.1; unfold B40 mq at this; omega, by have := l1.2.2.2.1; unfold B40 mq at this; omega⟩), ← mq.eq_1 D a b] at e14
  subst e12 e14
  rw [(t64 l1.1 l2.2.1 l1.2.1 l2.1).1, (t64 l1.2.2.1 l2.2.1 l1.2.2.2.1 l2.1).1, (t64 l1.2.2.1 l1.2.1 l1.2.2.2.1 l1.1).1, ← dT.eq_1 D a b, ← tT.eq_1 D a b, ← uT.eq_1 D a b, m64 l1.1 l1.2.2.2.1, m64 l1.2.1 l1.2.2.1]
  intro v16 e16
  subst e16
  have hB := mS_b h ha hb
  refine ⟨fun hd => ?_, fun hd => ?_⟩
  · have hk : mK D a b = if mIn D a b = true then (if mE D a b = true then 2 else 1) else 0 := by
      unfold mK
      rw [if_neg hd]
    have main : ∀ t13, t13 = mS D a b → (∀ v19_15, v19_15 = w64 (t13 * dT D a b) → (∀ v21_16, v21_16 = w64 (t13 * tT D a b) → (∀ v23_17, v23_17 = w64 (t13 * uT D a b) → (jn (fun (K_18 : Prop) => (v21_16 < 0 → K_18) ∧ (¬ v21_16 < 0 → (v19_15 < v21_16 → K_18) ∧ (¬ v19_15 < v21_16 → (v23_17 < 0 → K_18) ∧ (¬ v23_17 < 0 → (v23_17 ≤ v19_15 → jn (fun (K_20 : Int → Prop) => jn (fun (K_27 : Prop) => (v21_16 ≤ 0 → K_27) ∧ (¬ v21_16 ≤ 0 → (v19_15 ≤ v21_16 → K_27) ∧ (¬ v19_15 ≤ v21_16 → (v23_17 ≤ 0 → K_27) ∧ (¬ v23_17 ≤ 0 → (v19_15 ≤ v23_17 → K_27) ∧ (¬ v19_15 ≤ v23_17 → K_20 1))))) (K_20 0)) (fun (t_19 : Int) => jn (fun (K_22 : Int → Prop) => (t_19 = 0 → K_22 2) ∧ (¬ t_19 = 0 → K_22 1)) (fun (t_21 : Int) => ∀ s_23, s_23 = up s1 c0 0 t_21 → ((0 ≤ (a : Int) ∧ (a : Int) < 10) ∧ ((0 ≤ (a : Int) ∧ (a : Int) < 10) ∧ (w_X3_layAt s_23 c0 (w64 ((w64 ((s_23 (c1 + 1) a) * v19_15)) + (w64 (v21_16 * mr D a)))) (w64 ((w64 ((s_23 (c1 + 2) a) * v19_15)) + (w64 (v21_16 * ms D a)))) v19_15 (fun s_26 => post s_26))))))) ∧ (¬ v23_17 ≤ v19_15 → K_18))))) (post s1))))) := by
      rintro _ rfl v19 e19 v21 e21 v23 e23
      rw [w64_id (show ok64 (mS D a b * dT D a b) from ⟨by omega, by omega⟩)] at e19
      rw [w64_id (show ok64 (mS D a b * tT D a b) from ⟨by omega, by omega⟩)] at e21
      rw [w64_id (show ok64 (mS D a b * uT D a b) from ⟨by omega, by omega⟩)] at e23
      have out : ¬ mIn D a b = true → post s1 := by
        intro z
        rw [if_neg z] at hk
        exact hp s1 s1o ⟨by rw [s10, hk], fun z2 => by omega⟩
      have hin := mIn_iff (D := D) (a := a) (b := b)
      have hee := mE_iff (D := D) (a := a) (b := b)
      have inn : mIn D a b = true → ∀ t21, t21 = (if mE D a b = true then (2 : Int) else 1) → ∀ s_23, s_23 = up s1 c0 0 t21 → ((0 ≤ (a : Int) ∧ (a : Int) < 10) ∧ ((0 ≤ (a : Int) ∧ (a : Int) < 10) ∧ (w_X3_layAt s_23 c0 (w64 ((w64 ((s_23 (c1 + 1) a) * v19)) + (w64 (v21 * mr D a)))) (w64 ((w64 ((s_23 (c1 + 2) a) * v19)) + (w64 (v21 * ms D a)))) v19 (fun s_26 => post s_26)))) := by
        intro z t21 e21' s23 es23
        subst es23
        refine ⟨ha10, ha10, ?_⟩
        have hxy := mXY_b h ha hb hd z
        have eD : v19 = mD D a b := by
          unfold mD
          rw [if_neg hd, e19]
        rw [up_ne _ _ _ (show c1 + 1 ≠ c0 by omega), up_ne _ _ _ (show c1 + 2 ≠ c0 by omega), a1, a2, e21, eD]
        have eD2 : mD D a b = mS D a b * dT D a b := by unfold mD; rw [if_neg hd]
        rw [← eD2] at hxy
        rw [hxy.2.2.2.1, hxy.2.2.2.2]
        refine s_X3_layAt hxy.1 hxy.2.1 hxy.2.2.1 ?_
        refine hp _ (fun c hcc => by rw [up_ne _ _ _ hcc, up_ne _ _ _ hcc, up_ne _ _ _ hcc, up_ne _ _ _ hcc, up_ne _ _ _ hcc, s1o c hcc]) ⟨?_, fun _ => ?_⟩
        · rw [hk, if_pos z, ← e21']
          simp [up_apply]
        · simp [up_apply]
      rw [← e19, ← e21, ← e23] at hin hee
      clear e19 e21 e23
      unfold jn
      refine ⟨fun q => out (fun z => by have := hin.mp z; omega), fun q1 => ⟨fun q => out (fun z => by have := hin.mp z; omega), fun q2 => ⟨fun q => out (fun z => by have := hin.mp z; omega), fun q3 => ⟨fun q4 => ?_, fun q => out (fun z => by have := hin.mp z; omega)⟩⟩⟩⟩
      have z := hin.mpr ⟨⟨by omega, by omega⟩, ⟨by omega, by omega⟩⟩
      have i2 := inn z 2
      have i1 := inn z 1
      have k2 : ∀ q : (v21 = 0 ∨ v21 = v19 ∨ v23 = 0 ∨ v23 = v19), (2 : Int) = if mE D a b = true then (2 : Int) else 1 := fun q => (if_pos (hee.mpr q)).symm
      have k1 : ∀ q : ¬ (v21 = 0 ∨ v21 = v19 ∨ v23 = 0 ∨ v23 = v19), (1 : Int) = if mE D a b = true then (2 : Int) else 1 := fun q => (if_neg (fun y => q (hee.mp y))).symm
      refine ⟨fun q => ⟨fun _ => i2 (k2 (by omega)), fun q0 => absurd rfl q0⟩, fun p1 => ⟨fun q => ⟨fun _ => i2 (k2 (by omega)), fun q0 => absurd rfl q0⟩, fun p2 => ⟨fun q => ⟨fun _ => i2 (k2 (by omega)), fun q0 => absurd rfl q0⟩, fun p3 => ⟨fun q => ⟨fun _ => i2 (k2 (by omega)), fun q0 => absurd rfl q0⟩, fun p4 => ⟨fun q => by omega, fun _ => i1 (k1 (by omega))⟩⟩⟩⟩⟩
    have hms : (0 ≤ dT D a b → (1 : Int) = mS D a b) ∧ (¬ 0 ≤ dT D a b → (-1 : Int) = mS D a b) := by
      unfold mS
      exact ⟨fun q => by rw [if_neg (by omega)], fun q => by rw [if_pos (by omega)]⟩
    exact ⟨fun q => main 1 (hms.1 q), fun q => main (-1) (hms.2 q)⟩
  · have hu : uT D a b = 0 ↔ mr D a * mq D a b = ms D a * mp D a b := by
      unfold uT
      rw [Int.mul_comm (mr D a), Int.mul_comm (ms D a)]
      omega
    unfold jn
    refine ⟨fun q => hp s1 s1o ⟨?_, ?_⟩, fun q => ?_⟩
    · rw [s10]
      unfold mK
      rw [if_pos hd, if_neg (fun z => q (hu.mp z))]
    · have : mK D a b = 0 := by
        unfold mK
        rw [if_pos hd, if_neg (fun z => q (hu.mp z))]
      intro z
      omega
    · exact s_X3_inRow h hat1 hc ha hb s10 hd (hu.mpr q) fun t ho hm => hp t (fun c hcc => by rw [ho c hcc, s1o c hcc]) hm
