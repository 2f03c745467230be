/-! the reference's meeting -/
def MmAt (t : Sg) (D : Nat → Nat → Int) (a b : Nat) : Prop := t 68 5 = mK D a b ∧ ((mK D a b = 1 ∨ mK D a b = 2) → t 68 6 = mX D a b ∧ t 68 7 = mY D a b ∧ t 68 8 = mD D a b)
theorem mF_eq {D : Nat → Nat → Int} {a b : Nat} {r : Int} (e : BV r (lesB (D 0 a) (D 1 a) (D 0 b) (D 1 b) = true)) : (r = 0 → mF D a b = a) ∧ (¬ r = 0 → mF D a b = b) := by
  unfold mF
  refine ⟨fun q => if_neg ?_, fun q => if_pos ?_⟩
  · rcases e with e | e
    · omega
    · exact e.2
  · rcases e with e | e
    · exact e.2
    · omega
theorem mT_eq {D : Nat → Nat → Int} {a b : Nat} {r : Int} (e : BV r (lesB (D 2 a) (D 3 a) (D 2 b) (D 3 b) = true)) : (r = 0 → D 2 (mT D a b) = D 2 b ∧ D 3 (mT D a b) = D 3 b) ∧ (¬ r = 0 → D 2 (mT D a b) = D 2 a ∧ D 3 (mT D a b) = D 3 a) := by
  unfold mT
  have h1 : lesB (D 2 a) (D 3 a) (D 2 b) (D 3 b) = true ↔ (D 2 a < D 2 b ∨ (D 2 a = D 2 b ∧ D 3 a < D 3 b)) := by unfold lesB; exact decide_eq_true_iff
  have h2 : lesB (D 2 b) (D 3 b) (D 2 a) (D 3 a) = true ↔ (D 2 b < D 2 a ∨ (D 2 b = D 2 a ∧ D 3 b < D 3 a)) := by unfold lesB; exact decide_eq_true_iff
  rw [h1] at e
  by_cases c : lesB (D 2 b) (D 3 b) (D 2 a) (D 3 a) = true
  · rw [if_pos c]
    rw [h2] at c
    refine ⟨fun _ => ⟨rfl, rfl⟩, fun q => ?_⟩
    rcases e with e | e
    · omega
    · exact absurd e.1 q
  · rw [if_neg c]
    rw [h2] at c
    refine ⟨fun q => ?_, fun _ => ⟨rfl, rfl⟩⟩
    rcases e with e | e
    · omega
    · omega
theorem s_X10_inRow {s : Sg} {D : Nat → Nat → Int} {n : Int} {a b : Nat} {post : Sg → Prop} (h : LsD D n) (hat : LnAt s 69 n D) (ha : (a : Int) < n) (hb : (b : Int) < n) (hd : dT D a b = 0) (hu : uT D a b = 0) (hp : ∀ t, (∀ c, c ≠ 68 → t c = s c) → (∀ o, o ≠ 5 → o ≠ 6 → o ≠ 7 → o ≠ 8 → t 68 o = s 68 o) → MmAt t D a b → post t) : w_X10_meetInRow s (a : Int) (b : Int) post := by
  unfold w_X10_meetInRow
  have hn := h.1
  have ha10 : 0 ≤ (a : Int) ∧ (a : Int) < 10 := by omega
  have hb10 : 0 ≤ (b : Int) ∧ (b : Int) < 10 := by omega
  obtain ⟨a1, a2, a3, a4⟩ := hat a ha
  obtain ⟨b1, b2, b3, b4⟩ := hat b hb
  simp only [Nat.reduceAdd] at a1 a2 a3 a4 b1 b2 b3 b4
  simp only [Int.toNat_natCast]
  rw [a1, a2, a3, a4, b1, b2, b3, b4]
  refine ⟨ha10, ha10, hb10, hb10, s_X10_isLess fun r5 e5 => ⟨ha10, ha10, hb10, hb10, s_X10_isLess fun r10 e10 => ?_⟩⟩
  have eF := mF_eq e5
  have eT := mT_eq e10
  have hk : mK D a b = (if lesB (D 0 (mF D a b)) (D 1 (mF D a b)) (D 2 (mT D a b)) (D 3 (mT D a b)) = true then 3 else if D 0 (mF D a b) = D 2 (mT D a b) ∧ D 1 (mF D a b) = D 3 (mT D a b) then 2 else 0) := by
    unfold mK
    rw [if_pos hd, if_pos hu]
  have eX : mX D a b = D 0 (mF D a b) ∧ mY D a b = D 1 (mF D a b) ∧ mD D a b = 1 := by
    unfold mX mY mD
    rw [if_pos hd, if_pos hd, if_pos hd]
    exact ⟨rfl, rfl, rfl⟩
  have go : ∀ t11 t13 t15 t17, t11 = D 0 (mF D a b) → t13 = D 1 (mF D a b) → t15 = D 2 (mT D a b) → t17 = D 3 (mT D a b) → w_X10_isLess t11 t13 t15 t17 (fun r_19 => jn (fun (K_21 : Int → Prop) => (r_19 = 0 → jn (fun (K_26 : Prop) => (¬ t11 = t15 → K_26) ∧ (t11 = t15 → (¬ t13 = t17 → K_26) ∧ (t13 = t17 → K_21 2))) (K_21 0)) ∧ (¬ r_19 = 0 → K_21 3)) (fun (t_20 : Int) => ∀ s_22, s_22 = up s 68 5 t_20 → (∀ s_23, s_23 = up s_22 68 6 t11 → (∀ s_24, s_24 = up s_23 68 7 t13 → (∀ s_25, s_25 = up s_24 68 8 1 → (post s_25)))))) := by
    intro t11 t13 t15 t17 g1 g2 g3 g4
    rw [← g1, ← g2, ← g3, ← g4] at hk
    rw [← g1, ← g2] at eX
    have fin : ∀ k, k = mK D a b → ∀ s_22, s_22 = up s 68 5 k → (∀ s_23, s_23 = up s_22 68 6 t11 → (∀ s_24, s_24 = up s_23 68 7 t13 → (∀ s_25, s_25 = up s_24 68 8 1 → (post s_25)))) := by
      intro k ek _ f1 _ f2 _ f3 _ f4
      subst f1 f2 f3 f4
      refine hp _ (fun c hcc => by rw [up_ne _ _ _ hcc, up_ne _ _ _ hcc, up_ne _ _ _ hcc, up_ne _ _ _ hcc]) (fun o o1 o2 o3 o4 => by simp [up_apply, o1, o2, o3, o4]) ⟨?_, fun _ => ?_⟩
      · rw [← ek]; simp [up_apply]
      · rw [eX.1, eX.2.1, eX.2.2]; simp [up_apply]
    refine s_X10_isLess fun r19 e19 => ?_
    unfold jn
    refine ⟨fun q => ?_, fun q => fin 3 ?_⟩
    · have hno : ¬ lesB t11 t13 t15 t17 = true := by
        rcases e19 with e | e
        · omega
        · exact e.2
      rw [if_neg hno] at hk
      refine ⟨fun q2 => fin 0 ?_, fun q2 => ⟨fun q3 => fin 0 ?_, fun q3 => fin 2 ?_⟩⟩
      · rw [hk, if_neg (fun z => q2 z.1)]
      · rw [hk, if_neg (fun z => q3 z.2)]
      · rw [hk, if_pos ⟨q2, q3⟩]
    · rcases e19 with e | e
      · rw [hk, if_pos e.2]
      · exact absurd e.1 q
  unfold jn at go ⊢
  refine ⟨fun q1 => ⟨ha10, ⟨fun _ => ⟨ha10, ⟨fun q2 => ⟨hb10, ⟨fun _ => ⟨hb10, ?_⟩, fun z => absurd q2 z⟩⟩, fun q2 => ⟨ha10, ⟨fun z => absurd z q2, fun _ => ⟨ha10, ?_⟩⟩⟩⟩⟩, fun z => absurd q1 z⟩⟩, fun q1 => ⟨hb10, ⟨fun z => absurd z q1, fun _ => ⟨hb10, ⟨fun q2 => ⟨hb10, ⟨fun _ => ⟨hb10, ?_⟩, fun z => absurd q2 z⟩⟩, fun q2 => ⟨ha10, ⟨fun z => absurd z q2, fun _ => ⟨ha10, ?_⟩⟩⟩⟩⟩⟩⟩⟩
  · exact go _ _ _ _ (by rw [eF.1 q1]) (by rw [eF.1 q1]) (eT.1 q2).1.symm (eT.1 q2).2.symm
  · exact go _ _ _ _ (by rw [eF.1 q1]) (by rw [eF.1 q1]) (eT.2 q2).1.symm (eT.2 q2).2.symm
  · exact go _ _ _ _ (by rw [eF.2 q1]) (by rw [eF.2 q1]) (eT.1 q2).1.symm (eT.1 q2).2.symm
  · exact go _ _ _ _ (by rw [eF.2 q1]) (by rw [eF.2 q1]) (eT.2 q2).1.symm (eT.2 q2).2.symm
/-- lines in one row: what is no side of the first is none of the other -/
theorem row_t {rx ry sx sy p q : Int} (hr : ¬ (rx = 0 ∧ ry = 0)) (hd : rx * sy - ry * sx = 0) (hu : p * ry - q * rx = 0) : p * sy - q * sx = 0 := by
  have e1 : rx * (p * sy - q * sx) = 0 := by
    have : rx * (p * sy - q * sx) = p * (rx * sy - ry * sx) + sx * (p * ry - q * rx) := by grind
    rw [this, hd, hu]
    simp
  have e2 : ry * (p * sy - q * sx) = 0 := by
    have : ry * (p * sy - q * sx) = q * (rx * sy - ry * sx) + sy * (p * ry - q * rx) := by grind
    rw [this, hd, hu]
    simp
  rcases Int.mul_eq_zero.mp e1 with c | c
  · rcases Int.mul_eq_zero.mp e2 with d | d
    · exact absurd ⟨c, d⟩ hr
    · exact d
  · exact c
theorem s_X10_meet {s : Sg} {D : Nat → Nat → Int} {n : Int} {a b : Nat} {post : Sg → Prop} (h : LsD D n) (hat : LnAt s 69 n D) (ha : (a : Int) < n) (hb : (b : Int) < n) (hp : ∀ t, (∀ c, c ≠ 68 → t c = s c) → (∀ o, o ≠ 5 → o ≠ 6 → o ≠ 7 → o ≠ 8 → t 68 o = s 68 o) → MmAt t D a b → post t) : w_X10_meet s (a : Int) (b : Int) post := by
  unfold w_X10_meet
  have hn := h.1
  have ha10 : 0 ≤ (a : Int) ∧ (a : Int) < 10 := by omega
  have hb10 : 0 ≤ (b : Int) ∧ (b : Int) < 10 := by omega
  obtain ⟨a1, a2, a3, a4⟩ := hat a ha
  obtain ⟨b1, b2, b3, b4⟩ := hat b hb
  simp only [Nat.reduceAdd] at a1 a2 a3 a4 b1 b2 b3 b4
  simp only [Int.toNat_natCast]
  rw [a1, a2, a3, a4, b1, b2, b3, b4]
  have l1 := ln40 h ha hb
  have l2 := ln40 h hb ha
  have o1 : ok32 (mr D a) ∧ ok32 (ms D a) ∧ ok32 (mp D a b) ∧ ok32 (mq D a b) ∧ ok32 (mr D b) ∧ ok32 (ms D b) := by
    obtain ⟨p1, p2, p3, p4, -⟩ := l1
    obtain ⟨p5, p6, -⟩ := l2
    unfold B40 at p1 p2 p3 p4 p5 p6
    unfold ok32
    omega
  refine ⟨ha10, ha10, fun v3 e3 => ⟨ha10, ha10, fun v4 e4 => ⟨hb10, hb10, fun v5 e5 => ⟨hb10, hb10, fun v6 e6 => ?_⟩⟩⟩⟩
  rw [← mr.eq_1, w32_id o1.1] at e3
  rw [← ms.eq_1, w32_id o1.2.1] at e4
  rw [← mr.eq_1, w32_id o1.2.2.2.2.1] at e5
  rw [← ms.eq_1, w32_id o1.2.2.2.2.2] at e6
  subst e3 e4 e5 e6
  rw [← mp.eq_1 D a b, ← mq.eq_1 D a b, w32_id o1.2.2.1, w32_id o1.2.2.2.1]
  unfold w_X10_turn
  refine ⟨hb10, ha10, hb10, ha10, hb10, ha10, hb10, ha10, ?_⟩
  dsimp only
  rw [t32 l1.1 l2.2.1 l1.2.1 l2.1, t32 l1.2.2.1 l2.2.1 l1.2.2.2.1 l2.1, t32 l1.2.2.1 l1.2.1 l1.2.2.2.1 l1.1, ← dT.eq_1 D a b, ← tT.eq_1 D a b, ← uT.eq_1 D a b]
  intro s24 es24
  have s24o : ∀ c, c ≠ 68 → s24 c = s c := fun c hcc => by rw [es24, up_ne _ _ _ hcc]
  have s245 : s24 68 5 = 0 := by rw [es24, up_apply]; simp
  have s24m : ∀ o, o ≠ 5 → s24 68 o = s 68 o := fun o ho => by rw [es24, up_apply]; simp [ho]
  clear es24
  have hat1 : LnAt s24 69 n D := fun i hi => by
    rw [s24o 69 (by omega), s24o (69 + 1) (by omega), s24o (69 + 2) (by omega), s24o (69 + 3) (by omega)]
    exact hat i hi
  have hB := mS_b h ha hb
  refine ⟨fun hd => ?_, fun hd => ?_⟩
  · have hk : mK D a b = if mIn D a b = true then (if mE D a b = true then 2 else 1) else 0 := by
      unfold mK
      rw [if_neg hd]
    have main : ∀ v7 v8 v9, v7 = mS D a b * dT D a b → v8 = mS D a b * tT D a b → v9 = mS D a b * uT D a b → w_X10_in v8 0 v7 (fun r_29 => jn (fun (K_30 : Prop) => (r_29 = 0 → K_30) ∧ (¬ r_29 = 0 → w_X10_in v9 0 v7 (fun r_31 => (¬ r_31 = 0 → jn (fun (K_33 : Int → Prop) => jn (fun (K_40 : Prop) => (v8 = 0 → K_40) ∧ (¬ v8 = 0 → (v8 = v7 → K_40) ∧ (¬ v8 = v7 → (v9 = 0 → K_40) ∧ (¬ v9 = 0 → (¬ v9 = v7 → K_33 1) ∧ (v9 = v7 → K_40))))) (K_33 2)) (fun (t_32 : Int) => ∀ s_34, s_34 = up s24 68 5 t_32 → ((0 ≤ (a : Int) ∧ (a : Int) < 10) ∧ (∀ s_36, s_36 = up s_34 68 6 (w64 ((w64 ((s_34 69 a) * v7)) + (w64 (v8 * mr D a)))) → ((0 ≤ (a : Int) ∧ (a : Int) < 10) ∧ (∀ s_38, s_38 = up s_36 68 7 (w64 ((w64 ((s_36 70 a) * v7)) + (w64 (v8 * ms D a)))) → (∀ s_39, s_39 = up s_38 68 8 v7 → (post s_39)))))))) ∧ (r_31 = 0 → K_30)))) (post s24)) := by
      intro v7 v8 v9 e7 e8 e9
      have hin := mIn_iff (D := D) (a := a) (b := b)
      have hee := mE_iff (D := D) (a := a) (b := b)
      have out : ¬ mIn D a b = true → post s24 := by
        intro z
        rw [if_neg z] at hk
        exact hp s24 s24o (fun o p1 _ _ _ => s24m o p1) ⟨by rw [s245, hk], fun z2 => by omega⟩
      have inn : mIn D a b = true → ∀ k, k = (if mE D a b = true then (2 : Int) else 1) → ∀ s_34, s_34 = up s24 68 5 k → ((0 ≤ (a : Int) ∧ (a : Int) < 10) ∧ (∀ s_36, s_36 = up s_34 68 6 (w64 ((w64 ((s_34 69 a) * v7)) + (w64 (v8 * mr D a)))) → ((0 ≤ (a : Int) ∧ (a : Int) < 10) ∧ (∀ s_38, s_38 = up s_36 68 7 (w64 ((w64 ((s_36 70 a) * v7)) + (w64 (v8 * ms D a)))) → (∀ s_39, s_39 = up s_38 68 8 v7 → (post s_39)))))) := by
        intro z k ek s34 f1
        subst f1
        refine ⟨ha10, fun s36 f2 => ?_⟩
        subst f2
        refine ⟨ha10, fun s38 f3 s39 f4 => ?_⟩
        have hxy := mXY_b h ha hb hd z
        have eD : v7 = mD D a b := by
          unfold mD
          rw [if_neg hd, e7]
        rw [← e7, ← e8] at hxy
        rw [up_ne _ _ _ (show 70 ≠ 68 by omega), up_ne _ _ _ (show 70 ≠ 68 by omega), up_ne _ _ _ (show 69 ≠ 68 by omega), s24o 69 (by omega), s24o 70 (by omega), a1, a2, hxy.2.2.2.1, hxy.2.2.2.2] at f3
        subst f3
        subst f4
        refine hp _ (fun c hcc => by rw [up_ne _ _ _ hcc, up_ne _ _ _ hcc, up_ne _ _ _ hcc, up_ne _ _ _ hcc, s24o c hcc]) (fun o p1 p2 p3 p4 => by simp [up_apply, p1, p2, p3, p4, s24m o p1]) ⟨?_, fun _ => ?_⟩
        · rw [hk, if_pos z, ← ek]
          simp [up_apply]
        · rw [← eD]
          simp [up_apply]
      rw [← e7, ← e8, ← e9] at hin hee
      clear e7 e8 e9
      refine s_X10_in fun r29 e29 => ?_
      unfold jn
      refine ⟨fun q => out (fun z => by have := hin.mp z; rcases e29 with e | e <;> omega), fun q => s_X10_in fun r31 e31 => ⟨fun q2 => ?_, fun q2 => out (fun z => by have := hin.mp z; rcases e31 with e | e <;> omega)⟩⟩
      have g1 : 0 ≤ v8 ∧ v8 ≤ v7 := by rcases e29 with e | e <;> omega
      have g2 : 0 ≤ v9 ∧ v9 ≤ v7 := by rcases e31 with e | e <;> omega
      have z := hin.mpr ⟨g1, g2⟩
      have i2 := fun q : (v8 = 0 ∨ v8 = v7 ∨ v9 = 0 ∨ v9 = v7) => inn z 2 (if_pos (hee.mpr q)).symm
      have i1 := fun q : ¬ (v8 = 0 ∨ v8 = v7 ∨ v9 = 0 ∨ v9 = v7) => inn z 1 (if_neg (fun y => q (hee.mp y))).symm
      refine ⟨fun q => i2 (by omega), fun p1 => ⟨fun q => i2 (by omega), fun p2 => ⟨fun q => i2 (by omega), fun p3 => ⟨fun q => i1 (by omega), fun q => i2 (by omega)⟩⟩⟩⟩
    have hms : (0 ≤ dT D a b → mS D a b = 1) ∧ (¬ 0 ≤ dT D a b → mS D a b = -1) := by
      unfold mS
      exact ⟨fun q => by rw [if_neg (by omega)], fun q => by rw [if_pos (by omega)]⟩
    refine ⟨fun q => main _ _ _ ?_ ?_ ?_, fun q v7 e7 v8 e8 v9 e9 => main _ _ _ ?_ ?_ ?_⟩
    · rw [hms.1 q]; omega
    · rw [hms.1 q]; omega
    · rw [hms.1 q]; omega
    · rw [e7, hms.2 q, w32_id (show ok32 (-dT D a b) from ⟨by omega, by omega⟩)]; omega
    · rw [e8, hms.2 q, w32_id (show ok32 (-tT D a b) from ⟨by omega, by omega⟩)]; omega
    · rw [e9, hms.2 q, w32_id (show ok32 (-uT D a b) from ⟨by omega, by omega⟩)]; omega
  · have hno : ¬ uT D a b = 0 → post s24 := by
      intro q
      have : mK D a b = 0 := by
        unfold mK
        rw [if_pos hd, if_neg q]
      exact hp s24 s24o (fun o p1 _ _ _ => s24m o p1) ⟨by rw [s245, this], fun z => by omega⟩
    unfold jn
    refine ⟨fun q => hno q, fun q => ⟨fun q2 => absurd ?_ q2, fun _ => s_X10_inRow h hat1 ha hb hd q fun t ho hm hM => hp t (fun c hcc => by rw [ho c hcc, s24o c hcc]) (fun o p1 p2 p3 p4 => by rw [hm o p1 p2 p3 p4, s24m o p1]) hM⟩⟩
    have hr : ¬ (mr D a = 0 ∧ ms D a = 0) := by
      have := (h.2 a ha).2
      unfold mr ms
      omega
    unfold dT at hd
    unfold uT at q
    exact row_t hr hd q
