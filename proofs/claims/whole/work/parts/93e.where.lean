/-! where -/
/-- a place on no line is on none that bounds its cell -/
theorem no_on {D : Nat → Nat → Int} {i : Nat} {x y d : Int} (hd : 0 < d) (hu : D 0 i < D 2 i) (h1 : D 0 i * d ≤ x) (h2 : x ≤ D 2 i * d) (he : hgt D i x d = y * (D 2 i - D 0 i)) : OnL (D 0 i) (D 1 i) (D 2 i) (D 3 i) x d y d := by
  have os : OnS D d i x y := by
    rw [OnS_fl hd hu]
    refine ⟨⟨h1, h2⟩, ?_⟩
    unfold hgt at he
    grind
  refine ⟨os.1, os.2.1, ?_⟩
  have e := os.2.2
  have t1 : (x - D 0 i * d) * d * (D 3 i - D 1 i) = (x - D 0 i * d) * (D 3 i - D 1 i) * d := by grind
  have t2 : (y - D 1 i * d) * d * (D 2 i - D 0 i) = (y - D 1 i * d) * (D 2 i - D 0 i) * d := by grind
  rw [t1, t2, e]
def Sbf (g : Nat → Int × Int) (M : Nat) (x d : Int) (i : Nat) : Prop := i < M ∧ ¬ x * (g i).2 < (g i).1 * d
def Wbf (D : Nat → Nat → Int) (g : Nat → Int × Int) (n M sl : Nat) (x y d : Int) (q : Nat) : Prop := ∃ i : Nat, FstX (hiPB D g n M sl q) n (i : Int) ∧ hgt D i x d < y * (D 2 i - D 0 i)
theorem stop_one {P : Nat → Prop} {a b : Nat} (h1 : ∀ j, j < a → P j) (h2 : ¬ P a) (h3 : ∀ j, j < b → P j) (h4 : ¬ P b) : a = b := by
  rcases Nat.lt_trichotomy a b with c | c | c
  · exact absurd (h3 a c) h2
  · exact c
  · exact absurd (h1 b c) h4
theorem w_bd {x d p q : Int} (hx : -400 ≤ x ∧ x ≤ 800) (hd : 1 ≤ d ∧ d ≤ 10) (hp : 0 ≤ p ∧ p ≤ 128000) (hq : 0 ≤ q ∧ q ≤ 3200) : w64 (x * q) = x * q ∧ w64 (p * d) = p * d := by
  have a := mb (A := 800) (B := 3200) (a := x) (b := q) (by omega) (by omega)
  have b := mb (A := 128000) (B := 10) (a := p) (b := d) (by omega) (by omega)
  exact ⟨w64_b a (by decide), w64_b b (by decide)⟩
theorem hiPB_ok {D : Nat → Nat → Int} {n m M : Nat} {f : Nat → Int × Int × Int × Int} {g : Nat → Int × Int} (hS : Swp D n m f M g) {sl q i : Nat} (h : hiPB D g n M sl q i = true) : ∃ b, sl = b + 1 ∧ b + 1 < M ∧ hiP D g n b q i = true ∧ i < n ∧ thrB D g b i = true := by
  unfold hiPB at h
  by_cases c : sl = 0 ∨ M ≤ sl
  · rw [if_pos c] at h
    exact absurd h (by decide)
  · rw [if_neg c] at h
    obtain ⟨b, rfl⟩ : ∃ b, sl = b + 1 := ⟨sl - 1, by omega⟩
    rw [Nat.add_sub_cancel] at h
    obtain ⟨w1, w2, -⟩ := hiP_ok hS (by omega) h
    exact ⟨b, rfl, by omega, h, w1, w2⟩
theorem wall_in {D : Nat → Nat → Int} {n m M : Nat} {f : Nat → Int × Int × Int × Int} {g : Nat → Int × Int} (hS : Swp D n m f M g) {sl q i : Nat} {x d : Int} (hd : 0 < d) (h : hiPB D g n M sl q i = true) (h1 : ∀ j, j < sl → Sbf g M x d j) (h2 : ¬ Sbf g M x d sl) : i < n ∧ D 0 i < D 2 i ∧ D 0 i * d ≤ x ∧ x ≤ D 2 i * d := by
  obtain ⟨b, rfl, hb, hp, hi, ht⟩ := hiPB_ok hS h
  have sb := (h1 b (by omega)).2
  have sb2 : x * (g (b + 1)).2 < (g (b + 1)).1 * d := by
    apply Decidable.byContradiction
    intro z
    exact h2 ⟨hb, z⟩
  have x0 := sw_x hS (show b < M by omega)
  have x1 := sw_x hS hb
  unfold thrB at ht
  rw [decide_eq_true_iff] at ht
  obtain ⟨t1, t2, t3⟩ := ht
  have hl := (hS.1.2 i (by omega)).2
  refine ⟨hi, by omega, ?_, ?_⟩
  · have a : D 0 i * (g b).2 * d ≤ (g b).1 * d := Int.mul_le_mul_of_nonneg_right t2 (by omega)
    have e : D 0 i * (g b).2 * d = D 0 i * d * (g b).2 := by grind
    exact Int.le_of_mul_le_mul_right (a := (g b).2) (by omega) (by omega)
  · have a : (g (b + 1)).1 * d ≤ D 2 i * (g (b + 1)).2 * d := Int.mul_le_mul_of_nonneg_right t3 (by omega)
    have e : D 2 i * (g (b + 1)).2 * d = D 2 i * d * (g (b + 1)).2 := by grind
    exact Int.le_of_mul_le_mul_right (a := (g (b + 1)).2) (by omega) (by omega)
theorem s_X6_cellAround {t : Sg} {D : Nat → Nat → Int} {n m M : Nat} {f : Nat → Int × Int × Int × Int} {g : Nat → Int × Int} {x y d : Int} {post : Int → Prop} (hS : Swp D n m f M g) (hSl : SlAt t D n M g) (hat : LnAt t 2 (n : Int) D) (hx : -400 ≤ x ∧ x ≤ 800) (hy : -400 ≤ y ∧ y ≤ 800) (hd : 1 ≤ d ∧ d ≤ 10) (hno : ∀ i, i < n → ¬ OnL (D 0 i) (D 1 i) (D 2 i) (D 3 i) x d y d)
    (hp : ∀ sl q, sl ≤ M → q < nC D g n M sl → (∀ j, j < sl → Sbf g M x d j) → ¬ Sbf g M x d sl → (∀ j, j < q → Wbf D g n M sl x y d j) → ¬ Wbf D g n M sl x y d q → post ((fC D g n M sl + q : Nat) : Int)) : w_X6_cellAround t x y d post := by
  have h := hS.1
  have hn := h.1
  have hM := hS.2.2.2.2
  have fl := fC_le (g := g) (M := M) h
  obtain ⟨l0, l1, lx, lf, lc⟩ := hSl
  unfold w_X6_cellAround
  refine lr_2 (fun v w => ∃ i : Nat, v = (i : Int) ∧ w = (i : Int) ∧ i ≤ M ∧ ∀ j, j < i → Sbf g M x d j) (fun v _ => ((M : Int) - v).toNat) ?_ 0 0 ⟨0, rfl, rfl, Nat.zero_le _, fun j hj => absurd hj (Nat.not_lt_zero _)⟩
  rintro again _ _ ⟨sl, rfl, rfl, hs, hSb⟩ ih
  have stop : ¬ Sbf g M x d sl → (0 ≤ (sl : Int) ∧ (sl : Int) < 67) ∧ (∀ v6_6, v6_6 = t 41 sl → ((0 ≤ (sl : Int) ∧ (sl : Int) < 67) ∧ (∀ v7_8, v7_8 = t 41 sl → (lp_2 (fun (again_11 : Int → Int → Prop) (v6_9 v7_10 : Int) => (0 ≤ w32 ((sl : Int) + 1) ∧ w32 ((sl : Int) + 1) < 67) ∧ (jn (fun (K_13 : Prop) => (t 41 (w32 ((sl : Int) + 1)).toNat ≤ w32 (v7_10 + 1) → K_13) ∧ (¬ t 41 (w32 ((sl : Int) + 1)).toNat ≤ w32 (v7_10 + 1) → (0 ≤ v7_10 ∧ v7_10 < 726) ∧ (w_X9_leastOf (t 44 v7_10.toNat) (fun r_15 => (r_15 = (-1) → K_13) ∧ (¬ r_15 = (-1) → w_X2_height t r_15 x d (fun r_16 => w_X2_run t 1 r_15 (fun r_17 => (r_16 ≤ w64 (y * r_17) → ∀ v6_18, v6_18 = w32 (v7_10 + 1) → (∀ v7_19, v7_19 = w32 (v7_10 + 1) → (again_11 v6_18 v7_19))) ∧ (¬ r_16 ≤ w64 (y * r_17) → K_13)))))))) (post v6_9))) v6_6 v7_8)))) := by
    intro hnS
    have n1 := nC_le (g := g) (M := M) (s := sl) h
    have fs := fC_s D g n M sl
    have f1 := (fl (sl + 1)).2
    rw [show w32 ((sl : Int) + 1) = ((sl + 1 : Nat) : Int) by rw [w32_id ⟨by omega, by omega⟩]; omega, Int.toNat_natCast, lf sl (by omega), lf (sl + 1) (by omega)]
    refine ⟨by omega, ?_⟩
    rintro _ rfl
    refine ⟨by omega, ?_⟩
    rintro _ rfl
    refine lr_2 (fun v w => ∃ q : Nat, v = ((fC D g n M sl + q : Nat) : Int) ∧ w = ((fC D g n M sl + q : Nat) : Int) ∧ q < nC D g n M sl ∧ ∀ j, j < q → Wbf D g n M sl x y d j) (fun v _ => ((fC D g n M (sl + 1) : Int) - v).toNat) ?_ _ _ ⟨0, rfl, rfl, by omega, fun j hj => absurd hj (Nat.not_lt_zero _)⟩
    rintro again2 _ _ ⟨q, rfl, rfl, hq, hW⟩ ih2
    have b1 : ok32 (((fC D g n M sl + q : Nat) : Int) + 1) := ⟨by omega, by omega⟩
    have b2 : ((fC D g n M sl + q : Nat) : Int) + 1 = ((fC D g n M sl + q + 1 : Nat) : Int) := by omega
    have fm := fC_mono (D := D) (g := g) (n := n) (M := M) (show sl + 1 ≤ M + 1 by omega)
    have fN := (fl (M + 1)).2
    have e44 := (lc sl hs q hq).2.2
    have out : ¬ Wbf D g n M sl x y d q → post ((fC D g n M sl + q : Nat) : Int) := hp sl q hs hq hSb hnS hW
    unfold jn
    rw [w32_id b1, b2, Int.toNat_natCast, e44, hiS_P (by omega)]
    refine ⟨by omega, fun z => out ?_, fun z => ⟨by omega, ?_⟩⟩
    · rintro ⟨i, hi, -⟩
      have h0 := (hi_0 hS (q := q) hs).mpr (by omega)
      rw [hiS_P (by omega), bits_0 _ (by omega)] at h0
      rcases hi with ⟨e, -⟩ | ⟨k, k1, k2, k3, -⟩
      · omega
      · exact h0 k k1 k3
    · refine s_X9_leastOf (by omega) fun r hr => ⟨fun z2 => out ?_, fun z2 => ?_⟩
      · rintro ⟨i, hi, -⟩
        have := FstX_one hr hi
        omega
      · obtain ⟨k, hk, rfl, k3, -⟩ : ∃ k : Nat, k < n ∧ r = (k : Int) ∧ hiPB D g n M sl q k = true ∧ ∀ x, x < k → ¬ hiPB D g n M sl q x = true := by
          rcases hr with e | e
          · exact absurd e.1 z2
          · exact e
        obtain ⟨w1, w2, w3, w4⟩ := wall_in hS (by omega) k3 hSb hnS
        have hl := (h.2 k (by omega)).1
        refine s_X2_height h hat ⟨by omega, by omega⟩ ⟨by omega, by omega⟩ ?_
        refine s_run h hat ⟨by omega, by omega⟩ ?_
        rw [Int.toNat_natCast]
        have hb := mb (A := 800) (B := 40) (a := y) (b := D 2 k - D 0 k) (by omega) (by unfold LnB at hl; omega)
        rw [w64_b hb (by decide)]
        refine ⟨fun z3 => ?_, fun z3 => out ?_⟩
        · have lt : hgt D k x d < y * (D 2 k - D 0 k) := by
            rcases Int.lt_or_lt_of_ne (fun e => hno k w1 (no_on (by omega) w2 w3 w4 e)) with c | c
            · exact c
            · omega
          rintro _ rfl _ rfl
          refine ih2 _ _ ⟨q + 1, rfl, rfl, ?_, fun j hj => ?_⟩ (by omega)
          · omega
          · by_cases e : j = q
            · subst e; exact ⟨k, hr, lt⟩
            · exact hW j (by omega)
        · rintro ⟨i, hi, lt⟩
          have e := FstX_one hr hi
          have : k = i := by omega
          subst this
          omega
  unfold jn
  rw [l0, Int.toNat_natCast]
  refine ⟨fun z => stop fun w => by have := w.1; omega, fun z => ⟨by omega, by omega, ?_⟩⟩
  have hsM : sl < M := by omega
  have x0 := sw_x hS hsM
  obtain ⟨e39, e40⟩ := lx sl hsM
  obtain ⟨w1, w2⟩ := w_bd hx hd (p := (g sl).1) (q := (g sl).2) (by omega) (by omega)
  rw [e39, e40, w1, w2]
  refine ⟨fun z2 => stop fun w => w.2 z2, fun z2 => ?_⟩
  have b1 : ok32 ((sl : Int) + 1) := ⟨by omega, by omega⟩
  have b2 : (sl : Int) + 1 = ((sl + 1 : Nat) : Int) := by omega
  clear stop
  rw [w32_id b1, b2]
  rintro _ rfl _ rfl
  refine ih _ _ ⟨sl + 1, rfl, rfl, by omega, fun j hj => ?_⟩ (by omega)
  by_cases e : j = sl
  · subst e; exact ⟨hsM, z2⟩
  · exact hSb j (by omega)
theorem s_rwhere {u : Sg} {D : Nat → Nat → Int} {n m M : Nat} {f : Nat → Int × Int × Int × Int} {g : Nat → Int × Int} {lab : Nat → Nat} {x y d : Int} {post : Int → Prop} (hS : Swp D n m f M g) (hR : RSl u D n m M f g) (hF : RFc u D n M g lab) (hx : -400 ≤ x ∧ x ≤ 800) (hy : -400 ≤ y ∧ y ≤ 800) (hd : 1 ≤ d ∧ d ≤ 10)
    (hp : ∀ sl q, sl ≤ M → q < nC D g n M sl → (∀ j, j < sl → Sbf g M x d j) → ¬ Sbf g M x d sl → (∀ j, j < q → Wbf D g n M sl x y d j) → ¬ Wbf D g n M sl x y d q → post (fno lab (fC D g n M sl + q) : Int)) :
    lp_1 (fun (again_5 : Int → Prop) (v4_4 : Int) => jn (fun (K_6 : Prop) => (u 68 22 ≤ w32 (v4_4 + 1) → K_6) ∧ (¬ u 68 22 ≤ w32 (v4_4 + 1) → (0 ≤ w32 (v4_4 + 1) ∧ w32 (v4_4 + 1) < 81) ∧ ((0 ≤ w32 (v4_4 + 1) ∧ w32 (v4_4 + 1) < 81) ∧ ((w64 (x * (u 84 (w32 (v4_4 + 1)).toNat)) < w64 ((u 83 (w32 (v4_4 + 1)).toNat) * d) → K_6) ∧ (¬ w64 (x * (u 84 (w32 (v4_4 + 1)).toNat)) < w64 ((u 83 (w32 (v4_4 + 1)).toNat) * d) → ∀ v4_24, v4_24 = w32 (v4_4 + 1) → (again_5 v4_24)))))) ((0 ≤ v4_4 ∧ v4_4 < 82) ∧ (∀ v5_8, v5_8 = u 85 v4_4.toNat → (lp_1 (fun (again_10 : Int → Prop) (v5_9 : Int) => (0 ≤ v5_9 ∧ v5_9 < 900) ∧ (jn (fun (K_12 : Prop) => (u 88 v5_9.toNat = 0 → K_12) ∧ (¬ u 88 v5_9.toNat = 0 → (0 ≤ v5_9 ∧ v5_9 < 900) ∧ (w_X10_leastOf (u 88 v5_9.toNat) (fun r_15 => w_X10_yAbove u r_15 x d (fun r_16 => (0 ≤ v5_9 ∧ v5_9 < 900) ∧ (w_X10_leastOf (u 88 v5_9.toNat) (fun r_18 => w_X10_yBelow u r_18 d (fun r_19 => w_X10_against r_16 r_19 y d (fun r_20 => (0 ≤ r_20 → K_12) ∧ (¬ 0 ≤ r_20 → ∀ v5_21, v5_21 = w32 (v5_9 + 1) → (again_10 v5_21))))))))))) ((0 ≤ v5_9 ∧ v5_9 < 900) ∧ (post (u 89 v5_9.toNat))))) v5_8)))) 0 := by
  have h := hS.1
  have hn := h.1
  have hM := hS.2.2.2.2
  have fl := fC_le (g := g) (M := M) h
  refine lr_1 (fun v => ∃ i : Nat, v = (i : Int) ∧ i ≤ M ∧ ∀ j, j < i → Sbf g M x d j) (fun v => ((M : Int) - v).toNat) ?_ 0 ⟨0, rfl, Nat.zero_le _, fun j hj => absurd hj (Nat.not_lt_zero _)⟩
  rintro again _ ⟨sl, rfl, hs, hSb⟩ ih
  have stop : ¬ Sbf g M x d sl → (0 ≤ (sl : Int) ∧ (sl : Int) < 82) ∧ (∀ v5_8, v5_8 = u 85 sl → (lp_1 (fun (again_10 : Int → Prop) (v5_9 : Int) => (0 ≤ v5_9 ∧ v5_9 < 900) ∧ (jn (fun (K_12 : Prop) => (u 88 v5_9.toNat = 0 → K_12) ∧ (¬ u 88 v5_9.toNat = 0 → (0 ≤ v5_9 ∧ v5_9 < 900) ∧ (w_X10_leastOf (u 88 v5_9.toNat) (fun r_15 => w_X10_yAbove u r_15 x d (fun r_16 => (0 ≤ v5_9 ∧ v5_9 < 900) ∧ (w_X10_leastOf (u 88 v5_9.toNat) (fun r_18 => w_X10_yBelow u r_18 d (fun r_19 => w_X10_against r_16 r_19 y d (fun r_20 => (0 ≤ r_20 → K_12) ∧ (¬ 0 ≤ r_20 → ∀ v5_21, v5_21 = w32 (v5_9 + 1) → (again_10 v5_21))))))))))) ((0 ≤ v5_9 ∧ v5_9 < 900) ∧ (post (u 89 v5_9.toNat))))) v5_8)) := by
    intro hnS
    have n1 := nC_le (g := g) (M := M) (s := sl) h
    have fs := fC_s D g n M sl
    have fm := fC_mono (D := D) (g := g) (n := n) (M := M) (show sl + 1 ≤ M + 1 by omega)
    have fN := (fl (M + 1)).2
    rw [hR.2.2.2.2.1 sl (by omega)]
    refine ⟨by omega, ?_⟩
    rintro _ rfl
    refine lr_1 (fun v => ∃ q : Nat, v = ((fC D g n M sl + q : Nat) : Int) ∧ q < nC D g n M sl ∧ ∀ j, j < q → Wbf D g n M sl x y d j) (fun v => ((fC D g n M (sl + 1) : Int) - v).toNat) ?_ _ ⟨0, rfl, by omega, fun j hj => absurd hj (Nat.not_lt_zero _)⟩
    rintro again2 _ ⟨q, rfl, hq, hW⟩ ih2
    have b1 : ok32 (((fC D g n M sl + q : Nat) : Int) + 1) := ⟨by omega, by omega⟩
    have b2 : ((fC D g n M sl + q : Nat) : Int) + 1 = ((fC D g n M sl + q + 1 : Nat) : Int) := by omega
    have e88 := (hR.2.2.2.2.2 sl hs q hq).2.2
    have e89 := hF.2.1 (fC D g n M sl + q) (by omega)
    have out : ¬ Wbf D g n M sl x y d q → (0 ≤ ((fC D g n M sl + q : Nat) : Int) ∧ ((fC D g n M sl + q : Nat) : Int) < 900) ∧ post (fno lab (fC D g n M sl + q) : Int) := fun w => ⟨by omega, hp sl q hs hq hSb hnS hW w⟩
    have h0 := hi_0 hS (q := q) hs
    unfold jn
    rw [Int.toNat_natCast, e88, e89]
    rw [hiS_P (by omega)] at h0 ⊢
    refine ⟨by omega, fun z => out ?_, fun z => ⟨by omega, ?_⟩⟩
    · rintro ⟨i, hi, -⟩
      rw [bits_0 _ (by omega)] at z
      rcases hi with ⟨e, -⟩ | ⟨k, k1, k2, k3, -⟩
      · omega
      · exact z k k1 k3
    · have hq2 : q + 1 < nC D g n M sl := by
        apply Decidable.byContradiction
        intro w
        exact z (h0.mpr w)
      refine s_X10_leastOf (by omega) fun r hr => ?_
      obtain ⟨k, hk, rfl, k3, -⟩ : ∃ k : Nat, k < n ∧ r = (k : Int) ∧ hiPB D g n M sl q k = true ∧ ∀ x, x < k → ¬ hiPB D g n M sl q x = true := by
        rcases hr with e | e
        · exact absurd ((bits_0 _ (by omega)).mpr e.2) z
        · exact e
      have hl := (h.2 k (by omega)).1
      obtain ⟨w1, w2, w3, w4⟩ := wall_in hS (by omega) k3 hSb hnS
      refine s_X10_yAbove h hR.1.2.1 ⟨by omega, by omega⟩ ⟨by omega, by omega⟩ ?_
      refine ⟨by omega, s_X10_leastOf (by omega) fun r2 hr2 => ?_⟩
      have e2 := FstX_one hr2 hr
      subst e2
      refine s_X10_yBelow h hR.1.2.1 ⟨by omega, by omega⟩ ⟨by omega, by omega⟩ ?_
      rw [Int.toNat_natCast]
      have hb := hgt_b h (i := k) (x := x) (xd := d) (by omega) ⟨by omega, by omega⟩
      have m1 := mb (A := 20480000) (B := 10) (a := hgt D k x d) (b := d) (by omega) (by omega)
      have m2 := mb (A := 40) (B := 10) (a := D 2 k - D 0 k) (b := d) (by unfold LnB at hl; omega) (by omega)
      have m3 := mb (A := 800) (B := 400) (a := y) (b := (D 2 k - D 0 k) * d) (by omega) (by omega)
      refine s_X10_against (A := 204800000) (by omega) (by omega) (by omega) ?_
      have sg := sgn_iff (hgt D k x d * d - y * ((D 2 k - D 0 k) * d))
      have ed : hgt D k x d * d - y * ((D 2 k - D 0 k) * d) = (hgt D k x d - y * (D 2 k - D 0 k)) * d := by grind
      have key : hgt D k x d * d - y * ((D 2 k - D 0 k) * d) < 0 ↔ hgt D k x d < y * (D 2 k - D 0 k) := by
        rw [ed]
        constructor
        · intro w
          apply Decidable.byContradiction
          intro w2
          have := Int.mul_nonneg (show 0 ≤ hgt D k x d - y * (D 2 k - D 0 k) by omega) (show 0 ≤ d by omega)
          omega
        · intro w
          exact Int.mul_neg_of_neg_of_pos (by omega) (by omega)
      refine ⟨fun z3 => out ?_, fun z3 v ev => ?_⟩
      · rintro ⟨i, hi, lt⟩
        have e := FstX_one hr hi
        have : k = i := by omega
        subst this
        have := key.mpr lt
        omega
      · have lt := key.mp (by omega)
        rw [ev, w32_id b1, b2]
        clear ev
        refine ih2 _ ⟨q + 1, rfl, hq2, fun j hj => ?_⟩ (by omega)
        by_cases e : j = q
        · subst e; exact ⟨k, hr, lt⟩
        · exact hW j (by omega)
  have b1 : ok32 ((sl : Int) + 1) := ⟨by omega, by omega⟩
  have b2 : (sl : Int) + 1 = ((sl + 1 : Nat) : Int) := by omega
  unfold jn
  rw [hR.2.1, w32_id b1, b2, Int.toNat_natCast, Int.toNat_natCast]
  refine ⟨fun z => stop fun w => by have := w.1; omega, fun z => ⟨by omega, by omega, ?_⟩⟩
  have hsM : sl < M := by omega
  have x0 := sw_x hS hsM
  obtain ⟨e83, e84⟩ := hR.2.2.2.1 sl hsM
  obtain ⟨w1, w2⟩ := w_bd hx hd (p := (g sl).1) (q := (g sl).2) (by omega) (by omega)
  rw [e83, e84, w1, w2]
  refine ⟨fun z2 => stop fun w => w.2 z2, fun z2 => ?_⟩
  clear stop
  rintro _ rfl
  refine ih _ ⟨sl + 1, rfl, by omega, fun j hj => ?_⟩ (by omega)
  by_cases e : j = sl
  · subst e; exact ⟨hsM, z2⟩
  · exact hSb j (by omega)
theorem T_where {s : Sg} {x y d : Int} (hI : Inv s) : w_X9_where s x y d (fun r1 s1 => w_X10_where s1 x y d (fun r2 s2 => r1 = r2 ∧ Inv s2)) := by
  have hB := hI.1
  unfold w_X9_where
  refine s_X9_canBePlace fun r hr => ⟨fun z => ?_, fun z => ?_⟩
  · have hpl : (-400 ≤ x ∧ x ≤ 800) ∧ (-400 ≤ y ∧ y ≤ 800) ∧ 1 ≤ d ∧ d ≤ 10 := by
      rcases hr with e | e
      · exact e.2
      · exact absurd e.1 z
    obtain ⟨hx, hy, hd⟩ := hpl
    have fx : FrB x d := ⟨by omega, by omega⟩
    have fy : FrB y d := ⟨by omega, by omega⟩
    have rwh : ∀ (t : Sg) (r1 : Int), Inv t → ((onS t 2 (t 1 0) x d y d = 0 → w_X10_tellSheet t (fun s_3 => lp_1 (fun (again_5 : Int → Prop) (v4_4 : Int) => jn (fun (K_6 : Prop) => (s_3 68 22 ≤ w32 (v4_4 + 1) → K_6) ∧ (¬ s_3 68 22 ≤ w32 (v4_4 + 1) → (0 ≤ w32 (v4_4 + 1) ∧ w32 (v4_4 + 1) < 81) ∧ ((0 ≤ w32 (v4_4 + 1) ∧ w32 (v4_4 + 1) < 81) ∧ ((w64 (x * (s_3 84 (w32 (v4_4 + 1)).toNat)) < w64 ((s_3 83 (w32 (v4_4 + 1)).toNat) * d) → K_6) ∧ (¬ w64 (x * (s_3 84 (w32 (v4_4 + 1)).toNat)) < w64 ((s_3 83 (w32 (v4_4 + 1)).toNat) * d) → ∀ v4_24, v4_24 = w32 (v4_4 + 1) → (again_5 v4_24)))))) ((0 ≤ v4_4 ∧ v4_4 < 82) ∧ (∀ v5_8, v5_8 = s_3 85 v4_4.toNat → (lp_1 (fun (again_10 : Int → Prop) (v5_9 : Int) => (0 ≤ v5_9 ∧ v5_9 < 900) ∧ (jn (fun (K_12 : Prop) => (s_3 88 v5_9.toNat = 0 → K_12) ∧ (¬ s_3 88 v5_9.toNat = 0 → (0 ≤ v5_9 ∧ v5_9 < 900) ∧ (w_X10_leastOf (s_3 88 v5_9.toNat) (fun r_15 => w_X10_yAbove s_3 r_15 x d (fun r_16 => (0 ≤ v5_9 ∧ v5_9 < 900) ∧ (w_X10_leastOf (s_3 88 v5_9.toNat) (fun r_18 => w_X10_yBelow s_3 r_18 d (fun r_19 => w_X10_against r_16 r_19 y d (fun r_20 => (0 ≤ r_20 → K_12) ∧ (¬ 0 ≤ r_20 → ∀ v5_21, v5_21 = w32 (v5_9 + 1) → (again_10 v5_21))))))))))) ((0 ≤ v5_9 ∧ v5_9 < 900) ∧ (r1 = s_3 89 v5_9.toNat ∧ Inv s_3)))) v5_8)))) 0)) ∧ (¬ onS t 2 (t 1 0) x d y d = 0 → r1 = -1)) → w_X10_where t x y d (fun r2 s2 => r1 = r2 ∧ Inv s2) := by
      intro t r1 hIt hh
      unfold w_X10_where
      refine s_X10_isPlace fun r2 hr2 => ⟨fun z2 => ?_, fun z2 => by rcases hr2 with e | e; omega; exact absurd ⟨hx, hy, hd⟩ e.2⟩
      refine s_X10_linesOn (Base_m hIt.1) fx fy ?_
      have en := inv_ls hIt.1
      have e1 : onS t 69 (t 68 0) x d y d = onS t 2 (t 1 0) x d y d := by
        rw [hIt.1.1]
        exact onS_eq hIt.1.2.2.1 (by omega)
      rw [e1]
      exact ⟨hh.1, fun z3 => ⟨hh.2 z3, hIt⟩⟩
    refine s_X9_linesOn hB.2.1 fx fy ⟨fun z2 => ?_, fun z2 => rwh s _ hI ⟨fun w => absurd w z2, fun _ => rfl⟩⟩
    refine s_kFaces hI fun t hIt hc tF => ?_
    obtain ⟨q1, q2, q3, q4, q5, q6⟩ := cls_ref hIt hc
    obtain ⟨m, f, M, g, lab, lab2, hS, h2, hSl, h4, h5, ⟨k0, k1, k2, k3⟩⟩ := tF
    have en := inv_ls hB
    have hM := hS.2.2.2.2
    have fN := (fC_le (g := g) (M := M) q1 (M + 1)).2
    have hno : ∀ i, i < nL s → ¬ OnL (dD s 0 i) (dD s 1 i) (dD s 2 i) (dD s 3 i) x d y d := by
      intro i hi ho
      unfold onS at z2
      rw [bits_0 _ (by omega)] at z2
      exact z2 i (by omega) (onB_iff.mpr ho)
    have on2 : onS t 2 (t 1 0) x d y d = onS s 2 (s 1 0) x d y d := by
      unfold onS
      rw [hc.1 1 (by omega), hc.1 2 (by omega), hc.1 (2 + 1) (by omega), hc.1 (2 + 2) (by omega), hc.1 (2 + 3) (by omega)]
    refine s_X6_cellAround hS hSl q6 hx hy hd hno fun sl q hs hq a1 a2 a3 a4 => ?_
    have fm := fC_mono (D := dD s) (g := g) (n := nL s) (M := M) (show sl + 1 ≤ M + 1 by omega)
    rw [fC_s] at fm
    rw [Int.toNat_natCast, k1 _ (by omega)]
    refine ⟨by omega, rwh t _ hIt ⟨fun _ => ?_, fun w => absurd (by rw [on2]; exact z2) w⟩⟩
    refine ref_sheet hIt hS q2 q3 fun u lab' rf hIu uR ul uC0 => ?_
    have uC := RFc_one uC0 ul h4
    refine s_rwhere (post := fun r2 => (fno lab (fC (dD s) g (nL s) M sl + q) : Int) = r2 ∧ Inv u) hS uR uC hx hy hd fun sl' q' hs' hq' b1 b2 b3 b4 => ?_
    have es := stop_one a1 a2 b1 b2
    subst es
    have eq := stop_one a3 a4 b3 b4
    subst eq
    exact ⟨rfl, hIu⟩
  · unfold w_X10_where
    refine s_X10_isPlace fun r2 hr2 => ⟨fun z2 => ?_, fun _ => ⟨rfl, hI⟩⟩
    rcases hr with e | e
    · omega
    · rcases hr2 with e2 | e2
      · exact absurd e2.2 e.2
      · omega
