/-! the reference: between which places two cells lie at an x -/
def NrF (s t : Sg) : Prop := (∀ c, c ≠ 68 → t c = s c) ∧ ∀ o, (o < 33 ∨ 36 < o) → t 68 o = s 68 o
theorem NrF_rfl (s : Sg) : NrF s s := ⟨fun _ _ => rfl, fun _ _ => rfl⟩
theorem NrF_tr {s t u : Sg} (h : NrF s t) (h' : NrF t u) : NrF s u := ⟨fun c hc => (h'.1 c hc).trans (h.1 c hc), fun o ho => (h'.2 o ho).trans (h.2 o ho)⟩
theorem RPt_fr {s t : Sg} {D : Nat → Nat → Int} {n m : Nat} {f : Nat → Int × Int × Int × Int} (h : RPt s D n m f) (hs : NrF s t) : RPt t D n m f := by
  obtain ⟨h1, h2, h3, h4⟩ := h
  refine ⟨by rw [hs.2 0 (by omega)]; exact h1, fun i hi => ?_, by rw [hs.2 9 (by omega)]; exact h3, fun j hj => ?_⟩
  · rw [hs.1 69 (by omega), hs.1 (69 + 1) (by omega), hs.1 (69 + 2) (by omega), hs.1 (69 + 3) (by omega)]
    exact h2 i hi
  · rw [hs.1 73 (by omega), hs.1 74 (by omega), hs.1 75 (by omega), hs.1 76 (by omega)]
    exact h4 j hj
theorem RSl_fr {s t : Sg} {D : Nat → Nat → Int} {n m M : Nat} {f : Nat → Int × Int × Int × Int} {g : Nat → Int × Int} (h : RSl s D n m M f g) (hs : NrF s t) : RSl t D n m M f g := by
  obtain ⟨h0, h1, h2, h3, h4, h5⟩ := h
  refine ⟨RPt_fr h0 hs, by rw [hs.2 22 (by omega)]; exact h1, by rw [hs.2 23 (by omega)]; exact h2, fun b hb => by rw [hs.1 83 (by omega), hs.1 84 (by omega)]; exact h3 b hb, fun b hb => by rw [hs.1 85 (by omega)]; exact h4 b hb, fun b hb q hq => by rw [hs.1 86 (by omega), hs.1 87 (by omega), hs.1 88 (by omega)]; exact h5 b hb q hq⟩
theorem s_agV {n d m e y z : Int} {post : Int → Prop} (h1 : FrV n d y) (h2 : FrV m e z) (hp : ∀ r, (r < 0 ↔ y < z) → (r = 0 ↔ y = z) → (0 < r ↔ z < y) → post r) : w_X10_against n d m e post := by
  have c := FrV_c h1 h2
  have g := sgn_iff (n * e - m * d)
  exact s_X10_against (A := 2621440000000) (FrV_m h1 h2) (FrV_m h2 h1) (by omega) (hp _ (by rw [g.1]; exact c.1) (by rw [g.2.1]; exact c.2) (by rw [g.2.2]; have := c.1; have := c.2; omega))
theorem fr_far : FrV (-100000) 1 (-100000 * KK) ∧ FrV 100000 1 (100000 * KK) := ⟨⟨by omega, by omega, scl_1 _⟩, by omega, by omega, scl_1 _⟩
theorem s_X10_wide {s : Sg} {post : Sg → Prop} (hp : ∀ t, NrF s t → FrV (t 68 33) (t 68 34) (-100000 * KK) → FrV (t 68 35) (t 68 36) (100000 * KK) → post t) : w_X10_wide s post := by
  unfold w_X10_wide
  rintro _ rfl _ rfl _ rfl _ rfl
  refine hp _ ⟨fun c hc => ?_, fun o ho => ?_⟩ ?_ ?_
  · rw [up_ne _ _ _ hc, up_ne _ _ _ hc, up_ne _ _ _ hc, up_ne _ _ _ hc]
  · simp only [up_apply]
    rw [if_neg (by omega), if_neg (by omega), if_neg (by omega), if_neg (by omega)]
  · simp only [up_apply]
    exact fr_far.1
  · simp only [up_apply]
    exact fr_far.2
/-- bounds of a cell, as bits -/
def BdB (D : Nat → Nat → Int) (g : Nat → Int × Int) (n c : Nat) (none : Prop) (y : Int) (P : Nat → Bool) : Prop := (none → ∀ i, i < n → ¬ P i = true) ∧ (¬ none → (∃ i, i < n ∧ P i = true) ∧ ∀ i, i < n → P i = true → D 0 i < D 2 i ∧ Yv D g i c = y)
theorem hi_bd {D : Nat → Nat → Int} {n m M : Nat} {f : Nat → Int × Int × Int × Int} {g : Nat → Int × Int} (hS : Swp D n m f M g) {b q c : Nat} (hb : b + 1 < M) (hc : c = b ∨ c = b + 1) : BdB D g n c (¬ q < gcN D g n b) (GV D g n b q c) (hiP D g n b q) := by
  refine ⟨fun h i hi hh => h (hiP_ok hS hb hh).2.2.1, fun h => ⟨?_, fun i hi hh => ?_⟩⟩
  · exact hiP_ex (Decidable.not_not.mp h)
  · obtain ⟨w1, w2, w3, w4, w5⟩ := hiP_ok hS hb hh
    refine ⟨(thr_rch hS hb w1 w2).1, ?_⟩
    rcases hc with rfl | rfl
    · exact w4
    · exact w5
theorem hi_bits {D : Nat → Nat → Int} {n m M : Nat} {f : Nat → Int × Int × Int × Int} {g : Nat → Int × Int} (hS : Swp D n m f M g) {s q c : Nat} (hs : s ≤ M) (hc : c = s ∨ c + 1 = s) : ∃ P, hiS D g n M s q = bitsOf P n ∧ BdB D g n c (¬ q + 1 < nC D g n M s) (EV D g n s q c) P := by
  have hn := hS.1.1
  unfold hiS nC
  by_cases e : s = 0 ∨ M ≤ s
  · rw [if_pos e, if_pos e]
    refine ⟨fun _ => false, (bits_none (by omega)).symm, fun _ i _ h => by simp at h, fun h => absurd (fun z => ?_) h⟩
    omega
  · rw [if_neg e, if_neg e]
    obtain ⟨b, rfl⟩ : ∃ b, s = b + 1 := ⟨s - 1, by omega⟩
    rw [Nat.add_sub_cancel]
    refine ⟨hiP D g n b q, hiG_P D g n b q, ?_⟩
    have h := hi_bd hS (b := b) (q := q) (c := c) (by omega) (by omega)
    unfold EV
    rw [Nat.add_sub_cancel]
    exact ⟨fun z => h.1 (by omega), fun z => h.2 (by omega)⟩
theorem lo_bits {D : Nat → Nat → Int} {n m M : Nat} {f : Nat → Int × Int × Int × Int} {g : Nat → Int × Int} (hS : Swp D n m f M g) {s q c : Nat} (hs : s ≤ M) (hq : q < nC D g n M s) (hc : c = s ∨ c + 1 = s) : ∃ P, loS D g n M s q = bitsOf P n ∧ BdB D g n c (q = 0) (EV D g n s (q - 1) c) P := by
  have hn := hS.1.1
  unfold nC at hq
  unfold loS
  by_cases e : s = 0 ∨ M ≤ s
  · rw [if_pos e] at hq ⊢
    refine ⟨fun _ => false, (bits_none (by omega)).symm, fun _ i _ h => by simp at h, fun h => absurd (by omega) h⟩
  · rw [if_neg e] at hq ⊢
    obtain ⟨b, rfl⟩ : ∃ b, s = b + 1 := ⟨s - 1, by omega⟩
    rw [Nat.add_sub_cancel] at hq ⊢
    by_cases e0 : q = 0
    · subst e0
      rw [loG_0 (by omega)]
      exact ⟨fun _ => false, (bits_none (by omega)).symm, fun _ i _ h => by simp at h, fun h => absurd rfl h⟩
    · obtain ⟨q', rfl⟩ : ∃ q', q = q' + 1 := ⟨q - 1, by omega⟩
      rw [loG_s]
      refine ⟨hiP D g n b q', hiG_P D g n b q', ?_⟩
      have h := hi_bd hS (b := b) (q := q') (c := c) (by omega) (by omega)
      unfold EV
      rw [Nat.add_sub_cancel, Nat.add_sub_cancel]
      exact ⟨fun z => absurd z e0, fun _ => h.2 (by omega)⟩
/-- the place of a line at an x -/
theorem fr_yv {D : Nat → Nat → Int} {n m M : Nat} {f : Nat → Int × Int × Int × Int} {g : Nat → Int × Int} (hS : Swp D n m f M g) {c i : Nat} (hc : c < M) (hi : i < n) (hu : D 0 i < D 2 i) : FrV (hgt D i (g c).1 (g c).2) ((D 2 i - D 0 i) * (g c).2) (Yv D g i c) := (fr_fl hS hc hi (by omega)).2
theorem s_nlow {s : Sg} {D : Nat → Nat → Int} {n m M c : Nat} {f : Nat → Int × Int × Int × Int} {g : Nat → Int × Int} {r_2 : Int} {F : Int} {e0 : Prop} {y : Int} {P : Nat → Bool} {K : Sg → Prop} (hS : Swp D n m f M g) (hR : RSl s D n m M f g) (hc : c < M) (hF : FrV (s 68 33) (s 68 34) F) (hr : FstX P n r_2) (hB : BdB D g n c e0 y P) (dec : e0 ∨ ¬ e0)
    (h1 : e0 → K s) (h2 : ¬ e0 → ∀ t, NrF s t → t 68 35 = s 68 35 → t 68 36 = s 68 36 → FrV (t 68 33) (t 68 34) (mxI F y) → K t) :
    jn (fun (K_6 : Sg → Prop) => (r_2 = (-1) → K_6 s) ∧ (¬ r_2 = (-1) → w_X10_yAbove s r_2 (g c).1 (g c).2 (fun r_16 => w_X10_yBelow s r_2 (g c).2 (fun r_17 => w_X10_against r_16 r_17 (s 68 33) (s 68 34) (fun r_18 => (r_18 ≤ 0 → K_6 s) ∧ (¬ r_18 ≤ 0 → w_X10_yAbove s r_2 (g c).1 (g c).2 (fun r_19 => ∀ s_20, s_20 = up s 68 33 r_19 → (w_X10_yBelow s_20 r_2 (g c).2 (fun r_21 => ∀ s_22, s_22 = up s_20 68 34 r_21 → (K_6 s_22)))))))))) K := by
  unfold jn
  have hx := sw_x hS hc
  rcases hr with ⟨rfl, hno⟩ | ⟨k, hk, rfl, pk, -⟩
  · refine ⟨fun _ => ?_, fun z => absurd rfl z⟩
    rcases dec with d | d
    · exact h1 d
    · obtain ⟨i, hi, pi⟩ := (hB.2 d).1
      exact absurd pi (hno i hi)
  · refine ⟨fun z => by omega, fun _ => ?_⟩
    have d : ¬ e0 := fun d => hB.1 d k hk pk
    obtain ⟨hu, hy⟩ := (hB.2 d).2 k hk pk
    have fy := fr_yv hS hc hk hu
    rw [hy] at fy
    refine s_X10_yAbove hS.1 hR.1.2.1 ⟨by omega, by omega⟩ hx.1 ?_
    refine s_X10_yBelow hS.1 hR.1.2.1 ⟨by omega, by omega⟩ ⟨by omega, by omega⟩ ?_
    rw [Int.toNat_natCast]
    refine s_agV fy hF fun r r1 r2 r3 => ⟨fun q => ?_, fun q => ?_⟩
    · refine h2 d s (NrF_rfl s) rfl rfl ?_
      unfold mxI
      rw [if_neg (by omega)]
      exact hF
    · refine s_X10_yAbove hS.1 hR.1.2.1 ⟨by omega, by omega⟩ hx.1 ?_
      rintro _ rfl
      refine s_X10_yBelow hS.1 (hat := fun i hi => ?_) ⟨by omega, by omega⟩ ⟨by omega, by omega⟩ ?_
      · rw [up_ne _ _ _ (by omega), up_ne _ _ _ (by omega), up_ne _ _ _ (by omega), up_ne _ _ _ (by omega)]
        exact hR.1.2.1 i hi
      rintro _ rfl
      rw [Int.toNat_natCast]
      refine h2 d _ ⟨fun c hc => by rw [up_ne _ _ _ hc, up_ne _ _ _ hc], fun o ho => by simp only [up_apply]; rw [if_neg (by omega), if_neg (by omega)]⟩ (by simp [up_apply]) (by simp [up_apply]) ?_
      unfold mxI
      rw [if_pos (by omega)]
      simp only [up_apply]
      exact fy
theorem s_nhigh {s : Sg} {D : Nat → Nat → Int} {n m M c : Nat} {f : Nat → Int × Int × Int × Int} {g : Nat → Int × Int} {r_4 : Int} {T : Int} {e0 : Prop} {y : Int} {P : Nat → Bool} {K : Sg → Prop} (hS : Swp D n m f M g) (hR : RSl s D n m M f g) (hc : c < M) (hT : FrV (s 68 35) (s 68 36) T) (hr : FstX P n r_4) (hB : BdB D g n c e0 y P) (dec : e0 ∨ ¬ e0)
    (h1 : e0 → K s) (h2 : ¬ e0 → ∀ t, NrF s t → t 68 33 = s 68 33 → t 68 34 = s 68 34 → FrV (t 68 35) (t 68 36) (mnI T y) → K t) :
    jn (fun (K_8 : Sg → Prop) => (r_4 = (-1) → K_8 s) ∧ (¬ r_4 = (-1) → w_X10_yAbove s r_4 (g c).1 (g c).2 (fun r_9 => w_X10_yBelow s r_4 (g c).2 (fun r_10 => w_X10_against r_9 r_10 (s 68 35) (s 68 36) (fun r_11 => (0 ≤ r_11 → K_8 s) ∧ (¬ 0 ≤ r_11 → w_X10_yAbove s r_4 (g c).1 (g c).2 (fun r_12 => ∀ s_13, s_13 = up s 68 35 r_12 → (w_X10_yBelow s_13 r_4 (g c).2 (fun r_14 => ∀ s_15, s_15 = up s_13 68 36 r_14 → (K_8 s_15)))))))))) K := by
  unfold jn
  have hx := sw_x hS hc
  rcases hr with ⟨rfl, hno⟩ | ⟨k, hk, rfl, pk, -⟩
  · refine ⟨fun _ => ?_, fun z => absurd rfl z⟩
    rcases dec with d | d
    · exact h1 d
    · obtain ⟨i, hi, pi⟩ := (hB.2 d).1
      exact absurd pi (hno i hi)
  · refine ⟨fun z => by omega, fun _ => ?_⟩
    have d : ¬ e0 := fun d => hB.1 d k hk pk
    obtain ⟨hu, hy⟩ := (hB.2 d).2 k hk pk
    have fy := fr_yv hS hc hk hu
    rw [hy] at fy
    refine s_X10_yAbove hS.1 hR.1.2.1 ⟨by omega, by omega⟩ hx.1 ?_
    refine s_X10_yBelow hS.1 hR.1.2.1 ⟨by omega, by omega⟩ ⟨by omega, by omega⟩ ?_
    rw [Int.toNat_natCast]
    refine s_agV fy hT fun r r1 r2 r3 => ⟨fun q => ?_, fun q => ?_⟩
    · refine h2 d s (NrF_rfl s) rfl rfl ?_
      unfold mnI
      rw [if_neg (by omega)]
      exact hT
    · refine s_X10_yAbove hS.1 hR.1.2.1 ⟨by omega, by omega⟩ hx.1 ?_
      rintro _ rfl
      refine s_X10_yBelow hS.1 (hat := fun i hi => ?_) ⟨by omega, by omega⟩ ⟨by omega, by omega⟩ ?_
      · rw [up_ne _ _ _ (by omega), up_ne _ _ _ (by omega), up_ne _ _ _ (by omega), up_ne _ _ _ (by omega)]
        exact hR.1.2.1 i hi
      rintro _ rfl
      rw [Int.toNat_natCast]
      refine h2 d _ ⟨fun c hc => by rw [up_ne _ _ _ hc, up_ne _ _ _ hc], fun o ho => by simp only [up_apply]; rw [if_neg (by omega), if_neg (by omega)]⟩ (by simp [up_apply]) (by simp [up_apply]) ?_
      unfold mnI
      rw [if_pos (by omega)]
      simp only [up_apply]
      exact fy
theorem s_X10_narrow {s : Sg} {D : Nat → Nat → Int} {n m M sl q c : Nat} {f : Nat → Int × Int × Int × Int} {g : Nat → Int × Int} {F T v1 v2 v4 : Int} {post : Sg → Prop} (hS : Swp D n m f M g) (hR : RSl s D n m M f g) (hs : sl ≤ M) (hq : q < nC D g n M sl) (hc : c = sl ∨ c + 1 = sl) (hcM : c < M) (hF : FrV (s 68 33) (s 68 34) F) (hT : FrV (s 68 35) (s 68 36) T) (hF2 : -100000 * KK ≤ F) (hT2 : T ≤ 100000 * KK) (e1 : v1 = ((fC D g n M sl + q : Nat) : Int)) (e2 : v2 = (g c).1) (e4 : v4 = (g c).2)
    (hp : ∀ t, NrF s t → FrV (t 68 33) (t 68 34) (mxI F (loB D g n sl q c)) → FrV (t 68 35) (t 68 36) (mnI T (hiB D g n M sl q c)) → post t) : w_X10_narrow s v1 v2 v4 post := by
  subst e1 e2 e4
  have hn := hS.1.1
  obtain ⟨h0, h22, h23, hx, h85, hC⟩ := id hR
  have fl := fC_le (g := g) (M := M) hS.1 (M + 1)
  have nk := nC_le (g := g) (M := M) (s := sl) hS.1
  have fm := fC_mono (D := D) (g := g) (n := n) (M := M) (show sl + 1 ≤ M + 1 by omega)
  rw [fC_s] at fm
  have hM := hS.2.2.2.2
  obtain ⟨c86, c87, c88⟩ := hC sl hs q hq
  obtain ⟨Pl, el, Bl⟩ := lo_bits hS hs hq hc
  obtain ⟨Ph, eh, Bh⟩ := hi_bits hS (q := q) hs hc
  unfold w_X10_narrow
  rw [Int.toNat_natCast, c87, c88, el, eh]
  refine ⟨by omega, s_X10_leastOf (by omega) fun r2 hr2 => ⟨by omega, s_X10_leastOf (by omega) fun r4 hr4 => ?_⟩⟩
  have second : ∀ u, NrF s u → FrV (u 68 33) (u 68 34) (mxI F (loB D g n sl q c)) → u 68 35 = s 68 35 → u 68 36 = s 68 36 → jn (fun (K_8 : Sg → Prop) => (r4 = (-1) → K_8 u) ∧ (¬ r4 = (-1) → w_X10_yAbove u r4 (g c).1 (g c).2 (fun r_9 => w_X10_yBelow u r4 (g c).2 (fun r_10 => w_X10_against r_9 r_10 (u 68 35) (u 68 36) (fun r_11 => (0 ≤ r_11 → K_8 u) ∧ (¬ 0 ≤ r_11 → w_X10_yAbove u r4 (g c).1 (g c).2 (fun r_12 => ∀ s_13, s_13 = up u 68 35 r_12 → (w_X10_yBelow s_13 r4 (g c).2 (fun r_14 => ∀ s_15, s_15 = up s_13 68 36 r_14 → (K_8 s_15)))))))))) (fun (s_7 : Sg) => post s_7) := by
    intro u hu hF' u1 u2
    refine s_nhigh hS (RSl_fr hR hu) hcM (by rw [u1, u2]; exact hT) hr4 Bh (Decidable.em _) (fun z => ?_) (fun z t ht a1 a2 a3 => ?_)
    · refine hp u hu hF' ?_
      unfold hiB mnI
      rw [if_neg z, if_neg (by omega), u1, u2]
      exact hT
    · refine hp t (NrF_tr hu ht) (by rw [a1, a2]; exact hF') ?_
      unfold hiB
      rw [if_pos (Decidable.not_not.mp z)]
      exact a3
  refine s_nlow hS hR hcM hF hr2 Bl (Decidable.em _) (fun z => ?_) (fun z t ht a1 a2 a3 => ?_)
  · refine second s (NrF_rfl s) ?_ rfl rfl
    unfold loB mxI
    rw [if_pos z, if_neg (by omega)]
    exact hF
  · refine second t ht ?_ a1 a2
    unfold loB
    rw [if_neg z]
    exact a3
/-- at first all -/
theorem s_wide2 {s : Sg} {D : Nat → Nat → Int} {n m M c qa qb : Nat} {f : Nat → Int × Int × Int × Int} {g : Nat → Int × Int} {a b : Int} {post : Sg → Prop} (hS : Swp D n m f M g) (hR : RSl s D n m M f g) (hc : c < M) (hqa : qa < nC D g n M c) (hqb : qb < nC D g n M (c + 1)) (ea : a = ((fC D g n M c + qa : Nat) : Int)) (eb : b = ((fC D g n M (c + 1) + qb : Nat) : Int)) (v : Int) (ev : v = ((c + 1 : Nat) : Int))
    (hp : ∀ t, NrF s t → FrV (t 68 33) (t 68 34) (loF D g n c qa qb) → FrV (t 68 35) (t 68 36) (hiF D g n M c qa qb) → post t) : w_X10_wide s (fun s_38 => (0 ≤ v ∧ v < 81) ∧ ((0 ≤ v ∧ v < 81) ∧ (w_X10_narrow s_38 a (s_38 83 v.toNat) (s_38 84 v.toNat) (fun s_41 => (0 ≤ v ∧ v < 81) ∧ ((0 ≤ v ∧ v < 81) ∧ (w_X10_narrow s_41 b (s_41 83 v.toNat) (s_41 84 v.toNat) post)))))) := by
  subst ev
  have hM := hS.2.2.2.2
  have kp := KK_pos
  refine s_X10_wide fun t ht h1 h2 => ⟨by omega, by omega, ?_⟩
  have Rt := RSl_fr hR ht
  rw [Int.toNat_natCast]
  refine s_X10_narrow hS Rt (by omega) hqa (Or.inl rfl) hc h1 h2 (Int.le_refl _) (Int.le_refl _) ea (Rt.2.2.2.1 c hc).1 (Rt.2.2.2.1 c hc).2 fun u hu h3 h4 => ⟨by omega, by omega, ?_⟩
  have Ru := RSl_fr Rt hu
  refine s_X10_narrow hS Ru (by omega) hqb (Or.inr rfl) hc h3 h4 ?_ ?_ eb (Ru.2.2.2.1 c hc).1 (Ru.2.2.2.1 c hc).2 fun w hw h5 h6 => ?_
  · unfold mxI; split <;> omega
  · unfold mnI; split <;> omega
  · exact hp w (NrF_tr (NrF_tr ht hu) hw) h5 h6
theorem s_X10_isMore {s : Sg} {F T : Int} {post : Int → Prop} (hF : FrV (s 68 33) (s 68 34) F) (hT : FrV (s 68 35) (s 68 36) T) (hp : ∀ r, BV r (F < T) → post r) : w_X10_isMoreThanOne s post := by
  unfold w_X10_isMoreThanOne
  refine s_agV hF hT fun r r1 r2 r3 => ?_
  unfold jn
  exact ⟨fun z => ⟨Or.inl rfl, hp 0 (Or.inr ⟨rfl, by omega⟩)⟩, fun z => ⟨Or.inr rfl, hp 1 (Or.inl ⟨rfl, by omega⟩)⟩⟩
theorem s_X10_isUprightAt {s : Sg} {D : Nat → Nat → Int} {n m M c i : Nat} {f : Nat → Int × Int × Int × Int} {g : Nat → Int × Int} {v2 v4 : Int} {post : Int → Prop} (hS : Swp D n m f M g) (hat : LnAt s 69 (n : Int) D) (hc : c < M) (hi : i < n) (e2 : v2 = (g c).1) (e4 : v4 = (g c).2) (hp : ∀ r, BV r (D 0 i = D 2 i ∧ rchB D g c i = true) → post r) : w_X10_isUprightAt s (i : Int) v2 v4 post := by
  subst e2 e4
  have h := hS.1
  have hn := h.1
  have hl := h.2 i (by omega)
  have hx := sw_x hS hc
  have w := (m40 hl.1.1 (xd := (g c).2) (by omega)).1
  unfold w_X10_isUprightAt
  refine s_upr h hat hi fun r hr => ?_
  unfold jn
  rw [Int.toNat_natCast, (hat i (by omega)).1, w]
  have rc : D 0 i = D 2 i → (rchB D g c i = true ↔ D 0 i * (g c).2 = (g c).1) := by
    intro e
    unfold rchB
    rw [decide_eq_true_iff, ← e]
    omega
  have no : ∀ z : ¬ (D 0 i = D 2 i ∧ rchB D g c i = true), ((0 : Int) = 0 ∨ (0 : Int) = 1) ∧ post 0 := fun z => ⟨Or.inl rfl, hp 0 (Or.inr ⟨rfl, z⟩)⟩
  rcases hr with ⟨rfl, hu⟩ | ⟨rfl, hu⟩
  · refine ⟨fun z => absurd z (by decide), fun _ => ⟨by omega, fun z => no fun y => z ((rc hu).mp y.2), fun z => ⟨Or.inr rfl, hp 1 (Or.inl ⟨rfl, hu, (rc hu).mpr z⟩)⟩⟩⟩
  · exact ⟨fun _ => no fun y => hu y.1, fun z => absurd rfl z⟩
theorem fr_end {D : Nat → Nat → Int} {n : Nat} (h : LsD D (n : Int)) {i : Nat} (hi : i < n) : FrV (D 1 i) 1 (D 1 i * KK) ∧ FrV (D 3 i) 1 (D 3 i * KK) := by
  have hl := (h.2 i (by omega)).1
  exact ⟨fr_1 hl.2.1, fr_1 hl.2.2.2⟩
theorem s_X10_hasMore {s : Sg} {D : Nat → Nat → Int} {n i : Nat} {F T : Int} {post : Int → Prop} (h : LsD D (n : Int)) (hat : LnAt s 69 (n : Int) D) (hi : i < n) (hF : FrV (s 68 33) (s 68 34) F) (hT : FrV (s 68 35) (s 68 36) T) (hp : ∀ r, BV r (mxI F (D 1 i * KK) < mnI T (D 3 i * KK)) → post r) : w_X10_hasMore s (i : Int) post := by
  have hn := h.1
  obtain ⟨f1, f3⟩ := fr_end h hi
  unfold w_X10_hasMore
  rw [Int.toNat_natCast, (hat i (by omega)).2.1, (hat i (by omega)).2.2.2]
  refine ⟨by omega, ?_⟩
  have last : ∀ t9 t11 t13 t15 y z : Int, FrV t9 t11 y → FrV t13 t15 z → y = mxI F (D 1 i * KK) → z = mnI T (D 3 i * KK) → w_X10_against t9 t11 t13 t15 (fun r_17 => jn (fun (K_19 : Int → Prop) => (0 ≤ r_17 → K_19 0) ∧ (¬ 0 ≤ r_17 → K_19 1)) (fun (t_18 : Int) => (t_18 = 0 ∨ t_18 = 1) ∧ post t_18)) := by
    intro t9 t11 t13 t15 y z hy hz ey ez
    refine s_agV hy hz fun r r1 r2 r3 => ?_
    unfold jn
    exact ⟨fun q => ⟨Or.inl rfl, hp 0 (Or.inr ⟨rfl, by omega⟩)⟩, fun q => ⟨Or.inr rfl, hp 1 (Or.inl ⟨rfl, by omega⟩)⟩⟩
  refine s_agV f1 hF fun r r1 r2 r3 => ?_
  have fin : ∀ t_3 : Int, ((t_3 = 1 ∧ F < D 1 i * KK) ∨ (t_3 = 0 ∧ ¬ F < D 1 i * KK)) → (0 ≤ (i : Int) ∧ (i : Int) < 10) ∧ (w_X10_against (D 3 i) 1 (s 68 35) (s 68 36) (fun r_6 => jn (fun (K_8 : Int → Prop) => (0 ≤ r_6 → K_8 0) ∧ (¬ 0 ≤ r_6 → K_8 1)) (fun (t_7 : Int) => jn (fun (K_10 : Int → Prop) => (t_3 = 0 → K_10 (s 68 33)) ∧ (¬ t_3 = 0 → (0 ≤ (i : Int) ∧ (i : Int) < 10) ∧ (K_10 (D 1 i)))) (fun (t_9 : Int) => jn (fun (K_12 : Int → Prop) => (t_3 = 0 → K_12 (s 68 34)) ∧ (¬ t_3 = 0 → K_12 1)) (fun (t_11 : Int) => jn (fun (K_14 : Int → Prop) => (t_7 = 0 → K_14 (s 68 35)) ∧ (¬ t_7 = 0 → (0 ≤ (i : Int) ∧ (i : Int) < 10) ∧ (K_14 (D 3 i)))) (fun (t_13 : Int) => jn (fun (K_16 : Int → Prop) => (t_7 = 0 → K_16 (s 68 36)) ∧ (¬ t_7 = 0 → K_16 1)) (fun (t_15 : Int) => w_X10_against t_9 t_11 t_13 t_15 (fun r_17 => jn (fun (K_19 : Int → Prop) => (0 ≤ r_17 → K_19 0) ∧ (¬ 0 ≤ r_17 → K_19 1)) (fun (t_18 : Int) => (t_18 = 0 ∨ t_18 = 1) ∧ post t_18))))))))) := by
    intro t3 h3
    refine ⟨by omega, ?_⟩
    have hi10 : 0 ≤ (i : Int) ∧ (i : Int) < 10 := by omega
    refine s_agV f3 hT fun r' r1' r2' r3' => ?_
    have t7s : ∀ t_7 : Int, ((t_7 = 1 ∧ D 3 i * KK < T) ∨ (t_7 = 0 ∧ ¬ D 3 i * KK < T)) → jn (fun (K_10 : Int → Prop) => (t3 = 0 → K_10 (s 68 33)) ∧ (¬ t3 = 0 → (0 ≤ (i : Int) ∧ (i : Int) < 10) ∧ (K_10 (D 1 i)))) (fun (t_9 : Int) => jn (fun (K_12 : Int → Prop) => (t3 = 0 → K_12 (s 68 34)) ∧ (¬ t3 = 0 → K_12 1)) (fun (t_11 : Int) => jn (fun (K_14 : Int → Prop) => (t_7 = 0 → K_14 (s 68 35)) ∧ (¬ t_7 = 0 → (0 ≤ (i : Int) ∧ (i : Int) < 10) ∧ (K_14 (D 3 i)))) (fun (t_13 : Int) => jn (fun (K_16 : Int → Prop) => (t_7 = 0 → K_16 (s 68 36)) ∧ (¬ t_7 = 0 → K_16 1)) (fun (t_15 : Int) => w_X10_against t_9 t_11 t_13 t_15 (fun r_17 => jn (fun (K_19 : Int → Prop) => (0 ≤ r_17 → K_19 0) ∧ (¬ 0 ≤ r_17 → K_19 1)) (fun (t_18 : Int) => (t_18 = 0 ∨ t_18 = 1) ∧ post t_18)))))) := by
      intro t7 h7
      unfold jn
      unfold jn at last
      rcases h3 with ⟨rfl, z3⟩ | ⟨rfl, z3⟩
      · have em : D 1 i * KK = mxI F (D 1 i * KK) := by unfold mxI; rw [if_pos z3]
        refine ⟨fun z => absurd z (by decide), fun _ => ⟨hi10, ?_⟩⟩
        refine ⟨fun z => absurd z (by decide), fun _ => ?_⟩
        rcases h7 with ⟨rfl, z7⟩ | ⟨rfl, z7⟩
        · refine ⟨fun z => absurd z (by decide), fun _ => ⟨hi10, ?_⟩⟩
          refine ⟨fun z => absurd z (by decide), fun _ => ?_⟩
          exact last _ _ _ _ _ _ f1 f3 em (by unfold mnI; rw [if_pos z7])
        · refine ⟨fun _ => ?_, fun z => absurd rfl z⟩
          refine ⟨fun _ => ?_, fun z => absurd rfl z⟩
          exact last _ _ _ _ _ _ f1 hT em (by unfold mnI; rw [if_neg z7])
      · have em : F = mxI F (D 1 i * KK) := by unfold mxI; rw [if_neg z3]
        refine ⟨fun _ => ?_, fun z => absurd rfl z⟩
        refine ⟨fun _ => ?_, fun z => absurd rfl z⟩
        rcases h7 with ⟨rfl, z7⟩ | ⟨rfl, z7⟩
        · refine ⟨fun z => absurd z (by decide), fun _ => ⟨hi10, ?_⟩⟩
          refine ⟨fun z => absurd z (by decide), fun _ => ?_⟩
          exact last _ _ _ _ _ _ hF f3 em (by unfold mnI; rw [if_pos z7])
        · refine ⟨fun _ => ?_, fun z => absurd rfl z⟩
          refine ⟨fun _ => ?_, fun z => absurd rfl z⟩
          exact last _ _ _ _ _ _ hF hT em (by unfold mnI; rw [if_neg z7])
    exact ⟨fun q => t7s 0 (Or.inr ⟨rfl, by omega⟩), fun q => t7s 1 (Or.inl ⟨rfl, by omega⟩)⟩
  unfold jn
  refine ⟨fun q => ?_, fun q => ?_⟩
  · exact fin 0 (Or.inr ⟨rfl, by omega⟩)
  · exact fin 1 (Or.inl ⟨rfl, by omega⟩)
