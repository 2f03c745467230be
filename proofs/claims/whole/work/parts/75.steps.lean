/-! the class's steps at an x -/
def FrV (n d y : Int) : Prop := (0 < d ∧ d ≤ 128000) ∧ (-20480000 ≤ n ∧ n ≤ 20480000) ∧ scl n d = y
theorem FrV_m {n d y n' d' y' : Int} (h : FrV n d y) (h' : FrV n' d' y') : -2621440000000 ≤ n * d' ∧ n * d' ≤ 2621440000000 := by
  obtain ⟨a1, a2, a3⟩ := h
  obtain ⟨b1, b2, b3⟩ := h'
  exact mb (A := 20480000) (B := 128000) (by omega) (by omega)
theorem FrV_c {n d y n' d' y' : Int} (h : FrV n d y) (h' : FrV n' d' y') : (n * d' - n' * d < 0 ↔ y < y') ∧ (n * d' - n' * d = 0 ↔ y = y') := by
  obtain ⟨a1, a2, rfl⟩ := h
  obtain ⟨b1, b2, rfl⟩ := h'
  have := scl_cmp (x := n) (d := d) (y := n') (e := d') a1.1 a1.2 b1.1 b1.2
  omega
def StpA (t : Sg) (K : Nat) (τ : Nat → Int) : Prop := t 45 4 = (K : Int) ∧ ∀ j, j < K → FrV (t 49 j) (t 50 j) (τ j)
theorem rkI_is {t : Nat → Int} {K k : Nat} {y : Int} (ht : SInc ltI t K) (hk : k ≤ K) (h1 : ∀ j, j < k → t j < y) (h2 : k = K ∨ ¬ t k < y) : rkI t K y = k := by
  have l := rkI_lt ht y
  have le := rkI_le t K y
  rcases Nat.lt_trichotomy (rkI t K y) k with c | c | c
  · have := (l _ (by omega)).mpr (h1 _ c)
    omega
  · exact c
  · rcases h2 with e | e
    · omega
    · exact absurd ((l k (by omega)).mp c) e
theorem s_X8_stepsUnder {s : Sg} {K : Nat} {τ : Nat → Int} {v1 v3 y : Int} {post : Int → Prop} (hS : StpA s K τ) (hK : K ≤ 20) (ht : SInc ltI τ K) (hv : FrV v1 v3 y) (hp : post (rkI τ K y : Int)) : w_X8_stepsUnder s v1 v3 post := by
  unfold w_X8_stepsUnder
  rw [hS.1]
  refine lr_2 (fun a b => ∃ k : Nat, a = (k : Int) ∧ b = (k : Int) ∧ k ≤ K ∧ ∀ j, j < k → τ j < y) (fun a _ => ((K : Int) - a).toNat) ?_ 0 0 ⟨0, rfl, rfl, Nat.zero_le _, fun j hj => absurd hj (Nat.not_lt_zero _)⟩
  rintro again _ _ ⟨k, rfl, rfl, hk, hlo⟩ ih
  unfold jn
  have fin : (k = K ∨ ¬ τ k < y) → post (k : Int) := fun z => by rw [rkI_is ht hk hlo z] at hp; exact hp
  refine ⟨fun c => fin (Or.inl (by omega)), fun c => ⟨by omega, by omega, ?_⟩⟩
  rw [Int.toNat_natCast]
  have fk := hS.2 k (by omega)
  have cm := FrV_c fk hv
  refine s_X9_cmp (FrV_m fk hv) (FrV_m hv fk) (by decide) ?_
  have sg := sgn_iff (s 49 k * v3 - v1 * s 50 k)
  refine ⟨fun z => fin (Or.inr (by omega)), fun z v ev w ew => ?_⟩
  have b1 : ok32 ((k : Int) + 1) := ⟨by omega, by omega⟩
  have b2 : (k : Int) + 1 = ((k + 1 : Nat) : Int) := by omega
  rw [ev, ew, w32_id b1, b2]
  clear ev ew
  refine ih _ _ ⟨k + 1, rfl, rfl, by omega, fun j hj => ?_⟩ (by omega)
  by_cases e : j = k
  · subst e; omega
  · exact hlo j (by omega)
theorem s_X8_addStep {s : Sg} {K : Nat} {τ : Nat → Int} {v1 v3 y : Int} {post : Sg → Prop} (hS : StpA s K τ) (hK : K < 20) (ht : SInc ltI τ K) (hv : FrV v1 v3 y)
    (hp1 : (∃ k, k < K ∧ τ k = y) → post s) (hp2 : (∀ k, k < K → τ k ≠ y) → ∀ t : Sg, (∀ c, c ≠ 45 → c ≠ 49 → c ≠ 50 → t c = s c) → (∀ o, o ≠ 4 → t 45 o = s 45 o) → StpA t (K + 1) (insI τ (rkI τ K y) y) → post t) : w_X8_addStep s v1 v3 post := by
  unfold w_X8_addStep
  refine s_X8_stepsUnder hS (by omega) ht hv ?_
  have l := rkI_lt ht y
  have le := rkI_le τ K y
  have at_r : ∀ k, k < K → τ k = y → rkI τ K y = k := fun k hk e => by rw [← e]; exact rkI_at ht hk
  generalize hr : rkI τ K y = r at *
  obtain ⟨h4, hst⟩ := hS
  rw [h4]
  have new : (∀ k, k < K → τ k ≠ y) → ((K : Int) < 20 → ∀ v6_4, v6_4 = (K : Int) → (lp_1s (fun (again_7 : Int → Sg → Prop) (v6_5 : Int) (s_6 : Sg) => (v6_5 ≤ (r : Int) → (0 ≤ (r : Int) ∧ (r : Int) < 20) ∧ (∀ s_9, s_9 = up s_6 49 ((r : Int).toNat) v1 → ((0 ≤ (r : Int) ∧ (r : Int) < 20) ∧ (∀ s_11, s_11 = up s_9 50 ((r : Int).toNat) v3 → (∀ s_12, s_12 = up s_11 45 4 (w32 ((s_11 45 4) + 1)) → (post s_12)))))) ∧ (¬ v6_5 ≤ (r : Int) → (0 ≤ w32 (v6_5 - 1) ∧ w32 (v6_5 - 1) < 20) ∧ ((0 ≤ v6_5 ∧ v6_5 < 20) ∧ (∀ s_15, s_15 = up s_6 49 (v6_5.toNat) (s_6 49 (w32 (v6_5 - 1)).toNat) → ((0 ≤ w32 (v6_5 - 1) ∧ w32 (v6_5 - 1) < 20) ∧ ((0 ≤ v6_5 ∧ v6_5 < 20) ∧ (∀ s_18, s_18 = up s_15 50 (v6_5.toNat) (s_15 50 (w32 (v6_5 - 1)).toNat) → (∀ v6_19, v6_19 = w32 (v6_5 + (-1)) → (again_7 v6_19 s_18))))))))) v6_4 s)) ∧ (¬ (K : Int) < 20 → post s) := by
    intro hne
    refine ⟨fun _ v6 e6 => ?_, fun z => by omega⟩
    rw [e6]
    clear e6
    refine lr_1s (fun v t => ∃ i : Nat, v = (i : Int) ∧ r ≤ i ∧ i ≤ K ∧ (∀ c, c ≠ 49 → c ≠ 50 → t c = s c) ∧ (∀ j, j < i → t 49 j = s 49 j ∧ t 50 j = s 50 j) ∧ ∀ j, i < j → j ≤ K → t 49 j = s 49 (j - 1) ∧ t 50 j = s 50 (j - 1)) (fun v _ => v.toNat) ?_ _ s ⟨K, rfl, le, Nat.le_refl _, fun _ _ _ => rfl, fun _ _ => ⟨rfl, rfl⟩, fun j h1 h2 => by omega⟩
    rintro again _ t ⟨i, rfl, hri, hiK, to, tlo, thi⟩ ih
    refine ⟨fun z => ⟨by omega, ?_⟩, fun z => ?_⟩
    · have e : i = r := by omega
      subst e
      rintro _ rfl
      refine ⟨by omega, ?_⟩
      rintro _ rfl s12 e12
      rw [Int.toNat_natCast] at e12
      have a45 : (up (up t 49 i v1) 50 i v3) 45 = s 45 := by rw [up_ne _ _ _ (by omega), up_ne _ _ _ (by omega), to 45 (by omega) (by omega)]
      rw [a45, h4, w32_id (show ok32 ((K : Int) + 1) from ⟨by omega, by omega⟩)] at e12
      refine hp2 hne s12 (fun c k1 k2 k3 => by rw [e12, up_ne _ _ _ k1, up_ne _ _ _ k3, up_ne _ _ _ k2, to c k2 k3]) (fun o k1 => by rw [e12, up_apply, if_neg (fun y => k1 y.2), a45]) ⟨by rw [e12, up_apply, if_pos ⟨rfl, rfl⟩]; omega, fun j hj => ?_⟩
      have q49 : s12 49 j = if j = i then v1 else t 49 j := by
        rw [e12, up_ne _ _ _ (by omega), up_ne _ _ _ (by omega), up_apply]
        simp
      have q50 : s12 50 j = if j = i then v3 else t 50 j := by
        rw [e12, up_ne _ _ _ (by omega), up_apply, up_ne _ _ _ (by omega)]
        simp
      rw [q49, q50]
      unfold insI
      by_cases d1 : j < i
      · rw [if_neg (by omega), if_neg (by omega), if_pos d1, (tlo j d1).1, (tlo j d1).2]
        exact hst j (by omega)
      · by_cases d2 : j = i
        · rw [if_pos d2, if_pos d2, if_neg d1, if_pos d2]
          exact hv
        · rw [if_neg d2, if_neg d2, if_neg d1, if_neg d2, (thi j (by omega) (by omega)).1, (thi j (by omega) (by omega)).2]
          exact hst (j - 1) (by omega)
    · obtain ⟨i', rfl⟩ : ∃ i', i = i' + 1 := ⟨i - 1, by omega⟩
      have e1 : w32 (((i' + 1 : Nat) : Int) - 1) = (i' : Int) := by rw [w32_id (show ok32 (((i' + 1 : Nat) : Int) - 1) from ⟨by omega, by omega⟩)]; omega
      have e2 : w32 (((i' + 1 : Nat) : Int) + (-1)) = (i' : Int) := by rw [w32_id (show ok32 (((i' + 1 : Nat) : Int) + (-1)) from ⟨by omega, by omega⟩)]; omega
      rw [e1, e2, Int.toNat_natCast, Int.toNat_natCast]
      clear e1 e2
      refine ⟨by omega, by omega, ?_⟩
      rintro _ rfl
      refine ⟨by omega, by omega, ?_⟩
      rintro _ rfl v ev
      rw [ev]
      clear ev
      refine ih _ _ ⟨i', rfl, by omega, by omega, fun c k1 k2 => by rw [up_ne _ _ _ k2, up_ne _ _ _ k1, to c k1 k2], fun j hj => ?_, fun j h1 h2 => ?_⟩ (by omega)
      · rw [up_ne _ _ _ (show (49 : Nat) ≠ 50 by omega), up_apply, up_apply, if_neg (by omega), if_neg (by omega), up_ne _ _ _ (by omega)]
        exact tlo j (by omega)
      · rw [up_ne _ _ _ (show (49 : Nat) ≠ 50 by omega), up_apply, up_apply]
        by_cases d : j = i' + 1
        · rw [if_pos ⟨rfl, d⟩, if_pos ⟨rfl, d⟩, up_ne _ _ _ (by omega), d, Nat.add_sub_cancel]
          exact tlo i' (by omega)
        · rw [if_neg (by omega), if_neg (by omega), up_ne _ _ _ (by omega)]
          exact thi j (by omega) h2
  unfold jn
  refine ⟨fun c => new fun k hk e => ?_, fun c => ⟨by omega, by omega, ?_⟩⟩
  · have := at_r k hk e
    omega
  · rw [Int.toNat_natCast]
    have fr := hst r (by omega)
    have cm := FrV_c fr hv
    refine s_X9_cmp (FrV_m fr hv) (FrV_m hv fr) (by decide) ?_
    have sg := sgn_iff (s 49 r * v3 - v1 * s 50 r)
    refine ⟨fun z => hp1 ⟨r, by omega, cm.2.mp (sg.2.1.mp z)⟩, fun z => ?_⟩
    have := new fun k hk e => z (sg.2.1.mpr (cm.2.mpr (by have := at_r k hk e; subst this; exact e)))
    rw [Int.toNat_natCast] at this
    exact this
noncomputable def lwV (D : Nat → Nat → Int) (g : Nat → Int × Int) (i c : Nat) : Int := if D 0 i = D 2 i then D 1 i * KK else Yv D g i c
noncomputable def hgV (D : Nat → Nat → Int) (g : Nat → Int × Int) (i c : Nat) : Int := if D 0 i = D 2 i then D 3 i * KK else Yv D g i c
theorem rkI_congr {t t' : Nat → Int} {K : Nat} {y : Int} (h : ∀ k, k < K → t k = t' k) : rkI t K y = rkI t' K y := cnt_congr fun i hi => by rw [h i hi]
theorem fr_fl {D : Nat → Nat → Int} {n m M : Nat} {f : Nat → Int × Int × Int × Int} {g : Nat → Int × Int} (hS : Swp D n m f M g) {c i : Nat} (hc : c < M) (hi : i < n) (hu : D 0 i ≠ D 2 i) : w64 ((D 2 i - D 0 i) * (g c).2) = (D 2 i - D 0 i) * (g c).2 ∧ FrV (hgt D i (g c).1 (g c).2) ((D 2 i - D 0 i) * (g c).2) (Yv D g i c) := by
  have x := sw_x hS hc
  have hl := (hS.1.2 i (by omega)).2
  have r := run_b hS.1 (i := i) (by omega) (by omega)
  have y := Yd_b r x.2.1
  exact ⟨w64_id ⟨by omega, by omega⟩, y, hgt_b hS.1 (by omega) x.1, rfl⟩
theorem fr_1 {a : Int} (ha : 0 ≤ a ∧ a ≤ 40) : FrV a 1 (a * KK) := ⟨by omega, by omega, scl_1 a⟩
theorem s_upr2 {s : Sg} {D : Nat → Nat → Int} {n i : Nat} {post : Int → Prop} (h : LsD D (n : Int)) (hat : LnAt s 2 (n : Int) D) (hi : i < n) (hp : ∀ r, BV r (D 0 i = D 2 i) → post r) : w_X2_isUpright s (i : Int) post := by
  unfold w_X2_isUpright jn
  obtain ⟨e1, e2, e3, e4⟩ := hat i (by omega)
  simp only [Nat.reduceAdd] at e1 e3
  have hn := h.1
  rw [Int.toNat_natCast, e1, e3]
  exact ⟨by omega, by omega, fun z => ⟨Or.inl rfl, hp 0 (Or.inr ⟨rfl, z⟩)⟩, fun z => ⟨Or.inr rfl, hp 1 (Or.inl ⟨rfl, z⟩)⟩⟩
theorem s_rch2 {s : Sg} {D : Nat → Nat → Int} {n i c M m : Nat} {f : Nat → Int × Int × Int × Int} {g : Nat → Int × Int} {post : Int → Prop} (hS : Swp D n m f M g) (hc : c < M) (hat : LnAt s 2 (n : Int) D) (hi : i < n) (hp : ∀ r, BV r (rchB D g c i = true) → post r) : w_X2_reaches s 1 (i : Int) (g c).1 (g c).2 post := by
  obtain ⟨e1, e2, e3, e4⟩ := hat i (by omega)
  simp only [Nat.reduceAdd] at e1 e3
  have hn := hS.1.1
  have x := sw_x hS hc
  obtain ⟨⟨a1, a2, a3, a4⟩, -⟩ := hS.1.2 i (by omega)
  refine s_X2_reaches (c0 := 1) (by omega) (by rw [Int.toNat_natCast]; simp only [Nat.reduceAdd]; rw [e1]; exact a1) (by rw [Int.toNat_natCast]; simp only [Nat.reduceAdd]; rw [e3]; exact a3) (by omega) fun r er => hp r ?_
  rw [Int.toNat_natCast] at er
  simp only [Nat.reduceAdd] at er
  rw [e1, e3] at er
  unfold rchB
  rw [decide_eq_true_iff]
  exact er
theorem s_X8_findSteps {s : Sg} {D : Nat → Nat → Int} {n m M c : Nat} {f : Nat → Int × Int × Int × Int} {g : Nat → Int × Int} {post : Sg → Prop} (hS : Swp D n m f M g) (hc : c < M) (hn : s 1 0 = (n : Int)) (hat : LnAt s 2 (n : Int) D)
    (hp : ∀ t : Sg, (∀ c, c ≠ 45 → c ≠ 49 → c ≠ 50 → c ≠ 51 → c ≠ 52 → t c = s c) → (∀ o, o ≠ 4 → t 45 o = s 45 o) → t 45 4 = (tK D g n c : Int) → (∀ i, i < n → rchB D g c i = true → t 51 i = (rk D g n c (lwV D g i c) : Int) ∧ t 52 i = (rk D g n c (hgV D g i c) : Int)) → post t) : w_X8_findSteps s (g c).1 (g c).2 post := by
  unfold w_X8_findSteps
  rintro _ rfl
  have hn10 := hS.1.1
  have x := sw_x hS hc
  have fr : ∀ t : Sg, (∀ c, c ≠ 45 → c ≠ 49 → c ≠ 50 → c ≠ 51 → c ≠ 52 → t c = s c) → t 1 0 = (n : Int) ∧ LnAt t 2 (n : Int) D := fun t ho => by
    refine ⟨by rw [ho 1 (by omega) (by omega) (by omega) (by omega) (by omega)]; exact hn, fun i hi => ?_⟩
    rw [ho 2 (by omega) (by omega) (by omega) (by omega) (by omega), ho (2 + 1) (by omega) (by omega) (by omega) (by omega) (by omega), ho (2 + 2) (by omega) (by omega) (by omega) (by omega) (by omega), ho (2 + 3) (by omega) (by omega) (by omega) (by omega) (by omega)]
    exact hat i hi
  refine lr_1s (fun v t => ∃ i K τ, v = ((i : Nat) : Int) ∧ i ≤ n ∧ (∀ c, c ≠ 45 → c ≠ 49 → c ≠ 50 → t c = s c) ∧ (∀ o, o ≠ 4 → t 45 o = s 45 o) ∧ StpA t K τ ∧ K ≤ 2 * i ∧ SrtOf (stV D g c) (stO D g c) (2 * i) τ K) (fun v _ => ((n : Int) - v).toNat) ?_ 0 _ ⟨0, 0, fun _ => 0, rfl, Nat.zero_le _, fun c h1 _ _ => up_ne _ _ _ h1, fun o h1 => by rw [up_apply, if_neg (fun z => h1 z.2)], ⟨by rw [up_apply, if_pos ⟨rfl, rfl⟩]; rfl, fun j hj => absurd hj (Nat.not_lt_zero _)⟩, Nat.le_refl _, ⟨fun a b _ hb => absurd hb (Nat.not_lt_zero _), fun k hk => absurd hk (Nat.not_lt_zero _), fun e he => absurd he (Nat.not_lt_zero _)⟩⟩
  rintro again _ t ⟨i, K, τ, rfl, hi, to, to2, tS, tK2, tSr⟩ ih
  obtain ⟨tn, tat⟩ := fr t (fun c k1 k2 k3 _ _ => to c k1 k2 k3)
  rw [tn]
  refine ⟨fun q => ?_, fun q => ?_⟩
  · have e : i = n := by omega
    subst e
    clear ih
    obtain ⟨eK, eτ⟩ := Srt_one tSr (tau_ok D g i c).1
    have inc := tSr.1
    have erk : ∀ y, rkI τ K y = rk D g i c y := fun y => by
      unfold rk
      rw [← eK]
      exact rkI_congr eτ
    refine lr_1s (fun v u => ∃ j : Nat, v = (j : Int) ∧ j ≤ i ∧ (∀ c, c ≠ 51 → c ≠ 52 → u c = t c) ∧ ∀ k, k < j → rchB D g c k = true → u 51 k = (rk D g i c (lwV D g k c) : Int) ∧ u 52 k = (rk D g i c (hgV D g k c) : Int)) (fun v _ => ((i : Int) - v).toNat) ?_ 0 t ⟨0, rfl, Nat.zero_le _, fun _ _ _ => rfl, fun k hk => absurd hk (Nat.not_lt_zero _)⟩
    rintro again2 _ u ⟨j, rfl, hj, uo, ur⟩ ih2
    obtain ⟨un, uat⟩ := fr u (fun c k1 k2 k3 k4 k5 => by rw [uo c k4 k5, to c k1 k2 k3])
    rw [un]
    have fS : ∀ w : Sg, (∀ c, c ≠ 51 → c ≠ 52 → w c = t c) → StpA w K τ := fun w wo => by
      obtain ⟨a1, a2⟩ := tS
      refine ⟨by rw [wo 45 (by omega) (by omega)]; exact a1, fun j hj => ?_⟩
      rw [wo 49 (by omega) (by omega), wo 50 (by omega) (by omega)]
      exact a2 j hj
    refine ⟨fun q2 => ?_, fun q2 => ?_⟩
    · have e : j = i := by omega
      subst e
      exact hp u (fun c k1 k2 k3 k4 k5 => by rw [uo c k4 k5, to c k1 k2 k3]) (fun o k1 => by rw [uo 45 (by omega) (by omega), to2 o k1]) (by rw [uo 45 (by omega) (by omega), tS.1, eK]) ur
    · have hj2 : j < i := by omega
      have b1 : ok32 ((j : Int) + 1) := ⟨by omega, by omega⟩
      have b2 : (j : Int) + 1 = ((j + 1 : Nat) : Int) := by omega
      obtain ⟨⟨a1, a2, a3, a4⟩, -⟩ := hS.1.2 j (by omega)
      have go : ∀ w : Sg, (∀ c, c ≠ 51 → c ≠ 52 → w c = t c) → (∀ k, k < j → w 51 k = u 51 k ∧ w 52 k = u 52 k) → (rchB D g c j = true → w 51 j = (rk D g i c (lwV D g j c) : Int) ∧ w 52 j = (rk D g i c (hgV D g j c) : Int)) → ∀ v, v = w32 ((j : Int) + 1) → again2 v w := by
        intro w w1 w2 w3 v ev
        rw [ev, w32_id b1, b2]
        clear ev
        refine ih2 _ _ ⟨j + 1, rfl, by omega, w1, fun k hk hr => ?_⟩ (by omega)
        by_cases e : k = j
        · subst e; exact w3 hr
        · rw [(w2 k (by omega)).1, (w2 k (by omega)).2]
          exact ur k (by omega) hr
      refine s_rch2 hS hc uat hj2 fun r8 e8 => ?_
      unfold jn
      refine ⟨fun z8 => s_upr2 hS.1 uat hj2 fun r12 e12 => ⟨fun z12 => ?_, fun z12 => ?_⟩, fun z8 => go u uo (fun _ _ => ⟨rfl, rfl⟩) fun hr => ?_⟩
      · have hu : D 0 j ≠ D 2 j := by rcases e12 with e | e; omega; exact e.2
        obtain ⟨w1, w2⟩ := fr_fl hS hc hj2 hu
        refine s_X2_height hS.1 uat (by omega) x.1 (s_run hS.1 uat (by omega) ?_)
        rw [Int.toNat_natCast, w1]
        refine s_X8_stepsUnder (fS u uo) (by omega) inc w2 ⟨by omega, ?_⟩
        rintro _ rfl
        refine ⟨by omega, by omega, ?_⟩
        rintro _ rfl
        refine go _ (fun c k1 k2 => by rw [up_ne _ _ _ k2, up_ne _ _ _ k1, uo c k1 k2]) (fun k hk => ?_) fun _ => ?_
        · rw [up_ne _ _ _ (show (51 : Nat) ≠ 52 by omega), up_apply, up_apply, if_neg (by omega), if_neg (by omega), up_ne _ _ _ (by omega)]
          exact ⟨rfl, rfl⟩
        · rw [up_ne _ _ _ (show (51 : Nat) ≠ 52 by omega), up_apply, up_apply, if_pos ⟨rfl, rfl⟩, if_pos ⟨rfl, rfl⟩, erk]
          unfold lwV hgV
          rw [if_neg hu, if_neg hu]
          exact ⟨rfl, rfl⟩
      · have hu : D 0 j = D 2 j := by rcases e12 with e | e; exact e.2; exact absurd e.1 z12
        obtain ⟨d1, d2, d3, d4⟩ := uat j (by omega)
        simp only [Nat.reduceAdd] at d2 d4
        rw [Int.toNat_natCast, d2]
        refine ⟨by omega, s_X8_stepsUnder (fS u uo) (by omega) inc (fr_1 a2) ⟨by omega, ?_⟩⟩
        rintro _ rfl
        rw [up_ne _ _ _ (show (5 : Nat) ≠ 51 by omega), d4]
        refine ⟨by omega, s_X8_stepsUnder (fS _ fun c k1 k2 => by rw [up_ne _ _ _ k1, uo c k1 k2]) (by omega) inc (fr_1 a4) ⟨by omega, ?_⟩⟩
        rintro _ rfl
        refine go _ (fun c k1 k2 => by rw [up_ne _ _ _ k2, up_ne _ _ _ k1, uo c k1 k2]) (fun k hk => ?_) fun _ => ?_
        · rw [up_ne _ _ _ (show (51 : Nat) ≠ 52 by omega), up_apply, up_apply, if_neg (by omega), if_neg (by omega), up_ne _ _ _ (by omega)]
          exact ⟨rfl, rfl⟩
        · rw [up_ne _ _ _ (show (51 : Nat) ≠ 52 by omega), up_apply, up_apply, if_pos ⟨rfl, rfl⟩, if_pos ⟨rfl, rfl⟩, erk, erk]
          unfold lwV hgV
          rw [if_pos hu, if_pos hu]
          exact ⟨rfl, rfl⟩
      · rcases e8 with e | e
        · omega
        · exact absurd hr e.2
  · have hi2 : i < n := by omega
    have b1 : ok32 ((i : Int) + 1) := ⟨by omega, by omega⟩
    have b2 : (i : Int) + 1 = ((i + 1 : Nat) : Int) := by omega
    obtain ⟨⟨a1, a2, a3, a4⟩, -⟩ := hS.1.2 i (by omega)
    have o1 : stO D g c (2 * i) = rchB D g c i := by
      unfold stO
      rw [show 2 * i / 2 = i by omega]
      simp
    have o2 : stO D g c (2 * i + 1) = (rchB D g c i && upB D i) := by
      unfold stO
      rw [show (2 * i + 1) / 2 = i by omega, decide_eq_false (show ¬ (2 * i + 1) % 2 = 0 by omega)]
      simp
    have go : ∀ (w : Sg) (K' : Nat) (τ' : Nat → Int), (∀ c, c ≠ 45 → c ≠ 49 → c ≠ 50 → w c = t c) → (∀ o, o ≠ 4 → w 45 o = t 45 o) → StpA w K' τ' → K' ≤ 2 * (i + 1) → SrtOf (stV D g c) (stO D g c) (2 * i + 1 + 1) τ' K' → ∀ v, v = w32 ((i : Int) + 1) → again v w := by
      intro w K' τ' w1 w2 w3 w4 w5 v ev
      rw [ev, w32_id b1, b2]
      clear ev
      exact ih _ _ ⟨i + 1, K', τ', rfl, by omega, fun c k1 k2 k3 => by rw [w1 c k1 k2 k3, to c k1 k2 k3], fun o k1 => by rw [w2 o k1, to2 o k1], w3, w4, w5⟩ (by omega)
    refine s_rch2 hS hc tat hi2 fun r29 e29 => ?_
    unfold jn
    refine ⟨fun z29 => s_upr2 hS.1 tat hi2 fun r33 e33 => ⟨fun z33 => ?_, fun z33 => ?_⟩, fun z29 => ?_⟩
    · have hr : rchB D g c i = true := by rcases e29 with e | e; exact e.2; exact absurd e.1 z29
      have hu : D 0 i ≠ D 2 i := by rcases e33 with e | e; omega; exact e.2
      have hub : ¬ upB D i = true := fun y => hu (up_iff.mp y)
      obtain ⟨w1, w2⟩ := fr_fl hS hc hi2 hu
      have ev : stV D g c (2 * i) = Yv D g i c := by unfold stV; rw [show 2 * i / 2 = i by omega, if_neg hu]
      have sa := Srt_add tSr (by rw [o1]; exact hr)
      rw [ev] at sa
      have o2f : ¬ stO D g c (2 * i + 1) = true := by rw [o2, Bool.and_eq_true]; exact fun y => hub y.2
      refine s_X2_height hS.1 tat (by omega) x.1 (s_run hS.1 tat (by omega) ?_)
      rw [Int.toNat_natCast, w1]
      refine s_X8_addStep tS (by omega) tSr.1 w2 (fun hex => ?_) (fun hne u uo uo2 uS => ?_)
      · exact go t K τ (fun _ _ _ _ => rfl) (fun _ _ => rfl) tS (by omega) (Srt_skip (sa.1 hex) o2f)
      · exact go u (K + 1) _ uo uo2 uS (by omega) (Srt_skip (sa.2 hne) o2f)
    · have hr : rchB D g c i = true := by rcases e29 with e | e; exact e.2; exact absurd e.1 z29
      have hu : D 0 i = D 2 i := by rcases e33 with e | e; exact e.2; exact absurd e.1 z33
      have hub : upB D i = true := up_iff.mpr hu
      have ev : stV D g c (2 * i) = D 1 i * KK := by unfold stV; rw [show 2 * i / 2 = i by omega, if_pos hu, if_pos (by omega)]
      have ev2 : stV D g c (2 * i + 1) = D 3 i * KK := by unfold stV; rw [show (2 * i + 1) / 2 = i by omega, if_pos hu, if_neg (by omega)]
      have o1t : stO D g c (2 * i) = true := by rw [o1]; exact hr
      have o2t : stO D g c (2 * i + 1) = true := by rw [o2, hr, hub]; rfl
      obtain ⟨d1, d2, d3, d4⟩ := tat i (by omega)
      simp only [Nat.reduceAdd] at d2 d4
      have sa := Srt_add tSr o1t
      rw [ev] at sa
      have second : ∀ (u : Sg) (K' : Nat) (τ' : Nat → Int), (∀ c, c ≠ 45 → c ≠ 49 → c ≠ 50 → u c = t c) → (∀ o, o ≠ 4 → u 45 o = t 45 o) → StpA u K' τ' → K' ≤ 2 * i + 1 → SrtOf (stV D g c) (stO D g c) (2 * i + 1) τ' K' → (0 ≤ (i : Int) ∧ (i : Int) < 10) ∧ (w_X8_addStep u (u 5 i) 1 (fun s_40 => ∀ v6_32, v6_32 = w32 ((i : Int) + 1) → again v6_32 s_40)) := by
        intro u K' τ' u1 u2 u3 u4 u5
        have sb := Srt_add u5 o2t
        rw [ev2] at sb
        have e5 : u 5 i = D 3 i := by rw [u1 5 (by omega) (by omega) (by omega)]; exact d4
        rw [e5]
        refine ⟨by omega, s_X8_addStep u3 (by omega) u5.1 (fr_1 a4) (fun hex => ?_) (fun hne w wo wo2 wS => ?_)⟩
        · exact go u K' τ' u1 u2 u3 (by omega) (sb.1 hex)
        · exact go w (K' + 1) _ (fun c k1 k2 k3 => by rw [wo c k1 k2 k3, u1 c k1 k2 k3]) (fun o k1 => by rw [wo2 o k1, u2 o k1]) wS (by omega) (sb.2 hne)
      rw [Int.toNat_natCast, d2]
      refine ⟨by omega, s_X8_addStep tS (by omega) tSr.1 (fr_1 a2) (fun hex => ?_) (fun hne u uo uo2 uS => ?_)⟩
      · exact second t K τ (fun _ _ _ _ => rfl) (fun _ _ => rfl) tS (by omega) (sa.1 hex)
      · exact second u (K + 1) _ uo uo2 uS (by omega) (sa.2 hne)
    · have hr : ¬ rchB D g c i = true := by rcases e29 with e | e; omega; exact e.2
      refine go t K τ (fun _ _ _ _ => rfl) (fun _ _ => rfl) tS (by omega) (Srt_skip (Srt_skip tSr (by rw [o1]; exact hr)) ?_)
      rw [o2, Bool.and_eq_true]
      exact fun y => hr y.1
