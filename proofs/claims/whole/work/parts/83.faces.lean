/-! Euler's count by points and pieces -/
/-- a place with an x that is no point: just one edge ends there -/
theorem in_no {D : Nat → Nat → Int} {n m M : Nat} {f : Nat → Int × Int × Int × Int} {g : Nat → Int × Int} (hS : Swp D n m f M g) {x : Nat} (hx : prB D g n M x = true) (hn : ∀ p, p < m → cdP D g f n M p ≠ x) : inH D g n M x = 1 := by
  have h := hS.1
  unfold prB at hx
  rw [decide_eq_true_iff] at hx
  obtain ⟨c, ec⟩ : ∃ c, c = x / 32 := ⟨_, rfl⟩
  obtain ⟨k, ek⟩ : ∃ k, k = x % 32 := ⟨_, rfl⟩
  rw [← ec, ← ek] at hx
  have hc : c < M := by omega
  have hxe : x = 32 * c + k := by omega
  have T : IsT D g n c (tau D g n c k) := ⟨k, hx.2, rfl⟩
  have rkk := rk_tau (D := D) (g := g) (n := n) (c := c) hx.2
  have nopt : ∀ p, p < m → sX (f p) = XX g c → sY (f p) = tau D g n c k → False := by
    intro p hp e1 e2
    have := (cdP_at hS hp hc e1.symm).1
    rw [e2, rkk, ← hxe] at this
    exact hn p hp this
  -- two lines there are in one row
  have par : ∀ i j, i < n → j < n → OnS D KK i (XX g c) (tau D g n c k) → OnS D KK j (XX g c) (tau D g n c k) → dT D i j = 0 := by
    intro i j hi hj oi oj
    apply Decidable.byContradiction
    intro hd
    obtain ⟨hk, ex, ey⟩ := meet_at h hi hj hd oi oj
    obtain ⟨p, hp, ep⟩ := mt_pt hS.2.1 h hi hj hk
    exact nopt p hp (by rw [ep]; exact ex) (by rw [ep]; exact ey)
  obtain ⟨i, hi, hr, hT⟩ := T_is T
  have es := end_s D i
  obtain ⟨⟨pa, hpa, ea⟩, ⟨pb, hpb, eb⟩⟩ := end_pt hS.2.1 hi
  have hri := (rch_S hS hc i).mp hr
  rcases hT with ⟨hu, ey⟩ | ⟨hu, ey⟩
  · have hu' : D 0 i < D 2 i := by have := (h.2 i (by omega)).2; omega
    have oi : OnS D KK i (XX g c) (tau D g n c k) := (on_fl hS hc hi hu').mpr ⟨hr, ey⟩
    have lt : D 0 i * KK < XX g c := by
      apply Decidable.byContradiction
      intro w
      refine nopt pa hpa (by rw [ea, es.1]; omega) ?_
      have e := Yv_eq hS hc hi hu'
      have e2 : XX g c - D 0 i * KK = 0 := by omega
      rw [e2, Int.zero_mul] at e
      rw [ea, es.2.1]
      rcases Int.mul_eq_zero.mp e with q | q <;> omega
    obtain ⟨a, ha, ae⟩ := (XX_end hS hi).1
    have hac := XX_ix hS ha hc (by omega)
    obtain ⟨b, rfl⟩ : ∃ b, c = b + 1 := ⟨c - 1, by omega⟩
    have mon : XX g a ≤ XX g b := by
      by_cases w : a = b
      · rw [w]; exact Int.le_refl _
      · have := XX_lt hS (show a < b by omega) (by omega); omega
    have ht : thrB D g b i = true := (thr_iff hS hc hi).mpr ⟨hu', by omega, by omega⟩
    obtain ⟨q, hq, v1, v2⟩ := grp_of hS hc hi ht
    obtain ⟨m1, m2, m3⟩ := H_mk1 hS hc hq
    have hh := hiP_of hS hc hq hi ht v1.symm v2.symm
    rw [v2, ← ey, rkk, ← hxe] at m3
    unfold inH
    rw [cnt_sm, sm_one m2 (fun e he hne => ind_f fun hH => hne ?_), ind_t m3]
    rcases H_form hS he hH with ⟨b', q', hb', hq', q32', rfl, ex⟩ | ⟨c', k', hc', hk', k32', hv, rfl, ex⟩
    · have T' := (GV_T hS hb' hq').2
      have r1 := rk_lt T'
      have t20 := tK_20 (D := D) (g := g) (n := n) (c := b' + 1) (by have := hS.1.1; omega)
      have t20' := tK_20 (D := D) (g := g) (n := n) (c := b + 1) (by have := hS.1.1; omega)
      have eb' : b' = b := by omega
      subst eb'
      have ey' : GV D g n b' q' (b' + 1) = tau D g n (b' + 1) k := (rk_cmp T' T).2.mp (by omega)
      obtain ⟨j, hj, hhj⟩ := hiP_ex (D := D) (g := g) (n := n) hq'
      obtain ⟨w1, w2, w3, w4, w5⟩ := hiP_ok hS hc hhj
      obtain ⟨z1, z2, z3⟩ := thr_rch hS hc hj w2
      have oj : OnS D KK j (XX g (b' + 1)) (tau D g n (b' + 1) k) := (on_fl hS hc hj z1).mpr ⟨z3, by rw [w5]; exact ey'.symm⟩
      have pr := par i j hi hj oi oj
      have cr : crR D i j = 0 := by rw [crR_dT, pr]; rfl
      have yb := Yv_all hS hc (show b' < M by omega) hi hj hu' z1 cr (by rw [← ey, w5]; exact ey'.symm)
      have := hiP_of hS hc hq' hi ht (by rw [← w4]; exact yb) (by rw [← ey]; exact ey'.symm)
      rw [hiP_one h this hh]
    · exfalso
      have t20 := tK_20 (D := D) (g := g) (n := n) (c := c') (by have := hS.1.1; omega)
      have t20' := tK_20 (D := D) (g := g) (n := n) (c := b + 1) (by have := hS.1.1; omega)
      have ec' : c' = b + 1 := by omega
      subst ec'
      have ek' : k' = k := by omega
      subst ek'
      obtain ⟨j, hj, us⟩ := cov_iff.mp hv
      rw [upS_iff] at us
      have tu := T_up (g := g) (c := b + 1) hj us.2.1 us.1
      have q1 := rk_cmp tu.1 T
      have q2 := rk_cmp tu.2 T
      have oj : OnS D KK j (XX g (b + 1)) (tau D g n (b + 1) k') := (on_up hS hc hj us.1).mpr ⟨us.2.1, by omega, by omega⟩
      have pr := par i j hi hj oi oj
      unfold dT mr ms at pr
      rw [us.1, Int.sub_self, Int.mul_zero, Int.sub_zero] at pr
      have lj := (h.2 j (by omega)).2
      rcases Int.mul_eq_zero.mp pr with q | q <;> omega
  · exfalso
    have k0 : D 0 i * KK = D 2 i * KK := by rw [hu]
    rcases ey with ey | ey
    · exact nopt pa hpa (by rw [ea, es.1]; rw [← hu] at hri; omega) (by rw [ea, es.2.1]; exact ey.symm)
    · exact nopt pb hpb (by rw [eb, es.2.2.1]; omega) (by rw [eb, es.2.2.2]; exact ey.symm)
theorem in_not {D : Nat → Nat → Int} {n m M : Nat} {f : Nat → Int × Int × Int × Int} {g : Nat → Int × Int} (hS : Swp D n m f M g) {x : Nat} (hx : ¬ prB D g n M x = true) : inH D g n M x = 0 := by
  refine cntN_0.mpr fun e he hH => hx ?_
  rcases H_form hS he hH with ⟨b, q, hb, hq, q32, rfl, ex⟩ | ⟨c, k, hc, hk, k32, hv, rfl, ex⟩
  · have := cd_ok hS hb (GV_T hS hb hq).2
    rw [ex]; exact this.2
  · rw [ex, pr_at D g n M hc k32, decide_eq_true_iff]
    exact hk
theorem cnt_fib (P : Nat → Bool) (V : Nat → Nat) (N K : Nat) (h : ∀ e, e < N → P e = true → V e < K) : cntN P N = sm (fun x => cntN (fun e => P e && (V e == x)) N) K := by
  rw [cnt_sm]
  have : sm (fun x => cntN (fun e => P e && (V e == x)) N) K = sm (fun x => sm (fun e => ind (P e && (V e == x))) N) K := sm_congr fun x _ => cnt_sm _ _
  rw [this, sm_swap]
  refine sm_congr fun e he => ?_
  by_cases c : P e = true
  · rw [sm_one (h e he c) (fun x _ hne => ind_f (by simp [c]; omega))]
    simp [c]
  · rw [sm_0 (fun x _ => ind_f (by simp [c])), ind_f c]
theorem e_count {D : Nat → Nat → Int} {n m M : Nat} {f : Nat → Int × Int × Int × Int} {g : Nat → Int × Int} (hS : Swp D n m f M g) : cntN (fun e => eVl D g n M e && eH D g n e) (2 * (32 * (M + 1))) + m = pcN D f n m + sm (tK D g n) M := by
  have hn := hS.1.1
  have e1 := cnt_fib (fun e => eVl D g n M e && eH D g n e) (eV D g n M) (2 * (32 * (M + 1))) (32 * M + 1) (fun e he hP => (e_bd hS he (by rw [Bool.and_eq_true] at hP; exact hP.1)).1.2)
  have e2 : sm (fun x => cntN (fun e => (eVl D g n M e && eH D g n e) && (eV D g n M e == x)) (2 * (32 * (M + 1)))) (32 * M + 1) = sm (inH D g n M) (32 * M) := by
    rw [sm_s]
    have : inH D g n M (32 * M) = 0 := in_not hS (by unfold prB; rw [decide_eq_true_iff]; omega)
    unfold inH at this
    rw [this]
    rfl
  rw [e2] at e1
  -- points, one by one
  have G : sm (fun x => sm (fun p => ind (cdP D g f n M p == x)) m) (32 * M) = m := by
    rw [sm_swap]
    have : sm (fun p => sm (fun x => ind (cdP D g f n M p == x)) (32 * M)) m = sm (fun _ => 1) m := sm_congr fun p hp => by
      rw [sm_one (cdP_ok hS hp).1 (fun x _ hne => ind_f (by simp; omega))]
      simp [ind]
    rw [this, sm_c]
    omega
  have F : sm (fun x => sm (fun p => ind (cdP D g f n M p == x) * cntN (fun l => pcB D f l p) n) m) (32 * M) = pcN D f n m := by
    rw [sm_swap]
    have : sm (fun p => sm (fun x => ind (cdP D g f n M p == x) * cntN (fun l => pcB D f l p) n) (32 * M)) m = sm (fun p => sm (fun l => ind (pcB D f l p)) n) m := sm_congr fun p hp => by
      rw [sm_one (cdP_ok hS hp).1 (fun x _ hne => by rw [ind_f (by simp; omega), Nat.zero_mul]), ← cnt_sm]
      simp [ind]
    rw [this, sm_swap]
    unfold pcN
    exact sm_congr fun l _ => (cnt_sm _ _).symm
  have pt : sm (fun x => inH D g n M x + sm (fun p => ind (cdP D g f n M p == x)) m) (32 * M) = sm (fun x => sm (fun p => ind (cdP D g f n M p == x) * cntN (fun l => pcB D f l p) n) m + ind (prB D g n M x)) (32 * M) := by
    refine sm_congr fun x hx => ?_
    by_cases c : prB D g n M x = true
    · rw [ind_t c]
      by_cases d : ∃ p, p < m ∧ cdP D g f n M p = x
      · obtain ⟨p, hp, rfl⟩ := d
        rw [in_pt hS hp, sm_one hp (fun q hq hne => ind_f (by rw [beq_iff_eq]; exact fun z => hne (cdP_in hS hq hp z))), sm_one hp (fun q hq hne => by rw [ind_f (by rw [beq_iff_eq]; exact fun z => hne (cdP_in hS hq hp z)), Nat.zero_mul])]
        simp [ind]
      · have hn : ∀ p, p < m → cdP D g f n M p ≠ x := fun p hp z => d ⟨p, hp, z⟩
        rw [in_no hS c hn, sm_0 (fun p hp => ind_f (by rw [beq_iff_eq]; exact hn p hp)), sm_0 (fun p hp => by rw [ind_f (by rw [beq_iff_eq]; exact hn p hp), Nat.zero_mul])]
    · have hn : ∀ p, p < m → cdP D g f n M p ≠ x := fun p hp z => c (by rw [← z]; exact (cdP_ok hS hp).2)
      rw [in_not hS c, ind_f c, sm_0 (fun p hp => ind_f (by rw [beq_iff_eq]; exact hn p hp)), sm_0 (fun p hp => by rw [ind_f (by rw [beq_iff_eq]; exact hn p hp), Nat.zero_mul])]
  rw [sm_add, sm_add, G, F, ← cnt_sm, cnt_pr (by omega)] at pt
  omega
/-- faces by Euler's formula -/
theorem faces_eu {D : Nat → Nat → Int} {n m M : Nat} {f : Nat → Int × Int × Int × Int} {g : Nat → Int × Int} (hS : Swp D n m f M g) {lab lab2 : Nat → Nat} (hl : LabOf (JnR D g n M) (fC D g n M (M + 1)) lab) (hl2 : LabOf (nxR D f n) m lab2) : cntN (fun i => lab i == i) (fC D g n M (M + 1)) + m = 1 + pcN D f n m + cntN (fun i => lab2 i == i) m := by
  have a := eu_inst hS hl
  have b := e_count hS
  have c := parts_eq hS hl2
  omega
/-- of two in one row: a place of the one between two of the other -/
theorem par_on {D : Nat → Nat → Int} {k : Int} {a b : Nat} {X0 Y0 X1 Y1 X Y : Int} (hk : 0 < k) (ha : D 0 a < D 2 a ∨ (D 0 a = D 2 a ∧ D 1 a < D 3 a)) (hb : D 0 b < D 2 b ∨ (D 0 b = D 2 b ∧ D 1 b < D 3 b)) (hd : dT D a b = 0) (h0 : OnS D k a X0 Y0) (h0' : OnS D k b X0 Y0) (h1 : OnS D k a X1 Y1) (h : OnS D k b X Y) (o1 : X1 < X ∨ (X1 = X ∧ Y1 ≤ Y)) (o2 : X < X0 ∨ (X = X0 ∧ Y ≤ Y0)) : OnS D k a X Y := by
  unfold dT mr ms at hd
  rcases ha with c | c
  · rcases hb with c' | c'
    · rw [OnS_fl hk c] at h0 h1 ⊢
      rw [OnS_fl hk c'] at h0' h
      refine ⟨by omega, ?_⟩
      have e1 := h0.2
      have e2 := h0'.2
      have e3 := h.2
      have hr : D 2 b - D 0 b ≠ 0 := by omega
      generalize D 2 a - D 0 a = r at *
      generalize D 3 a - D 1 a = s at *
      generalize D 2 b - D 0 b = r' at *
      generalize D 3 b - D 1 b = s' at *
      generalize D 0 a * k = A at *
      generalize D 1 a * k = B at *
      generalize D 0 b * k = A' at *
      generalize D 1 b * k = B' at *
      have d1 : (X0 - X) * s' = (Y0 - Y) * r' := by grind
      have d2 : r * s' = s * r' := by omega
      have key : (X0 - X) * s = (Y0 - Y) * r := by
        refine mul_can (c := r') hr ?_
        have t1 : (X0 - X) * s * r' = (X0 - X) * (s * r') := by grind
        rw [t1, ← d2]
        have t2 : (X0 - X) * (r * s') = (X0 - X) * s' * r := by grind
        rw [t2, d1]
        grind
      grind
    · exfalso
      rw [c'.1, Int.sub_self, Int.mul_zero, Int.sub_zero] at hd
      rcases Int.mul_eq_zero.mp hd with z | z <;> omega
  · rcases hb with c' | c'
    · exfalso
      rw [c.1, Int.sub_self, Int.zero_mul, Int.zero_sub] at hd
      rcases Int.mul_eq_zero.mp (show (D 3 a - D 1 a) * (D 2 b - D 0 b) = 0 by omega) with z | z <;> omega
    · rw [OnS_up c.1 c.2] at h0 h1 ⊢
      rw [OnS_up c'.1 c'.2] at h0' h
      omega
/-! at most 46 faces -/
theorem pc_bound {D : Nat → Nat → Int} {n m : Nat} {f : Nat → Int × Int × Int × Int} (h : LsD D (n : Int)) (hP : PtsOf D n f m) {lab2 : Nat → Nat} (hl2 : LabOf (nxR D f n) m lab2) : pcN D f n m + cntN (fun i => lab2 i == i) m ≤ 45 + m := by
  have hn := h.1
  -- the first line whose piece ends at j
  have e0 : pcN D f n m = sm (fun j => cntN (fun l => pcB D f l j) n) m := by
    unfold pcN
    have : sm (fun l => cntN (pcB D f l) m) n = sm (fun l => sm (fun j => ind (pcB D f l j)) m) n := sm_congr fun l _ => cnt_sm _ _
    rw [this, sm_swap]
    exact sm_congr fun j _ => (cnt_sm _ _).symm
  -- those that are not the first, by twos
  have e1 : ∀ j, j < m → cntN (fun l => pcB D f l j) n ≤ cntN (fun l => pcB D f l j && decide (∃ k, k < l ∧ pcB D f k j = true)) n + ind (decide (∃ k, k < n ∧ pcB D f k j = true)) := by
    intro j _
    have s : cntN (fun l => pcB D f l j) n = cntN (fun l => pcB D f l j && decide (∃ k, k < l ∧ pcB D f k j = true)) n + cntN (fun l => pcB D f l j && !decide (∃ k, k < l ∧ pcB D f k j = true)) n := by
      rw [← cnt_or]
      · refine cnt_congr fun l _ => ?_
        cases pcB D f l j <;> cases decide (∃ k, k < l ∧ pcB D f k j = true) <;> rfl
      · intro l _ h1 h2
        rw [Bool.and_eq_true] at h1 h2
        rw [h1.2] at h2
        exact absurd h2.2 (by decide)
    rw [s]
    refine Nat.add_le_add_left ?_ _
    have one : ∀ l l', (pcB D f l j && !decide (∃ k, k < l ∧ pcB D f k j = true)) = true → (pcB D f l' j && !decide (∃ k, k < l' ∧ pcB D f k j = true)) = true → l = l' := by
      intro l l' h1 h2
      rw [Bool.and_eq_true, Bool.not_eq_true', decide_eq_false_iff_not] at h1 h2
      rcases Nat.lt_trichotomy l l' with c | c | c
      · exact absurd ⟨l, c, h1.1⟩ h2.2
      · exact c
      · exact absurd ⟨l', c, h2.1⟩ h1.2
    by_cases c : ∃ l, l < n ∧ (pcB D f l j && !decide (∃ k, k < l ∧ pcB D f k j = true)) = true
    · obtain ⟨l, hl, hh⟩ := c
      rw [cnt_sm, sm_one hl (fun i _ hne => ind_f fun z => hne (one i l z hh)), ind_t hh]
      rw [Bool.and_eq_true] at hh
      rw [ind_t (decide_eq_true ⟨l, hl, hh.1⟩)]
      exact Nat.le_refl _
    · rw [cnt_none (fun i hi z => c ⟨i, hi, z⟩)]
      exact Nat.zero_le _
  -- roots have no piece that ends there
  have e2 : ∀ j, j < m → ind (lab2 j == j) + ind (decide (∃ k, k < n ∧ pcB D f k j = true)) ≤ 1 := by
    intro j hj
    by_cases c : ∃ k, k < n ∧ pcB D f k j = true
    · obtain ⟨k, hk, hp⟩ := c
      rw [pcB_iff] at hp
      obtain ⟨i, hij, nx, -⟩ := hp
      have r := hl2.2.1 i j (by omega) hj ⟨k, hk, nx⟩
      have r1 := hl2.1 i (by omega)
      rw [ind_f (p := lab2 j == j) (by rw [beq_iff_eq]; omega)]
      have := ind_le (decide (∃ k, k < n ∧ pcB D f k j = true))
      omega
    · rw [ind_f (p := decide (∃ k, k < n ∧ pcB D f k j = true)) (by rw [decide_eq_true_iff]; exact c)]
      have := ind_le (lab2 j == j)
      omega
  -- twos of lines: each once
  have e3 : sm (fun j => cntN (fun l => pcB D f l j && decide (∃ k, k < l ∧ pcB D f k j = true)) n) m ≤ sm (fun l => l) n := by
    have sw : sm (fun j => cntN (fun l => pcB D f l j && decide (∃ k, k < l ∧ pcB D f k j = true)) n) m = sm (fun l => cntN (fun j => pcB D f l j && decide (∃ k, k < l ∧ pcB D f k j = true)) m) n := by
      have : sm (fun j => cntN (fun l => pcB D f l j && decide (∃ k, k < l ∧ pcB D f k j = true)) n) m = sm (fun j => sm (fun l => ind (pcB D f l j && decide (∃ k, k < l ∧ pcB D f k j = true))) n) m := sm_congr fun j _ => cnt_sm _ _
      rw [this, sm_swap]
      exact sm_congr fun l _ => (cnt_sm _ _).symm
    rw [sw]
    refine sm_le fun l hl => ?_
    have all : cntN (fun _ => true) l = l := cnt_all fun _ _ => rfl
    -- the first line there
    classical
    refine Nat.le_trans (m := cntN (fun _ => true) l) ?_ (Nat.le_of_eq all)
    refine cnt_inj (fun j => if h : ∃ k, k < l ∧ pcB D f k j = true then Classical.choose h else 0) (fun j hj hh => ?_) (fun j j' hj hj' hh hh' e => ?_)
    · rw [Bool.and_eq_true, decide_eq_true_iff] at hh
      rw [dif_pos hh.2]
      exact ⟨(Classical.choose_spec hh.2).1, rfl⟩
    · rw [Bool.and_eq_true, decide_eq_true_iff] at hh hh'
      have e' : (if h : ∃ k, k < l ∧ pcB D f k j = true then Classical.choose h else 0) = (if h : ∃ k, k < l ∧ pcB D f k j' = true then Classical.choose h else 0) := e
      rw [dif_pos hh.2, dif_pos hh'.2] at e'
      have s1 := Classical.choose_spec hh.2
      have s2 := Classical.choose_spec hh'.2
      rw [← e'] at s2
      generalize Classical.choose hh.2 = k at s1 s2
      clear e e'
      -- k and l meet at both j and j'
      have hk : k < n := by omega
      have p1 := pcB_iff.mp s1.2
      have p2 := pcB_iff.mp hh.1
      have p3 := pcB_iff.mp s2.2
      have p4 := pcB_iff.mp hh'.1
      obtain ⟨i1, a1, b1, c1⟩ := p1
      obtain ⟨i2, a2, b2, c2⟩ := p2
      obtain ⟨i3, a3, b3, c3⟩ := p3
      obtain ⟨i4, a4, b4, c4⟩ := p4
      have z1 := nxB_iff.mp b1
      have z2 := nxB_iff.mp b2
      have z3 := nxB_iff.mp b3
      have z4 := nxB_iff.mp b4
      by_cases hd : dT D k l = 0
      · exfalso
        -- in one row: one piece
        have o : onD D (f i1) l = true ∨ onD D (f i2) k = true := by
          have w1 := (on_p hP (show i1 < m by omega)).mp z1.2.1
          have w2 := (on_p hP (show i2 < m by omega)).mp z2.2.1
          have w3 := (on_p hP hj).mp z1.2.2.1
          have w4 := (on_p hP hj).mp z2.2.2.1
          have lk := (h.2 k (by omega)).2
          have ll := (h.2 l (by omega)).2
          have o2 := (pt_lt hP (show i2 < m by omega) hj).mp a2
          have o1 := (pt_lt hP (show i1 < m by omega) hj).mp a1
          rcases Nat.lt_trichotomy i1 i2 with c | c | c
          · right
            have o3 := (pt_lt hP (show i1 < m by omega) (show i2 < m by omega)).mp c
            exact (on_p hP (show i2 < m by omega)).mpr (par_on KK_pos lk ll hd w3 w4 w1 w2 (by omega) (by omega))
          · left
            rw [c]; exact z2.2.1
          · left
            have o3 := (pt_lt hP (show i2 < m by omega) (show i1 < m by omega)).mp c
            exact (on_p hP (show i1 < m by omega)).mpr (par_on KK_pos ll lk (by rw [dT_sw, hd]; rfl) w4 w3 w2 w1 (by omega) (by omega))
        rcases o with o | o
        · have nx := nxB_ot h hP.1 hj hk hl b1 o z2.2.2.1
          have e := nxB_one nx b2
          subst e
          exact lsB_iff.mp c2 k s1.1 ⟨z1.2.1, z1.2.2.1⟩
        · have nx := nxB_ot h hP.1 hj hl hk b2 o z1.2.2.1
          have e := nxB_one nx b1
          subst e
          exact lsB_iff.mp c2 k s1.1 ⟨z1.2.1, z1.2.2.1⟩
      · have q1 := (meet_at h hk hl hd ((on_p hP hj).mp z1.2.2.1) ((on_p hP hj).mp z2.2.2.1)).2
        have q2 := (meet_at h hk hl hd ((on_p hP hj').mp z3.2.2.1) ((on_p hP hj').mp z4.2.2.1)).2
        exact pt_in hP hj hj' (by rw [← q1.1, q2.1]) (by rw [← q1.2, q2.2])
  have e4 : sm (fun l => l) n ≤ 45 := tri2 n (by omega)
  have e5 : sm (fun j => cntN (fun l => pcB D f l j) n) m + cntN (fun i => lab2 i == i) m ≤ sm (fun j => cntN (fun l => pcB D f l j && decide (∃ k, k < l ∧ pcB D f k j = true)) n) m + m := by
    rw [cnt_sm, ← sm_add]
    have : sm (fun j => cntN (fun l => pcB D f l j && decide (∃ k, k < l ∧ pcB D f k j = true)) n) m + m = sm (fun j => cntN (fun l => pcB D f l j && decide (∃ k, k < l ∧ pcB D f k j = true)) n + 1) m := by
      rw [sm_add, sm_c]; omega
    rw [this]
    refine sm_le fun j hj => ?_
    have := e1 j hj
    have := e2 j hj
    omega
  omega
