/-! there are points and x's of any lines; count, slab, cell -/
theorem ins_ex {A B : Int × Int × Int × Int → Prop} {f : Nat → Int × Int × Int × Int} {m : Nat} {q : Int × Int × Int × Int} (h : RowM A f m) (hq : PlB q ∧ PlR q) (hB : ∀ p, B p ↔ (A p ∨ p = q)) : ∃ g k, RowM B g k ∧ k ≤ m + 1 := by
  by_cases c : ∃ i, i < m ∧ f i = q
  · obtain ⟨i, hi, e⟩ := c
    exact ⟨f, m, RowM_ins h hq (InsP_old h.1.1 hi e) hB, by omega⟩
  · have pos : ∀ N, N ≤ m → ∃ a, a ≤ N ∧ (∀ j, j < a → ltP (f j) q) ∧ ∀ j, a ≤ j → j < N → ltP q (f j) := by
      intro N
      induction N with
      | zero => intro _; exact ⟨0, Nat.le_refl _, fun j hj => absurd hj (Nat.not_lt_zero _), fun j _ hj => absurd hj (Nat.not_lt_zero _)⟩
      | succ N ih =>
        intro hN
        obtain ⟨a, a1, a2, a3⟩ := ih (by omega)
        have fb := h.1.2 N (by omega)
        rcases Int.lt_trichotomy (cmpP (f N) q) 0 with z | z | z
        · have lt : ltP (f N) q := ⟨fb.1, hq.1, z⟩
          refine ⟨N + 1, Nat.le_refl _, fun j hj => ?_, fun j h1 h2 => by omega⟩
          by_cases e : j = N
          · rw [e]; exact lt
          · exact ltP_tr _ _ _ (h.1.1 j N (by omega) (by omega)) lt
        · exact absurd ⟨N, by omega, cmpP_eq fb.1 hq.1 fb.2 hq.2 z⟩ c
        · have gt := ltP_of fb.1 hq.1 z
          refine ⟨a, by omega, a2, fun j h1 h2 => ?_⟩
          by_cases e : j = N
          · rw [e]; exact gt
          · exact a3 j h1 (by omega)
    obtain ⟨a, a1, a2, a3⟩ := pos m (Nat.le_refl _)
    exact ⟨insG f a q, m + 1, RowM_ins h hq (InsP_new h.1.1 a1 a2 a3) hB, Nat.le_refl _⟩
theorem pts_ex {D : Nat → Nat → Int} {n : Nat} (h : LsD D (n : Int)) : ∃ m f, PtsOf D n f m ∧ m ≤ 65 := by
  have hn := h.1
  have ends : ∀ i, i ≤ n → ∃ f m, RowM (EndsTo D i) f m ∧ m ≤ 2 * i := by
    intro i
    induction i with
    | zero => intro _; exact ⟨fun _ => (0, 1, 0, 1), 0, ⟨⟨fun a b _ hb => absurd hb (Nat.not_lt_zero _), fun j hj => absurd hj (Nat.not_lt_zero _)⟩, fun j hj => absurd hj (Nat.not_lt_zero _), fun p ⟨a, ha, _⟩ => absurd ha (Nat.not_lt_zero _)⟩, Nat.le_refl _⟩
    | succ i ih =>
      intro hi
      obtain ⟨f, m, h1, h2⟩ := ih (by omega)
      have eo := end_ok h (i := i) (by omega)
      obtain ⟨f2, m2, h3, h4⟩ := ins_ex (B := fun p => EndsTo D i p ∨ p = endA D i) h1 eo.1 (fun _ => Iff.rfl)
      obtain ⟨f3, m3, h5, h6⟩ := ins_ex (B := EndsTo D (i + 1)) h3 eo.2 (fun p => by
        unfold EndsTo
        constructor
        · rintro ⟨a, ha, e⟩
          by_cases z : a = i
          · subst z
            rcases e with e | e
            · exact Or.inl (Or.inr e)
            · exact Or.inr e
          · exact Or.inl (Or.inl ⟨a, by omega, e⟩)
        · rintro ((⟨a, ha, e⟩ | e) | e)
          · exact ⟨a, by omega, e⟩
          · exact ⟨i, by omega, Or.inl e⟩
          · exact ⟨i, by omega, Or.inr e⟩)
      exact ⟨f3, m3, h5, by omega⟩
  obtain ⟨f0, m0, r0, b0⟩ := ends n (Nat.le_refl _)
  have xsr : ∀ i, i ≤ n → ∃ f m, RowM (fun p => IsEnd D n p ∨ XTo D n i 0 p) f m ∧ m ≤ 2 * n + twP D n 1 i 0 := by
    intro i
    induction i with
    | zero =>
      intro _
      refine ⟨f0, m0, RowM_congr r0 fun p => ⟨fun z => z.resolve_right ?_, Or.inl⟩, by omega⟩
      rintro ⟨a, b, h1, h2, h3, -⟩
      omega
    | succ i ih =>
      intro hi
      have row : ∀ j, j ≤ n → ∃ f m, RowM (fun p => IsEnd D n p ∨ XTo D n i j p) f m ∧ m ≤ 2 * n + twP D n 1 i j := by
        intro j
        induction j with
        | zero => intro _; exact ih (by omega)
        | succ j ihj =>
          intro hj
          obtain ⟨f, m, h1, h2⟩ := ihj (by omega)
          have ts : twP D n 1 i (j + 1) = twP D n 1 i j + ind (decide (i < j ∧ mK D i j = 1)) := by
            unfold twP
            rw [cntN_s]
            unfold ind
            split <;> omega
          by_cases c : i < j ∧ mK D i j = 1
          · obtain ⟨f2, m2, h3, h4⟩ := ins_ex (B := fun p => IsEnd D n p ∨ XTo D n i (j + 1) p) h1 (mtP_ok h (a := i) (b := j) (by omega) (by omega) (Or.inl c.2)) (fun p => by
              constructor
              · rintro (z | ⟨a, b, z1, z2, z3, z4, z5⟩)
                · exact Or.inl (Or.inl z)
                · by_cases e : a = i ∧ b = j
                  · obtain ⟨rfl, rfl⟩ := e
                    exact Or.inr z5
                  · exact Or.inl (Or.inr ⟨a, b, z1, z2, by omega, z4, z5⟩)
              · rintro ((z | ⟨a, b, z1, z2, z3, z4, z5⟩) | z)
                · exact Or.inl z
                · exact Or.inr ⟨a, b, z1, z2, by omega, z4, z5⟩
                · exact Or.inr ⟨i, j, c.1, by omega, by omega, c.2, z⟩)
            rw [ind_t (decide_eq_true c)] at ts
            exact ⟨f2, m2, h3, by omega⟩
          · refine ⟨f, m, RowM_congr h1 fun p => or_congr Iff.rfl ⟨?_, ?_⟩, by omega⟩
            · rintro ⟨a, b, z1, z2, z3, z4, z5⟩
              refine ⟨a, b, z1, z2, ?_, z4, z5⟩
              by_cases e : a = i ∧ b = j
              · obtain ⟨rfl, rfl⟩ := e
                exact absurd ⟨z1, z4⟩ c
              · omega
            · rintro ⟨a, b, z1, z2, z3, z4, z5⟩
              exact ⟨a, b, z1, z2, by omega, z4, z5⟩
      obtain ⟨f, m, h1, h2⟩ := row n (Nat.le_refl _)
      refine ⟨f, m, RowM_congr h1 fun p => or_congr Iff.rfl ⟨?_, ?_⟩, h2⟩
      · rintro ⟨a, b, z1, z2, z3, z4, z5⟩
        exact ⟨a, b, z1, z2, by omega, z4, z5⟩
      · rintro ⟨a, b, z1, z2, z3, z4, z5⟩
        exact ⟨a, b, z1, z2, by omega, z4, z5⟩
  obtain ⟨f, m, h1, h2⟩ := xsr n (Nat.le_refl _)
  have b1 := twN_le D n 1 n (Nat.le_refl _)
  have b2 := tri_le n (by omega) n (Nat.le_refl _)
  have b3 : twP D n 1 n 0 = sm (fun i => cntN (fun j => decide (i < j ∧ mK D i j = 1)) n) n := rfl
  refine ⟨m, f, Pts_of h1 fun p => or_congr Iff.rfl ⟨?_, ?_⟩, by omega⟩
  · rintro ⟨i, j, z1, z2, z3, z4⟩
    exact ⟨i, j, z1, z2, by omega, z3, z4⟩
  · rintro ⟨a, b, z1, z2, z3, z4, z5⟩
    exact ⟨a, b, z1, z2, z4, z5⟩
theorem xs_ex {f : Nat → Int × Int × Int × Int} {m : Nat} (hf : RowP f m) : ∃ M g, XsOf f m g M ∧ M ≤ m := by
  have H : ∀ k, k ≤ m → ∃ (t : Sg) (M : Nat), XsTo t 0 1 0 M f k := by
    intro k
    induction k with
    | zero => intro _; exact ⟨fun _ _ => 0, 0, XsTo_0 _ _ _ _ _⟩
    | succ k ih =>
      intro hk
      obtain ⟨t, M, ht⟩ := ih (by omega)
      by_cases c : k ≠ 0 ∧ crX (f (k - 1)) (f k) = 0
      · have p1 := hf.2 (k - 1) (by omega)
        have p2 := hf.2 k (by omega)
        exact ⟨t, M, XsTo_same ht c.1 (pair_eq p1.1 p2.1 p1.2 p2.2 c.2).symm⟩
      · refine ⟨fun c j => if c = 0 then (if j = M + 0 then (f k).1 else t 0 j) else (if j = M + 0 then (f k).2.1 else t 1 j), M + 1, XsTo_new (by decide) ht hf (by omega) (fun z y => c ⟨z, y⟩) (fun j => rfl) (fun j => rfl)⟩
  obtain ⟨t, M, ht⟩ := H m (Nat.le_refl _)
  exact ⟨M, _, XsTo_end ht, ht.2.2.2.1⟩
theorem swp_ex {D : Nat → Nat → Int} {n m : Nat} {f : Nat → Int × Int × Int × Int} (h : LsD D (n : Int)) (hP : PtsOf D n f m) (hm : m ≤ 65) : ∃ M g, Swp D n m f M g := by
  obtain ⟨M, g, h1, h2⟩ := xs_ex hP.1
  exact ⟨M, g, h, hP, hm, h1, by omega⟩
theorem RFc_one {t : Sg} {D : Nat → Nat → Int} {n M : Nat} {g : Nat → Int × Int} {lab lab' : Nat → Nat} (hF : RFc t D n M g lab') (hl' : LabOf (JnR D g n M) (fC D g n M (M + 1)) lab') (hl : LabOf (JnR D g n M) (fC D g n M (M + 1)) lab) : RFc t D n M g lab := by
  have one := Lab_one hl' hl
  have rb : ∀ i, i < fC D g n M (M + 1) → rootB lab' i = rootB lab i := fun i hi => by unfold rootB; rw [one i hi]
  have cn : ∀ k, k ≤ fC D g n M (M + 1) → cntN (rootB lab') k = cntN (rootB lab) k := fun k hk => cnt_congr fun i hi => rb i (by omega)
  obtain ⟨h1, h2, h3⟩ := hF
  refine ⟨by rw [← cn _ (Nat.le_refl _)]; exact h1, fun j hj => ?_, fun i hi hr => ?_⟩
  · rw [h2 j hj]
    unfold fno
    rw [one j hj, cn _ (by have := hl.1 j hj; omega)]
  · rw [← cn i (by omega)]
    exact h3 i hi (by rw [rb i hi]; exact hr)
theorem ref_sheet {t : Sg} {D : Nat → Nat → Int} {n m M : Nat} {f : Nat → Int × Int × Int × Int} {g : Nat → Int × Int} {post : Sg → Prop} (hI : Inv t) (hS : Swp D n m f M g) (hn : t 68 0 = (n : Int)) (hat : LnAt t 69 (n : Int) D)
    (hp : ∀ (u : Sg) (lab : Nat → Nat), RefF t u → Inv u → RSl u D n m M f g → LabOf (JnR D g n M) (fC D g n M (M + 1)) lab → RFc u D n M g lab → post u) : w_X10_tellSheet t post := by
  refine s_X10_tellSheet hS hn hat fun u lab uF uR ul uC => ?_
  have rf : RefF t u := ⟨fun c hc => uF.1 c (by omega) (by omega), uF.2 0 (by omega), uF.2 43 (by omega)⟩
  exact hp u lab rf (Inv_ref hI rf) uR ul uC
theorem s_rcount {t : Sg} {k : Int} {D : Nat → Nat → Int} {n m M : Nat} {f : Nat → Int × Int × Int × Int} {g : Nat → Int × Int} {r1 : Int} (hI : Inv t) (hS : Swp D n m f M g) (hn : t 68 0 = (n : Int)) (hat : LnAt t 69 (n : Int) D) (hk : 0 ≤ k ∧ k ≤ 10)
    (h0 : k = 0 → r1 = (n : Int)) (h1 : k = 1 → r1 = (m : Int)) (h2 : k = 2 → r1 = (pcN D f n m : Int)) (h3 : k = 3 → ∃ lab, LabOf (nxR D f n) m lab ∧ r1 = (cntN (fun i => lab i == i) m : Int)) (h4 : k = 4 → r1 = ((M + 1 : Nat) : Int)) (h5 : k = 5 → r1 = (fC D g n M (M + 1) : Int)) (h6 : k = 6 → ∃ lab, LabOf (JnR D g n M) (fC D g n M (M + 1)) lab ∧ r1 = (cntN (rootB lab) (fC D g n M (M + 1)) : Int)) (h7 : k = 7 → ∃ H : Nat, HlE (pX D n) (pY D n) (pM D n) H ∧ r1 = (H : Int)) (h8 : 8 ≤ k → r1 = (twN D n (k - 7) : Int)) : w_X10_count t k (fun r2 s2 => r1 = r2 ∧ Inv s2) := by
  have h := hS.1
  unfold w_X10_count
  refine s_X10_in fun r hr => ⟨fun z => ?_, fun z => by rcases hr with e | e; omega; exact absurd hk e.2⟩
  refine ref_sheet hI hS hn hat fun u lab rf hIu uR ul uC => ?_
  obtain ⟨a1, a2, a3, a4⟩ := id uR.1
  rw [a1, a3, uR.2.1, uR.2.2.1, uC.1]
  refine ⟨fun e => ⟨h0 e, hIu⟩, fun e => ⟨h1 e, hIu⟩, fun e => ?_, fun e => ?_, fun e => ⟨h4 e, hIu⟩, fun e => ⟨h5 e, hIu⟩, fun e => ?_, fun e => ?_, fun e => ?_⟩
  · refine s_X10_tellPieces h hS.2.1 hS.2.2.1 uR.1 fun w lab' wo wl wa => ⟨by rw [h2 e, pc_eq h hS.2.1.1], Inv_ref hIu ⟨fun c hc => wo c (by omega), by rw [wo 68 (by omega)], by rw [wo 68 (by omega)]⟩⟩
  · obtain ⟨l3, e3, e4⟩ := h3 e
    refine s_X10_partsMany h hS.2.1 hS.2.2.1 uR.1 fun w lab' wo wl => ⟨?_, Inv_ref hIu ⟨fun c hc => wo c (by omega), by rw [wo 68 (by omega)], by rw [wo 68 (by omega)]⟩⟩
    rw [e4]
    have one := Lab_one e3 wl
    rw [cnt_congr (q := fun i => lab' i == i) fun i hi => by rw [one i hi]]
  · obtain ⟨l3, e3, e4⟩ := h6 e
    refine ⟨?_, hIu⟩
    rw [e4]
    have one := Lab_one e3 ul
    rw [cnt_congr (q := rootB lab) fun i hi => by unfold rootB; rw [one i hi]]
  · obtain ⟨H, e3, e4⟩ := h7 e
    refine s_X10_tellHulls h a1 a2 fun w H2 wF wH wR => ⟨?_, Inv_ref hIu ⟨fun c hc => wF.1 c (by omega) (by omega), wF.2 0 (by omega), wF.2 43 (by omega)⟩⟩
    rw [e4, HlE_one e3 wH]
  · refine s_X10_twos h a1 a2 fun w wo wo2 => ⟨?_, Inv_ref hIu ⟨fun c hc => wo c (by omega), wo2 0 (by omega), wo2 43 (by omega)⟩⟩
    rw [w32_id ⟨by omega, by omega⟩, tw_eq h]
    exact h8 (by omega)
theorem T_count {s : Sg} {k : Int} (hI : Inv s) : w_X9_count s k (fun r1 s1 => w_X10_count s1 k (fun r2 s2 => r1 = r2 ∧ Inv s2)) := by
  have bad : ¬ (0 ≤ k ∧ k ≤ 10) → w_X10_count s k (fun r2 s2 => (-2 : Int) = r2 ∧ Inv s2) := by
    intro hk
    unfold w_X10_count
    refine s_X10_in fun r hr => ⟨fun z => ?_, fun z => ⟨rfl, hI⟩⟩
    rcases hr with e | e
    · exact absurd e.2 hk
    · exact absurd e.1 z
  unfold w_X9_count jn
  refine ⟨fun q => bad (by omega), fun q => ⟨fun q2 => ?_, fun q2 => bad (by omega)⟩⟩
  have hk : 0 ≤ k ∧ k ≤ 10 := by omega
  -- points
  have pts : ∀ (t : Sg) (m : Nat) (f : Nat → Int × Int × Int × Int), (k < 4 ∨ 7 < k) → Inv t → ClsF s t → PInv t 16 (dD s) (nL s) m f → (k = 0 → w_X10_count t k (fun r2 s2 => t 1 0 = r2 ∧ Inv s2)) ∧ (k = 1 → w_X10_count t k (fun r2 s2 => t 16 0 = r2 ∧ Inv s2)) ∧ (k = 2 → w_X10_count t k (fun r2 s2 => t 16 1 = r2 ∧ Inv s2)) ∧ (k = 3 → w_X10_count t k (fun r2 s2 => t 16 2 = r2 ∧ Inv s2)) ∧ (k = 4 → w_X10_count t k (fun r2 s2 => w32 (t 38 0 + 1) = r2 ∧ Inv s2)) ∧ (k = 5 → w_X10_count t k (fun r2 s2 => t 38 1 = r2 ∧ Inv s2)) ∧ (k = 6 → w_X10_count t k (fun r2 s2 => t 53 0 = r2 ∧ Inv s2)) ∧ (k = 7 → w_X10_count t k (fun r2 s2 => t 60 0 = r2 ∧ Inv s2)) ∧ (k = 8 → (0 ≤ (1 : Int) ∧ (1 : Int) < 4) ∧ w_X10_count t k (fun r2 s2 => t 23 1 = r2 ∧ Inv s2)) ∧ (k = 9 → (0 ≤ (2 : Int) ∧ (2 : Int) < 4) ∧ w_X10_count t k (fun r2 s2 => t 23 2 = r2 ∧ Inv s2)) ∧ ((k < 0 ∨ 9 < k) → (0 ≤ (3 : Int) ∧ (3 : Int) < 4) ∧ w_X10_count t k (fun r2 s2 => t 23 3 = r2 ∧ Inv s2)) := by
    intro t m f hk2 hIt hc tP
    obtain ⟨q1, q2, q3, q4, q5, q6⟩ := cls_ref hIt hc
    obtain ⟨p1, p2, p3, p4, p5, ⟨lab, p6, p7, p8⟩, p9, p10⟩ := id tP
    obtain ⟨M, g, hS⟩ := swp_ex q1 p1 p2
    have tw : ∀ j : Nat, j < 4 → t 23 j = (twN (dD s) (nL s) (j : Int) : Int) := p10
    refine ⟨fun e => ?_, fun e => ?_, fun e => ?_, fun e => ?_, fun e => by omega, fun e => by omega, fun e => by omega, fun e => by omega, fun e => ⟨by omega, ?_⟩, fun e => ⟨by omega, ?_⟩, fun e => ⟨by omega, ?_⟩⟩
    · exact s_rcount hIt hS q2 q3 hk (fun _ => q5) (fun w => by omega) (fun w => by omega) (fun w => by omega) (fun w => by omega) (fun w => by omega) (fun w => by omega) (fun w => by omega) (fun w => by omega)
    · exact s_rcount hIt hS q2 q3 hk (fun w => by omega) (fun _ => p3) (fun w => by omega) (fun w => by omega) (fun w => by omega) (fun w => by omega) (fun w => by omega) (fun w => by omega) (fun w => by omega)
    · exact s_rcount hIt hS q2 q3 hk (fun w => by omega) (fun w => by omega) (fun _ => p9) (fun w => by omega) (fun w => by omega) (fun w => by omega) (fun w => by omega) (fun w => by omega) (fun w => by omega)
    · exact s_rcount hIt hS q2 q3 hk (fun w => by omega) (fun w => by omega) (fun w => by omega) (fun _ => ⟨lab, p6, p8⟩) (fun w => by omega) (fun w => by omega) (fun w => by omega) (fun w => by omega) (fun w => by omega)
    · exact s_rcount hIt hS q2 q3 hk (fun w => by omega) (fun w => by omega) (fun w => by omega) (fun w => by omega) (fun w => by omega) (fun w => by omega) (fun w => by omega) (fun w => by omega) (fun w => by rw [tw 1 (by omega), e]; rfl)
    · exact s_rcount hIt hS q2 q3 hk (fun w => by omega) (fun w => by omega) (fun w => by omega) (fun w => by omega) (fun w => by omega) (fun w => by omega) (fun w => by omega) (fun w => by omega) (fun w => by rw [tw 2 (by omega), e]; rfl)
    · exact s_rcount hIt hS q2 q3 hk (fun w => by omega) (fun w => by omega) (fun w => by omega) (fun w => by omega) (fun w => by omega) (fun w => by omega) (fun w => by omega) (fun w => by omega) (fun w => by rw [tw 3 (by omega), show k = 10 by omega]; rfl)
  have kp : (k < 4 ∨ 7 < k) → w_X9_knowPoints s (fun s_8 => (k = 0 → w_X10_count s_8 k (fun r2 s2 => s_8 1 0 = r2 ∧ Inv s2)) ∧ (k = 1 → w_X10_count s_8 k (fun r2 s2 => s_8 16 0 = r2 ∧ Inv s2)) ∧ (k = 2 → w_X10_count s_8 k (fun r2 s2 => s_8 16 1 = r2 ∧ Inv s2)) ∧ (k = 3 → w_X10_count s_8 k (fun r2 s2 => s_8 16 2 = r2 ∧ Inv s2)) ∧ (k = 4 → w_X10_count s_8 k (fun r2 s2 => w32 (s_8 38 0 + 1) = r2 ∧ Inv s2)) ∧ (k = 5 → w_X10_count s_8 k (fun r2 s2 => s_8 38 1 = r2 ∧ Inv s2)) ∧ (k = 6 → w_X10_count s_8 k (fun r2 s2 => s_8 53 0 = r2 ∧ Inv s2)) ∧ (k = 7 → w_X10_count s_8 k (fun r2 s2 => s_8 60 0 = r2 ∧ Inv s2)) ∧ (k = 8 → (0 ≤ (1 : Int) ∧ (1 : Int) < 4) ∧ w_X10_count s_8 k (fun r2 s2 => s_8 23 1 = r2 ∧ Inv s2)) ∧ (k = 9 → (0 ≤ (2 : Int) ∧ (2 : Int) < 4) ∧ w_X10_count s_8 k (fun r2 s2 => s_8 23 2 = r2 ∧ Inv s2)) ∧ ((k < 0 ∨ 9 < k) → (0 ≤ (3 : Int) ∧ (3 : Int) < 4) ∧ w_X10_count s_8 k (fun r2 s2 => s_8 23 3 = r2 ∧ Inv s2))) := fun hk2 => s_kPts hI fun t m f hIt hc tP => pts t m f hk2 hIt hc tP
  refine ⟨fun z => ⟨fun _ => kp (by omega), fun z2 => by omega⟩, fun z => ⟨fun z2 => ⟨fun z3 => kp (by omega), fun z3 => ?_⟩, fun z2 => ?_⟩⟩
  · refine s_kHulls hI fun t hIt hc tH => ?_
    obtain ⟨q1, q2, q3, q4, q5, q6⟩ := cls_ref hIt hc
    obtain ⟨m, f, hP, hm⟩ := pts_ex q1
    obtain ⟨M, g, hS⟩ := swp_ex q1 hP hm
    obtain ⟨H, e1, e2, e3, e4⟩ := tH
    refine ⟨fun e => by omega, fun e => by omega, fun e => by omega, fun e => by omega, fun e => by omega, fun e => by omega, fun e => by omega, fun _ => ?_, fun e => by omega, fun e => by omega, fun e => by omega⟩
    exact s_rcount hIt hS q2 q3 hk (fun w => by omega) (fun w => by omega) (fun w => by omega) (fun w => by omega) (fun w => by omega) (fun w => by omega) (fun w => by omega) (fun _ => ⟨H, e1, e2⟩) (fun w => by omega)
  · refine s_kFaces hI fun t hIt hc tF => ?_
    obtain ⟨q1, q2, q3, q4, q5, q6⟩ := cls_ref hIt hc
    obtain ⟨m, f, M, g, lab, lab2, hS, h2, ⟨l0, l1, lx, lf, lc⟩, h4, h5, ⟨k0, k1, k2, k3⟩⟩ := tF
    have hM := hS.2.2.2.2
    refine ⟨fun e => by omega, fun e => by omega, fun e => by omega, fun e => by omega, fun e => ?_, fun e => ?_, fun e => ?_, fun e => by omega, fun e => by omega, fun e => by omega, fun e => by omega⟩
    · exact s_rcount hIt hS q2 q3 hk (fun w => by omega) (fun w => by omega) (fun w => by omega) (fun w => by omega) (fun _ => by rw [l0, w32_id ⟨by omega, by omega⟩]; omega) (fun w => by omega) (fun w => by omega) (fun w => by omega) (fun w => by omega)
    · exact s_rcount hIt hS q2 q3 hk (fun w => by omega) (fun w => by omega) (fun w => by omega) (fun w => by omega) (fun w => by omega) (fun _ => l1) (fun w => by omega) (fun w => by omega) (fun w => by omega)
    · exact s_rcount hIt hS q2 q3 hk (fun w => by omega) (fun w => by omega) (fun w => by omega) (fun w => by omega) (fun w => by omega) (fun w => by omega) (fun _ => ⟨lab, h4, k0⟩) (fun w => by omega) (fun w => by omega)
