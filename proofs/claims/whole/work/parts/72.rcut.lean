/-! the reference cuts slabs into cells -/
theorem s_upr {s : Sg} {D : Nat → Nat → Int} {n i : Nat} {post : Int → Prop} (h : LsD D (n : Int)) (hat : LnAt s 69 (n : Int) D) (hi : i < n) (hp : ∀ r, BV r (D 0 i = D 2 i) → post r) : w_X10_isUpright s (i : Int) post := by
  unfold w_X10_isUpright jn
  obtain ⟨e1, e2, e3, e4⟩ := hat i (by omega)
  simp only [Nat.reduceAdd] at e1 e3
  have hn := h.1
  rw [Int.toNat_natCast, e1, e3]
  exact ⟨by omega, by omega, fun z => ⟨Or.inl rfl, hp 0 (Or.inr ⟨rfl, z⟩)⟩, fun z => ⟨Or.inr rfl, hp 1 (Or.inl ⟨rfl, z⟩)⟩⟩
theorem cmpT_sw (D : Nat → Nat → Int) (x xd : Int) (a b : Nat) : (cmpT D x xd a b < 0 ↔ 0 < cmpT D x xd b a) ∧ (cmpT D x xd a b = 0 ↔ cmpT D x xd b a = 0) := by
  have c1 := cmpT_iff D x xd a b
  have c2 := cmpT_iff D x xd b a
  have s1 := crH_sw D x xd a b
  have s2 := crR_sw D a b
  rw [c1.1, c2.2.2, c1.2.1, c2.2.1]
  omega
theorem ag_b {D : Nat → Nat → Int} {n : Int} {i j : Nat} {x xd : Int} (h : LsD D n) (hi : (i : Int) < n) (hj : (j : Int) < n) (hx : FrB x xd) : -2621440000000 ≤ hgt D i x xd * ((D 2 j - D 0 j) * xd) ∧ hgt D i x xd * ((D 2 j - D 0 j) * xd) ≤ 2621440000000 := by
  have h1 := hgt_b h hi hx
  obtain ⟨⟨a1, a2, a3, a4⟩, -⟩ := h.2 j hj
  have h2 := mb (a := D 2 j - D 0 j) (b := xd) (A := 40) (B := 3200) (by omega) (by have := hx.2; omega)
  exact mb (A := 20480000) (B := 128000) h1 (by omega)
theorem s_agT {s : Sg} {D : Nat → Nat → Int} {n m M b i j : Nat} {f : Nat → Int × Int × Int × Int} {g : Nat → Int × Int} {post : Int → Prop} (hS : Swp D n m f M g) (hb : b + 1 < M) (hat : LnAt s 69 (n : Int) D) (hx0 : s 83 (b + 1) = (g b).1 ∧ s 84 (b + 1) = (g b).2) (hx1 : s 83 (b + 2) = (g (b + 1)).1 ∧ s 84 (b + 2) = (g (b + 1)).2) (hi : i < n) (hj : j < n) (ti : thrB D g b i = true) (tj : thrB D g b j = true)
    (hp : ∀ r, ((r < 0 ↔ cmpT D (g b).1 (g b).2 i j < 0) ∧ (r = 0 ↔ cmpT D (g b).1 (g b).2 i j = 0)) → post r) : w_X10_againstThrough s (i : Int) (j : Int) ((b + 1 : Nat) : Int) post := by
  unfold w_X10_againstThrough
  have hM := hS.2.2.2.2
  have x0 := sw_x hS (show b < M by omega)
  have x1 := sw_x hS hb
  have hl := hS.1
  have ei : ((i : Nat) : Int).toNat = i := Int.toNat_natCast i
  have ej : ((j : Nat) : Int).toNat = j := Int.toNat_natCast j
  have e1 : w32 (((b + 1 : Nat) : Int) + 1) = ((b + 2 : Nat) : Int) := by rw [w32_id (show ok32 (((b + 1 : Nat) : Int) + 1) from ⟨by omega, by omega⟩)]; omega
  rw [e1, Int.toNat_natCast, Int.toNat_natCast, hx0.1, hx0.2, hx1.1, hx1.2]
  clear e1
  have cm := cmpT_thr hS hb hi hj ti tj
  have t1 := (thr_iff hS hb hi).mp ti
  have t2 := (thr_iff hS hb hj).mp tj
  have cH0 := crH_iff hS (show b < M by omega) hi hj t1.1 t2.1
  have cH1 := crH_iff hS hb hi hj t1.1 t2.1
  have E : ∀ x xd : Int, hgt D i x xd * ((D 2 j - D 0 j) * xd) - hgt D j x xd * ((D 2 i - D 0 i) * xd) = xd * crH D x xd i j := by
    intro x xd
    unfold crH
    grind
  refine ⟨by omega, by omega, s_X10_yAbove hl hat (by omega) x0.1 ⟨by omega, s_X10_yBelow hl hat (by omega) (by omega) ⟨by omega, by omega, s_X10_yAbove hl hat (by omega) x0.1 ⟨by omega, s_X10_yBelow hl hat (by omega) (by omega) ?_⟩⟩⟩⟩
  rw [ei, ej]
  refine s_X10_against (ag_b hl (by omega) (by omega) x0.1) (ag_b hl (by omega) (by omega) x0.1) (by decide) ?_
  rw [E, sgn_mul x0.2.1.1]
  have s0 := sgn_iff (crH D (g b).1 (g b).2 i j)
  refine ⟨fun z => ⟨by omega, ?_⟩, fun z => hp _ ?_⟩
  · rintro _ rfl
    refine ⟨by omega, ?_⟩
    rintro _ rfl
    refine s_X10_yAbove hl hat (by omega) x1.1 (s_X10_yBelow hl hat (by omega) (by omega) (s_X10_yAbove hl hat (by omega) x1.1 (s_X10_yBelow hl hat (by omega) (by omega) ?_)))
    rw [ei, ej]
    refine s_X10_against (ag_b hl (by omega) (by omega) x1.1) (ag_b hl (by omega) (by omega) x1.1) (by decide) (hp _ ?_)
    rw [E, sgn_mul x1.2.1.1]
    have s1 := sgn_iff (crH D (g (b + 1)).1 (g (b + 1)).2 i j)
    rw [s1.1, s1.2.1, cH1.1, cH1.2.1, cm.1, cm.2.1]
    rw [s0.2.1, cH0.2.1] at z
    omega
  · rw [s0.1, s0.2.1, cH0.1, cH0.2.1, cm.1, cm.2.1]
    rw [s0.2.1, cH0.2.1] at z
    omega
theorem s_X10_cut {s : Sg} {D : Nat → Nat → Int} {n m M b C0 : Nat} {f : Nat → Int × Int × Int × Int} {g : Nat → Int × Int} {post : Sg → Prop} (hS : Swp D n m f M g) (hb : b + 1 < M) (hn : s 68 0 = (n : Int)) (hat : LnAt s 69 (n : Int) D) (hx0 : s 83 (b + 1) = (g b).1 ∧ s 84 (b + 1) = (g b).2) (hx1 : s 83 (b + 2) = (g (b + 1)).1 ∧ s 84 (b + 2) = (g (b + 1)).2) (hC : s 68 23 = (C0 : Int)) (hc7 : C0 + 11 ≤ 900)
    (hp : ∀ t u : Sg, (∀ c, c ≠ 90 → t c = s c) → CSt 68 23 86 87 88 t u C0 (b + 1) (loG D g n b) (hiG D g n b) (gcN D g n b + 1) → post u) : w_X10_cut s ((b + 1 : Nat) : Int) post := by
  unfold w_X10_cut
  have hn10 := hS.1.1
  have hM := hS.2.2.2.2
  have x0 := sw_x hS (show b < M by omega)
  have x1 := sw_x hS hb
  have fr : ∀ t : Sg, t 68 0 = s 68 0 → (∀ c, c ≠ 68 → c ≠ 86 → c ≠ 87 → c ≠ 88 → c ≠ 90 → t c = s c) → t 68 0 = (n : Int) ∧ LnAt t 69 (n : Int) D ∧ (t 83 (b + 1) = (g b).1 ∧ t 84 (b + 1) = (g b).2) ∧ (t 83 (b + 2) = (g (b + 1)).1 ∧ t 84 (b + 2) = (g (b + 1)).2) := by
    intro t h0 ho
    refine ⟨by rw [h0]; exact hn, fun i hi => ?_, by rw [ho 83 (by omega) (by omega) (by omega) (by omega) (by omega), ho 84 (by omega) (by omega) (by omega) (by omega) (by omega)]; exact hx0, by rw [ho 83 (by omega) (by omega) (by omega) (by omega) (by omega), ho 84 (by omega) (by omega) (by omega) (by omega) (by omega)]; exact hx1⟩
    rw [ho 69 (by omega) (by omega) (by omega) (by omega) (by omega), ho (69 + 1) (by omega) (by omega) (by omega) (by omega) (by omega), ho (69 + 2) (by omega) (by omega) (by omega) (by omega) (by omega), ho (69 + 3) (by omega) (by omega) (by omega) (by omega) (by omega)]
    exact hat i hi
  have e1 : w32 (((b + 1 : Nat) : Int) + 1) = ((b + 2 : Nat) : Int) := by rw [w32_id (show ok32 (((b + 1 : Nat) : Int) + 1) from ⟨by omega, by omega⟩)]; omega
  rw [e1]
  clear e1
  refine lr_2s (fun v2 v3 t => ∃ i : Nat, v3 = (i : Int) ∧ i ≤ n ∧ v2 = (cntN (thrB D g b) i : Int) ∧ (∀ c, c ≠ 90 → t c = s c) ∧ ∀ j, j < cntN (thrB D g b) i → t 90 j = (rowN (gtB D (g b).1 (g b).2) (thrB D g b) i j : Int)) (fun _ v3 _ => ((n : Int) - v3).toNat) ?_ 0 0 s ⟨0, rfl, Nat.zero_le _, rfl, fun _ _ => rfl, fun j hj => absurd hj (Nat.not_lt_zero _)⟩
  rintro again _ _ t ⟨i, rfl, hi, rfl, to, tr⟩ ih
  obtain ⟨tn, tat, tx0, tx1⟩ := fr t (by rw [to 68 (by omega)]) (fun c _ _ _ _ h5 => to c h5)
  rw [tn]
  refine ⟨fun c => ?_, fun c => ?_⟩
  · have e : i = n := by omega
    subst e
    clear ih
    have hN : cntN (thrB D g b) i = rwC D g i b := rfl
    have hr : ∀ j, j < rwC D g i b → t 90 j = (rwF D g i b j : Int) := tr
    have r10 := rw_10 (g := g) (b := b) hS.1
    have g10 := gc_le (g := g) (b := b) hS.1
    rw [hN]
    refine lr_2s (fun low v4 u => ∃ k K : Nat, v4 = (k : Int) ∧ k ≤ rwC D g i b ∧ (k = 0 → K = 0) ∧ (k ≠ 0 → K = gq D g i b (k - 1) + 1) ∧ (k < rwC D g i b → gq D g i b k = K) ∧ K ≤ gcN D g i b ∧ low = loG D g i b K ∧ CSt 68 23 86 87 88 t u C0 (b + 1) (loG D g i b) (hiG D g i b) K) (fun _ v4 _ => ((rwC D g i b : Int) - v4).toNat) ?_ 0 0 t ⟨0, 0, rfl, Nat.zero_le _, fun _ => rfl, fun z => absurd rfl z, fun _ => rfl, Nat.zero_le _, (bG_0 (by omega) fun i _ => by rw [beq_iff_eq]; omega).symm, CSt_0 (by rw [to 68 (by omega)]; exact hC)⟩
    rintro again2 _ _ u ⟨k, K, rfl, hk, hK0, hK1, hK2, hK3, rfl, hCS⟩ ih2
    refine ⟨fun q => ?_, fun q => ?_⟩
    · have e : k = rwC D g i b := by omega
      have eK : gcN D g i b = K := by
        unfold gcN
        by_cases z : k = 0
        · rw [if_pos (by omega), hK0 z]
        · rw [if_neg (by omega), ← e, hK1 z]
      rw [eK] at hp
      refine s_X10_addCell hCS (by omega) rfl rfl ?_ fun w hw => hp t w to hw
      refine (bG_0 (by omega) fun k hk => ?_).symm
      rw [beq_iff_eq]
      have := gq_lt (g := g) (b := b) (D := D) hk
      omega
    · have hkN : k < rwC D g i b := by omega
      have gk := hK2 hkN
      obtain ⟨pk1, pk2⟩ := rw_lt hkN
      have u90 : ∀ j, j < rwC D g i b → u 90 j = (rwF D g i b j : Int) := fun j hj => by rw [hCS.1 90 (by omega) (by omega) (by omega) (by omega)]; exact hr j hj
      refine ⟨by omega, ?_⟩
      rw [Int.toNat_natCast, u90 k hkN]
      rintro _ rfl
      refine ⟨by omega, ?_⟩
      rintro _ rfl v4 ev4
      rw [w32_id (show ok32 ((k : Int) + 1) from ⟨by omega, by omega⟩), show (k : Int) + 1 = ((k + 1 : Nat) : Int) by omega] at ev4
      rw [ev4]
      clear ev4
      have hout : ∀ k', k < k' → k' ≤ rwC D g i b → (∀ x, k ≤ x → x < k' → gq D g i b x = K) → (k' < rwC D g i b → gq D g i b k' = K + 1) → w_X10_addCell u ((b + 1 : Nat) : Int) (loG D g i b K) (bG (fun x => decide (k ≤ x) && decide (x < k')) (rwF D g i b) (rwC D g i b) i) (fun s_19 => again2 (bG (fun x => decide (k ≤ x) && decide (x < k')) (rwF D g i b) (rwC D g i b) i) (k' : Int) s_19) := by
        intro k' h1 h2 h3 h4
        have eS : bG (fun x => decide (k ≤ x) && decide (x < k')) (rwF D g i b) (rwC D g i b) i = hiG D g i b K := by
          refine bG_congr fun x hx => ?_
          rw [Bool.eq_iff_iff, Bool.and_eq_true, decide_eq_true_iff, decide_eq_true_iff, beq_iff_eq]
          refine ⟨fun y => h3 x y.1 y.2, fun y => ⟨?_, ?_⟩⟩
          · apply Decidable.byContradiction
            intro z
            have := gq_mono D g i b (show x ≤ k - 1 by omega)
            have := hK1 (by omega)
            omega
          · apply Decidable.byContradiction
            intro z
            have := gq_mono D g i b (show k' ≤ x by omega)
            have := h4 (by omega)
            omega
        have kc : K < gcN D g i b := by have := gq_lt (g := g) (b := b) (D := D) hkN; omega
        refine s_X10_addCell hCS (by omega) rfl rfl eS fun w hw => ?_
        refine ih2 _ _ _ ⟨k', K + 1, rfl, h2, fun z => by omega, fun _ => ?_, h4, by omega, ?_, hw⟩ (by omega)
        · rw [h3 (k' - 1) (by omega) (by omega)]
        · rw [eS]
          refine bG_congr fun x hx => ?_
          rw [Bool.eq_iff_iff, beq_iff_eq, beq_iff_eq]
          omega
      refine lr_2 (fun v4 v5 => ∃ k' : Nat, v4 = (k' : Int) ∧ k < k' ∧ k' ≤ rwC D g i b ∧ (∀ x, k ≤ x → x < k' → gq D g i b x = K ∧ cmpT D (g b).1 (g b).2 (rwF D g i b k) (rwF D g i b x) = 0) ∧ v5 = bG (fun x => decide (k ≤ x) && decide (x < k')) (rwF D g i b) (rwC D g i b) i) (fun v4 _ => ((rwC D g i b : Int) - v4).toNat) ?_ _ _ ⟨k + 1, rfl, by omega, by omega, fun x h1 h2 => ?_, ?_⟩
      · rintro again3 _ _ ⟨k', rfl, hkk, hk', hin, rfl⟩ ih3
        unfold jn
        refine ⟨fun z => hout k' hkk hk' (fun x h1 h2 => (hin x h1 h2).1) (fun z2 => by omega), fun z => ⟨by omega, ?_⟩⟩
        have hk'N : k' < rwC D g i b := by omega
        obtain ⟨pk3, pk4⟩ := rw_lt hk'N
        obtain ⟨k1, rfl⟩ : ∃ k1, k' = k1 + 1 := ⟨k' - 1, by omega⟩
        obtain ⟨pk5, pk6⟩ := rw_lt (g := g) (b := b) (D := D) (n := i) (k := k1) (by omega)
        obtain ⟨g1, g2⟩ := hin k1 (by omega) (by omega)
        obtain ⟨un, uat, ux0, ux1⟩ := fr u (by rw [hCS.2.1 0 (by omega), to 68 (by omega)]) (fun c h1 h2 h3 h4 h5 => by rw [hCS.1 c h1 h2 h3 h4, to c h5])
        rw [Int.toNat_natCast, u90 _ hk'N]
        refine s_agT hS hb uat ux0 ux1 pk1 pk3 pk2 pk4 fun r21 e21 => ?_
        have egq := gq_s D g i b k1
        unfold eqB at egq
        have c1 := (cmpT_thr hS hb pk1 pk3 pk2 pk4).2.1
        have c2 := (cmpT_thr hS hb pk1 pk5 pk2 pk6).2.1
        have c3 := (cmpT_thr hS hb pk5 pk3 pk6 pk4).2.1
        have key : cmpT D (g b).1 (g b).2 (rwF D g i b k1) (rwF D g i b (k1 + 1)) = 0 ↔ cmpT D (g b).1 (g b).2 (rwF D g i b k) (rwF D g i b (k1 + 1)) = 0 := by
          rw [c3, c1]
          have := c2.mp g2
          omega
        refine ⟨fun z2 => ?_, fun z2 => ⟨by omega, ?_⟩⟩
        · refine hout (k1 + 1) hkk hk' (fun x h1 h2 => (hin x h1 h2).1) fun _ => ?_
          rw [egq, if_neg (fun y => z2 (e21.2.mpr (key.mp (of_decide_eq_true y)))), g1]
        · have z3 := e21.2.mp z2
          rw [if_pos (decide_eq_true (key.mpr z3)), g1] at egq
          rintro _ rfl v4 e4
          rw [e4, w32_id (show ok32 (((k1 + 1 : Nat) : Int) + 1) from ⟨by omega, by omega⟩), show ((k1 + 1 : Nat) : Int) + 1 = ((k1 + 1 + 1 : Nat) : Int) by omega]
          clear e4
          refine ih3 _ _ ⟨k1 + 1 + 1, rfl, by omega, by omega, fun x h1 h2 => ?_, ?_⟩ (by omega)
          · by_cases d : x = k1 + 1
            · subst d; exact ⟨egq, z3⟩
            · exact hin x h1 (by omega)
          · refine bG_add (by omega) hk'N pk3 fun x _ => ?_
            rw [Bool.and_eq_true, Bool.and_eq_true, decide_eq_true_iff, decide_eq_true_iff, decide_eq_true_iff]
            omega
      · have : x = k := by omega
        subst this
        refine ⟨gk, ?_⟩
        have := cmpT_sw D (g b).1 (g b).2 (rwF D g i b x) (rwF D g i b x)
        omega
      · rw [bit_one (n := i) (by omega) pk1]
        unfold bG
        refine bitsOf_congr fun x _ => ?_
        rw [Bool.eq_iff_iff, beq_iff_eq, decide_eq_true_iff]
        constructor
        · rintro rfl
          exact ⟨k, hkN, rfl, by rw [Bool.and_eq_true, decide_eq_true_iff, decide_eq_true_iff]; omega⟩
        · rintro ⟨y, _, e, z⟩
          rw [Bool.and_eq_true, decide_eq_true_iff, decide_eq_true_iff] at z
          have : y = k := by omega
          rw [← e, this]
  · have hi2 : i < n := by omega
    have b1 : ok32 ((i : Int) + 1) := ⟨by omega, by omega⟩
    have b2 : (i : Int) + 1 = ((i + 1 : Nat) : Int) := by omega
    have cs : cntN (thrB D g b) (i + 1) = if thrB D g b i = true then cntN (thrB D g b) i + 1 else cntN (thrB D g b) i := cntN_s _ _
    have rs : rowN (gtB D (g b).1 (g b).2) (thrB D g b) (i + 1) = if thrB D g b i = true then insN (rowN (gtB D (g b).1 (g b).2) (thrB D g b) i) (posN (gtB D (g b).1 (g b).2) (rowN (gtB D (g b).1 (g b).2) (thrB D g b) i) i (cntN (thrB D g b) i)) i else rowN (gtB D (g b).1 (g b).2) (thrB D g b) i := rowN_s _ _ _
    have nxt : ∀ (v : Int) (w : Sg), v = (cntN (thrB D g b) (i + 1) : Int) → (∀ c, c ≠ 90 → w c = s c) → (∀ j, j < cntN (thrB D g b) (i + 1) → w 90 j = (rowN (gtB D (g b).1 (g b).2) (thrB D g b) (i + 1) j : Int)) → ∀ v3, v3 = w32 ((i : Int) + 1) → again v v3 w := by
      rintro v w rfl k1 k2 v3 e3
      rw [e3, w32_id b1, b2]
      clear e3
      exact ih _ _ _ ⟨i + 1, rfl, by omega, rfl, k1, k2⟩ (by omega)
    have skip : ¬ thrB D g b i = true → ∀ v3, v3 = w32 ((i : Int) + 1) → again (cntN (thrB D g b) i : Int) v3 t := by
      intro z
      refine nxt _ t (by rw [cs, if_neg z]) to fun j hj => ?_
      rw [cs, if_neg z] at hj
      rw [rs, if_neg z]
      exact tr j hj
    obtain ⟨⟨l1, l2, l3, l4⟩, -⟩ := hS.1.2 i (by omega)
    obtain ⟨d1, d2, d3, d4⟩ := tat i (by omega)
    simp only [Nat.reduceAdd] at d1 d3
    have hthr : thrB D g b i = true ↔ (D 0 i ≠ D 2 i ∧ D 0 i * (g b).2 ≤ (g b).1 ∧ (g (b + 1)).1 ≤ D 2 i * (g (b + 1)).2) := by unfold thrB; exact decide_eq_true_iff
    refine s_upr hS.1 tat hi2 fun r25 e25 => ?_
    unfold jn
    refine ⟨fun z => skip fun w => ?_, fun z => ⟨by omega, by omega, by omega, ?_⟩⟩
    · rw [hthr] at w
      rcases e25 with e | e
      · exact w.1 e.2
      · exact z e.1
    · have hne : D 0 i ≠ D 2 i := by rcases e25 with e | e; omega; exact e.2
      rw [Int.toNat_natCast, Int.toNat_natCast, Int.toNat_natCast, d1, d3, tx0.1, tx0.2, tx1.1, tx1.2, (m40 l1 (show 0 ≤ (g b).2 ∧ (g b).2 ≤ 3200 by omega)).1, (m40 l3 (show 0 ≤ (g (b + 1)).2 ∧ (g (b + 1)).2 ≤ 3200 by omega)).1]
      refine ⟨fun z1 => skip fun w => ?_, fun z1 => ⟨by omega, by omega, by omega, fun z2 => ?_, fun z2 => skip fun w => ?_⟩⟩
      · rw [hthr] at w; omega
      · have ht : thrB D g b i = true := hthr.mpr ⟨hne, by omega, z2⟩
        rw [if_pos ht] at cs rs
        have hck := cntN_le (thrB D g b) i
        have hrl := rowN_lt (gtB D (g b).1 (g b).2) (thrB D g b) i
        generalize rowN (gtB D (g b).1 (g b).2) (thrB D g b) i = r at *
        generalize cntN (thrB D g b) i = k at *
        refine lr_1s (fun a t2 => ∃ a' : Nat, a = (a' : Int) ∧ InsI 90 t t2 (gtB D (g b).1 (g b).2) r i k a') (fun a _ => a.toNat) ?_ _ _ ⟨k, rfl, Nat.le_refl _, rfl, fun _ _ => rfl, fun j hj => tr j hj, fun j h1 h2 => by omega⟩
        rintro again2 _ t2 ⟨a, rfl, hI⟩ ih2
        have hI1 := hI.1
        have fin : posN (gtB D (g b).1 (g b).2) r i a = a → (0 ≤ (a : Int) ∧ (a : Int) < 10) ∧ ∀ s_41, s_41 = up t2 90 (a : Int).toNat (i : Int) → ∀ v2, v2 = w32 ((k : Int) + 1) → ∀ v3, v3 = w32 ((i : Int) + 1) → again v2 v3 s_41 := by
          intro hq
          refine ⟨by omega, ?_⟩
          rintro _ rfl v2 e2
          obtain ⟨g1, g2⟩ := InsI_end hI hq
          rw [w32_id (show ok32 ((k : Int) + 1) from ⟨by omega, by omega⟩)] at e2
          rw [Int.toNat_natCast]
          refine nxt _ _ (by rw [e2, cs]; omega) (fun c hc => by rw [g1 c hc, to c hc]) fun j hj => ?_
          rw [rs]
          exact g2 j (by omega)
        refine ⟨fun c => fin ?_, fun c => ?_⟩
        · have : a = 0 := by omega
          subst this
          rfl
        · obtain ⟨a, rfl⟩ : ∃ b, a = b + 1 := ⟨a - 1, by omega⟩
          have b7 : ((a + 1 : Nat) : Int) - 1 = (a : Int) := by omega
          have b8 : ok32 (((a + 1 : Nat) : Int) - 1) := ⟨by omega, by omega⟩
          have b9 : ok32 (((a + 1 : Nat) : Int) + (-1)) := ⟨by omega, by omega⟩
          have b10 : ((a + 1 : Nat) : Int) + (-1) = (a : Int) := by omega
          have b5 : (a : Int).toNat < ((a + 1 : Nat) : Int).toNat := by omega
          have ht90 : t2 90 a = (r a : Int) := hI.2.2.2.1 a (by omega)
          have hra := hrl a (by omega)
          obtain ⟨t2n, t2at, t2x0, t2x1⟩ := fr t2 (by rw [hI.2.2.1 68 (by omega), to 68 (by omega)]) (fun c _ _ _ _ hc => by rw [hI.2.2.1 c hc, to c hc])
          rw [w32_id b8, b7, Int.toNat_natCast, ht90]
          refine ⟨by omega, s_agT hS hb t2at t2x0 t2x1 hi2 (show r a < n by omega) ht hra.2 fun r44 e44 => ?_⟩
          have cs2 := cmpT_sw D (g b).1 (g b).2 i (r a)
          have hgt2 : gtB D (g b).1 (g b).2 (r a) i = true ↔ r44 < 0 := by
            unfold gtB
            rw [decide_eq_true_iff, e44.1, cs2.1]
          refine ⟨fun c3 => fin (posN_stop fun y => ?_), fun c3 => ⟨by omega, by omega, ?_⟩⟩
          · have := hgt2.mp y; omega
          · rintro _ rfl _ rfl
            rw [Int.toNat_natCast, w32_id b9, b10]
            have gg := InsI_go hI (hgt2.mpr (by omega))
            rw [ht90] at gg
            exact ih2 _ _ ⟨a, rfl, gg⟩ b5
      · rw [hthr] at w; omega
