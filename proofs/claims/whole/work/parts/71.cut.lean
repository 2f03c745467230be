/-! the class cuts slabs into cells -/
theorem s_X6_addCells {s : Sg} {D : Nat → Nat → Int} {n m M b C0 : Nat} {f : Nat → Int × Int × Int × Int} {g : Nat → Int × Int} {post : Sg → Prop} (hS : Swp D n m f M g) (hb : b + 1 < M) (hat : LnAt s 2 (n : Int) D) (hR : RowAt s 35 0 36 D (g b).1 (g b).2 (-1) n) (hH : ∀ i, i < n → thereB D (g b).1 (g b).2 (-1) i = true → s 37 i = hgt D i (g b).1 (g b).2) (hx : s 39 (b + 1) = (g (b + 1)).1 ∧ s 40 (b + 1) = (g (b + 1)).2) (hC : s 38 1 = (C0 : Int)) (hc7 : C0 + 11 ≤ 726)
    (hp : ∀ u : Sg, CSt 38 1 42 43 44 s u C0 (b + 1) (loG D g n b) (hiG D g n b) (gcN D g n b + 1) → post u) : w_X6_addCells s ((b + 1 : Nat) : Int) post := by
  unfold w_X6_addCells
  have hn10 := hS.1.1
  have hM := hS.2.2.2.2
  obtain ⟨fl1, fl2⟩ := flt_row hS hb
  have rl := rowN_lt (gtB D (g b).1 (g b).2) (thereB D (g b).1 (g b).2 (-1)) n
  have cl := cntN_le (thereB D (g b).1 (g b).2 (-1)) n
  obtain ⟨hR1, hR2⟩ := hR
  generalize hRd : rowN (gtB D (g b).1 (g b).2) (thereB D (g b).1 (g b).2 (-1)) n = R at *
  generalize cntN (thereB D (g b).1 (g b).2 (-1)) n = N at *
  have r10 := rw_10 (g := g) (b := b) hS.1
  refine lr_4s (fun v4 v5 v6 v7 u => ∃ j : Nat, v7 = (j : Int) ∧ j ≤ N ∧ CSt 38 1 42 43 44 s u C0 (b + 1) (loG D g n b) (hiG D g n b) (if cntN (fun j => thrB D g b (R j)) j = 0 then 0 else gq D g n b (cntN (fun j => thrB D g b (R j)) j - 1)) ∧ (cntN (fun j => thrB D g b (R j)) j = 0 → v4 = 0 ∧ v5 = 0 ∧ v6 = -1) ∧ (cntN (fun j => thrB D g b (R j)) j ≠ 0 → v6 = (rwF D g n b (cntN (fun j => thrB D g b (R j)) j - 1) : Int) ∧ v5 = bG (fun k => decide (k < cntN (fun j => thrB D g b (R j)) j) && gq D g n b k == gq D g n b (cntN (fun j => thrB D g b (R j)) j - 1)) (rwF D g n b) (rwC D g n b) n ∧ v4 = loG D g n b (gq D g n b (cntN (fun j => thrB D g b (R j)) j - 1)))) (fun _ _ _ v7 _ => ((N : Int) - v7).toNat) ?_ 0 0 (-1) 0 s ⟨0, rfl, Nat.zero_le _, CSt_0 hC, fun _ => ⟨rfl, rfl, rfl⟩, fun z => absurd rfl z⟩
  rintro again v4 v5 v6 _ u ⟨j, rfl, hj, hCS, hk0, hk1⟩ ih
  have uo := hCS.1
  have e35 : u 35 0 = (N : Int) := by rw [uo 35 (by omega) (by omega) (by omega) (by omega)]; exact hR1
  rw [e35]
  have K0 : C0 + (if cntN (fun j => thrB D g b (R j)) j = 0 then 0 else gq D g n b (cntN (fun j => thrB D g b (R j)) j - 1)) < 726 ∧ cntN (fun j => thrB D g b (R j)) j ≤ 10 := by
    have a1 := gq_le D g n b (cntN (fun j => thrB D g b (R j)) j - 1)
    have a2 := cntN_le (fun j => thrB D g b (R j)) j
    split <;> omega
  refine ⟨fun c => ?_, fun c => ⟨by omega, fun v8 e8 => ⟨by omega, by omega, ?_⟩⟩⟩
  · have e : j = N := by omega
    subst e
    rw [fl1] at hCS hk0 hk1 K0
    unfold jn
    by_cases z : rwC D g n b = 0
    · obtain ⟨rfl, rfl, rfl⟩ := hk0 z
      rw [if_pos z] at hCS
      have eg : gcN D g n b = 0 := by unfold gcN; rw [if_pos z]
      rw [eg] at hp
      refine ⟨fun _ => s_X6_addCell hCS (by omega) rfl ?_ ?_ fun w hw => hp w hw, fun q => absurd rfl q⟩
      · exact (bG_0 (by omega) fun k hk => by omega).symm
      · exact (bG_0 (by omega) fun k hk => by omega).symm
    · obtain ⟨rfl, rfl, rfl⟩ := hk1 z
      rw [if_neg z] at hCS
      have eg : gcN D g n b = gq D g n b (rwC D g n b - 1) + 1 := by unfold gcN; rw [if_neg z]
      rw [eg] at hp
      have gl := gq_le D g n b (rwC D g n b - 1)
      refine ⟨fun q => by omega, fun _ => s_X6_addCell hCS (by omega) rfl rfl ?_ fun w hw => s_X6_addCell hw (by omega) rfl ?_ ?_ fun w2 hw2 => hp w2 hw2⟩
      · refine bG_congr fun k hk => ?_
        rw [decide_eq_true hk, Bool.true_and]
      · refine bG_congr fun k hk => ?_
        rw [decide_eq_true hk, Bool.true_and, Bool.eq_iff_iff, beq_iff_eq, beq_iff_eq]
        omega
      · refine (bG_0 (by omega) fun k hk => ?_).symm
        rw [beq_iff_eq]
        have := gq_lt (g := g) (b := b) (D := D) hk
        omega
  · have hjN : j < N := by omega
    have b1 : ok32 ((j : Int) + 1) := ⟨by omega, by omega⟩
    have b2 : (j : Int) + 1 = ((j + 1 : Nat) : Int) := by omega
    obtain ⟨q1, q2⟩ := rl j hjN
    rw [uo 36 (by omega) (by omega) (by omega) (by omega), Int.toNat_natCast, hR2 j hjN] at e8
    subst e8
    have cs : cntN (fun j => thrB D g b (R j)) (j + 1) = if thrB D g b (R j) = true then cntN (fun j => thrB D g b (R j)) j + 1 else cntN (fun j => thrB D g b (R j)) j := cntN_s _ _
    obtain ⟨⟨l1, l2, l3, l4⟩, -⟩ := hS.1.2 (R j) (by omega)
    obtain ⟨d1, d2, d3, d4⟩ := hat (R j) (by omega)
    simp only [Nat.reduceAdd] at d1 d2 d3 d4
    have x1 := sw_x hS hb
    have hat' : LnAt u 2 (n : Int) D := fun i hi => by
      rw [uo 2 (by omega) (by omega) (by omega) (by omega), uo (2 + 1) (by omega) (by omega) (by omega) (by omega), uo (2 + 2) (by omega) (by omega) (by omega) (by omega), uo (2 + 3) (by omega) (by omega) (by omega) (by omega)]
      exact hat i hi
    refine s_X2_reaches (c0 := 1) (by omega) (by rw [Int.toNat_natCast]; simp only [Nat.reduceAdd]; rw [uo 2 (by omega) (by omega) (by omega) (by omega), d1]; exact l1) (by rw [Int.toNat_natCast]; simp only [Nat.reduceAdd]; rw [uo 4 (by omega) (by omega) (by omega) (by omega), d3]; exact l3) (by rw [Int.toNat_natCast, uo 40 (by omega) (by omega) (by omega) (by omega), hx.2]; omega) fun r15 e15 => ?_
    rw [Int.toNat_natCast, Int.toNat_natCast] at e15
    simp only [Nat.reduceAdd] at e15
    rw [uo 2 (by omega) (by omega) (by omega) (by omega), uo 4 (by omega) (by omega) (by omega) (by omega), d1, d3, uo 39 (by omega) (by omega) (by omega) (by omega), uo 40 (by omega) (by omega) (by omega) (by omega), hx.1, hx.2] at e15
    have hth : thrB D g b (R j) = true ↔ (D 0 (R j) * (g (b + 1)).2 ≤ (g (b + 1)).1 ∧ (g (b + 1)).1 ≤ D 2 (R j) * (g (b + 1)).2) := by
      rw [thr_iff hS hb q1, (rch_iff hS hb _).1, (rch_iff hS hb _).2]
      unfold thereB at q2
      rw [decide_eq_true_iff, (rch_iff hS (show b < M by omega) _).1, (rch_iff hS (show b < M by omega) _).2] at q2
      have x := XX_lt hS (show b < b + 1 by omega) hb
      have hl := (hS.1.2 (R j) (by omega)).2
      omega
    rw [← hth] at e15
    have nxt : ∀ (w4 w5 w6 : Int) (w : Sg), CSt 38 1 42 43 44 s w C0 (b + 1) (loG D g n b) (hiG D g n b) (if cntN (fun j => thrB D g b (R j)) (j + 1) = 0 then 0 else gq D g n b (cntN (fun j => thrB D g b (R j)) (j + 1) - 1)) → (cntN (fun j => thrB D g b (R j)) (j + 1) = 0 → w4 = 0 ∧ w5 = 0 ∧ w6 = -1) → (cntN (fun j => thrB D g b (R j)) (j + 1) ≠ 0 → w6 = (rwF D g n b (cntN (fun j => thrB D g b (R j)) (j + 1) - 1) : Int) ∧ w5 = bG (fun k => decide (k < cntN (fun j => thrB D g b (R j)) (j + 1)) && gq D g n b k == gq D g n b (cntN (fun j => thrB D g b (R j)) (j + 1) - 1)) (rwF D g n b) (rwC D g n b) n ∧ w4 = loG D g n b (gq D g n b (cntN (fun j => thrB D g b (R j)) (j + 1) - 1))) → ∀ v, v = w32 ((j : Int) + 1) → again w4 w5 w6 v w := by
      intro w4 w5 w6 w g1 g2 g3 v ev
      rw [ev, w32_id b1, b2]
      clear ev
      exact ih _ _ _ _ _ ⟨j + 1, rfl, by omega, g1, g2, g3⟩ (by omega)
    unfold jn
    refine ⟨fun c15 => ?_, fun c15 => ?_⟩
    · have kt : thrB D g b (R j) = true := by rcases e15 with e | e; exact e.2; exact absurd e.1 c15
      rw [if_pos kt] at cs
      obtain ⟨kl, ke⟩ := fl2 j hjN kt
      rw [cs] at nxt
      generalize hk : cntN (fun j => thrB D g b (R j)) j = k at *
      simp only [Nat.add_sub_cancel, if_neg (Nat.succ_ne_zero k)] at nxt
      refine ⟨fun z => ?_, fun z => ?_⟩
      · have hk00 : k = 0 := by
          apply Decidable.byContradiction
          intro q
          have := (hk1 q).1
          omega
        subst hk00
        obtain ⟨rfl, rfl, -⟩ := hk0 rfl
        rintro _ rfl
        rw [if_pos rfl] at hCS
        refine nxt _ _ _ u (by rw [gq_0]; exact hCS) (fun q => absurd q (by omega)) fun _ => ⟨by rw [ke], ?_, ?_⟩
        · have e0 : (0 : Int) = bG (fun _ => false) (rwF D g n b) (rwC D g n b) n := (bG_0 (by omega) fun _ _ => by decide).symm
          rw [e0, ← ke]
          refine bG_add (by omega) kl (by rw [ke]; exact q1) fun i _ => ?_
          rw [Bool.and_eq_true, decide_eq_true_iff, beq_iff_eq]
          refine ⟨fun y => Or.inr (by omega), fun y => ?_⟩
          rcases y with y | y
          · exact absurd y (by decide)
          · subst y; exact ⟨by omega, rfl⟩
        · exact (bG_0 (by omega) fun i _ => by rw [beq_iff_eq, gq_0]; omega).symm
      · have hk11 : k ≠ 0 := fun q => z (hk0 q).2.2
        obtain ⟨e6, e5, e4⟩ := hk1 hk11
        obtain ⟨k', rfl⟩ : ∃ k', k = k' + 1 := ⟨k - 1, by omega⟩
        rw [Nat.add_sub_cancel] at e6 e5 e4
        rw [if_neg hk11, Nat.add_sub_cancel] at hCS
        have pr := rw_lt (g := g) (b := b) (D := D) (n := n) (k := k') (by omega)
        have hth' : ∀ i, i < n → thrB D g b i = true → thereB D (g b).1 (g b).2 (-1) i = true := by
          intro i hi t
          rw [thr_iff hS hb hi] at t
          unfold thereB
          rw [decide_eq_true_iff, (rch_iff hS (show b < M by omega) _).1, (rch_iff hS (show b < M by omega) _).2]
          have x := XX_lt hS (show b < b + 1 by omega) hb
          exact ⟨by omega, by omega, t.2.1, by omega⟩
        have h37 : u 37 = s 37 := uo 37 (by omega) (by omega) (by omega) (by omega)
        have x0 := sw_x hS (show b < M by omega)
        rw [e6, ← ke]
        rw [← ke] at kt q1 q2
        refine s_X7_compareTwo (n := (n : Int)) (x := (g b).1) (xd := (g b).2) hS.1 hat' (by omega) (by omega) x0.1 (by rw [Int.toNat_natCast, h37]; exact hH _ pr.1 (hth' _ pr.1 pr.2)) (by rw [Int.toNat_natCast, h37]; exact hH _ q1 q2) ?_
        rw [Int.toNat_natCast, Int.toNat_natCast]
        have egq := gq_s D g n b k'
        unfold eqB at egq
        refine ⟨fun z27 => ?_, fun z27 => ?_⟩
        · rw [if_pos (decide_eq_true z27)] at egq
          rintro _ rfl
          refine nxt _ _ _ u (by rw [egq]; exact hCS) (fun q => absurd q (by omega)) fun _ => ⟨rfl, ?_, by rw [egq]; exact e4⟩
          rw [e5]
          refine bG_add (by omega) kl q1 fun i hi => ?_
          rw [Bool.and_eq_true, Bool.and_eq_true, decide_eq_true_iff, decide_eq_true_iff, beq_iff_eq, beq_iff_eq, egq]
          constructor
          · intro y
            by_cases d : i = k' + 1
            · exact Or.inr d
            · exact Or.inl ⟨by omega, y.2⟩
          · rintro (y | y)
            · exact ⟨by omega, y.2⟩
            · subst y; exact ⟨by omega, egq⟩
        · rw [if_neg (fun y => z27 (of_decide_eq_true y))] at egq
          rw [if_neg hk11, Nat.add_sub_cancel] at K0
          refine s_X6_addCell hCS K0.1 rfl e4 ?_ fun w hw => ?_
          · rw [e5]
            refine bG_congr fun i hi => ?_
            rw [Bool.eq_iff_iff, Bool.and_eq_true, decide_eq_true_iff, beq_iff_eq]
            refine ⟨fun y => y.2, fun y => ⟨?_, y⟩⟩
            apply Decidable.byContradiction
            intro d
            have := gq_mono D g n b (show k' + 1 ≤ i by omega)
            omega
          · rintro _ rfl
            refine nxt _ _ _ w (by rw [egq]; exact hw) (fun q => absurd q (by omega)) fun _ => ⟨rfl, ?_, ?_⟩
            · have e0 : (0 : Int) = bG (fun _ => false) (rwF D g n b) (rwC D g n b) n := (bG_0 (by omega) fun _ _ => by decide).symm
              rw [e0]
              refine bG_add (by omega) kl q1 fun i _ => ?_
              rw [Bool.and_eq_true, decide_eq_true_iff, beq_iff_eq]
              constructor
              · intro y
                refine Or.inr ?_
                apply Decidable.byContradiction
                intro d
                have := gq_mono D g n b (show i ≤ k' by omega)
                omega
              · rintro (y | y)
                · exact absurd y (by decide)
                · subst y; exact ⟨by omega, rfl⟩
            · rw [e5]
              unfold loG
              refine bG_congr fun i hi => ?_
              rw [Bool.eq_iff_iff, Bool.and_eq_true, decide_eq_true_iff, beq_iff_eq, beq_iff_eq, egq]
              refine ⟨fun y => by omega, fun y => ⟨?_, by omega⟩⟩
              apply Decidable.byContradiction
              intro d
              have := gq_mono D g n b (show k' + 1 ≤ i by omega)
              omega
    · have kt : ¬ thrB D g b (R j) = true := by rcases e15 with e | e; omega; exact e.2
      rw [if_neg kt] at cs
      rw [cs] at nxt
      exact nxt _ _ _ u hCS hk0 hk1
/-- slabs and cells, as the class keeps them -/
def SlAt (t : Sg) (D : Nat → Nat → Int) (n M : Nat) (g : Nat → Int × Int) : Prop := t 38 0 = (M : Int) ∧ t 38 1 = (fC D g n M (M + 1) : Int) ∧ (∀ b, b < M → t 39 b = (g b).1 ∧ t 40 b = (g b).2) ∧ (∀ s, s ≤ M + 1 → t 41 s = (fC D g n M s : Int)) ∧ ∀ s, s ≤ M → ∀ q, q < nC D g n M s → t 42 (fC D g n M s + q) = (s : Int) ∧ t 43 (fC D g n M s + q) = loS D g n M s q ∧ t 44 (fC D g n M s + q) = hiS D g n M s q
theorem s_X6_cut {s : Sg} {D : Nat → Nat → Int} {n m : Nat} {f : Nat → Int × Int × Int × Int} {post : Sg → Prop} (h : LsD D (n : Int)) (hn : s 1 0 = (n : Int)) (hat : LnAt s 2 (n : Int) D) (hP : PtsOf D n f m) (hm : m ≤ 65) (hsz : s 16 0 = (m : Int)) (hpt : PtAt s 17 18 19 20 m f)
    (hp : ∀ (t : Sg) (g : Nat → Int × Int) (M : Nat), (∀ c, (c < 35 ∨ 44 < c) → t c = s c) → Swp D n m f M g → SlAt t D n M g → post t) : w_X6_cut s post := by
  unfold w_X6_cut
  refine s_X6_findXs hP hm hsz hpt fun t1 g M o1 hX hM65 h0 hxs => ?_
  have hS : Swp D n m f M g := ⟨h, hP, hm, hX, hM65⟩
  rintro _ rfl
  have f66 := fC_le (g := g) (M := M) h
  refine lr_1s (fun v t => ∃ k : Nat, v = (k : Int) ∧ k ≤ M + 1 ∧ (∀ c, (c < 35 ∨ 44 < c) → t c = s c) ∧ t 38 0 = (M : Int) ∧ t 38 1 = (fC D g n M k : Int) ∧ (∀ b, b < M → t 39 b = (g b).1 ∧ t 40 b = (g b).2) ∧ (∀ s, s < k → t 41 s = (fC D g n M s : Int)) ∧ ∀ s, s < k → ∀ q, q < nC D g n M s → t 42 (fC D g n M s + q) = (s : Int) ∧ t 43 (fC D g n M s + q) = loS D g n M s q ∧ t 44 (fC D g n M s + q) = hiS D g n M s q) (fun v _ => ((M : Int) + 1 - v).toNat) ?_ 0 _ ⟨0, rfl, Nat.zero_le _, fun c hc => by rw [up_ne _ _ _ (by omega), o1 c (by omega) (by omega) (by omega)], by rw [up_apply, if_neg (by omega)]; exact h0, by rw [up_apply, if_pos ⟨rfl, rfl⟩]; rfl, fun b hb => by rw [up_ne _ _ _ (by omega), up_ne _ _ _ (by omega)]; exact hxs b hb, fun s hs => absurd hs (Nat.not_lt_zero _), fun s hs => absurd hs (Nat.not_lt_zero _)⟩
  rintro again _ t ⟨k, rfl, hk, to, t0, t1', tx, t41, tc⟩ ih
  rw [t0]
  have b1 : ok32 ((k : Int) + 1) := ⟨by omega, by omega⟩
  have b2 : (k : Int) + 1 = ((k + 1 : Nat) : Int) := by omega
  refine ⟨fun c => ?_, fun c => ?_⟩
  · have e : k = M + 1 := by omega
    subst e
    rw [w32_id (show ok32 ((M : Int) + 1) from ⟨by omega, by omega⟩), show (M : Int) + 1 = ((M + 1 : Nat) : Int) by omega, Int.toNat_natCast, t1']
    refine ⟨by omega, ?_⟩
    rintro _ rfl
    refine hp _ g M (fun c hc => by rw [up_ne _ _ _ (by omega), to c hc]) hS ⟨by rw [up_ne _ _ _ (by omega)]; exact t0, by rw [up_ne _ _ _ (by omega)]; exact t1', fun b hb => by rw [up_ne _ _ _ (by omega), up_ne _ _ _ (by omega)]; exact tx b hb, fun s hs => ?_, fun s hs q hq => by rw [up_ne _ _ _ (by omega), up_ne _ _ _ (by omega), up_ne _ _ _ (by omega)]; exact tc s (by omega) q hq⟩
    rw [up_apply]
    by_cases e : s = M + 1
    · rw [if_pos ⟨rfl, e⟩, e]
    · rw [if_neg (fun z => e z.2)]
      exact t41 s (by omega)
  · have hkM : k ≤ M := by omega
    have fk := f66 k
    have nk := nC_le (g := g) (M := M) (s := k) h
    refine ⟨by omega, fun u eu => ?_⟩
    rw [Int.toNat_natCast, t1'] at eu
    have uo : ∀ c, c ≠ 41 → u c = t c := fun c hc => by rw [eu, up_ne _ _ _ hc]
    have u41 : ∀ s, s < k + 1 → u 41 s = (fC D g n M s : Int) := fun s hs => by
      rw [eu, up_apply]
      by_cases e : s = k
      · rw [if_pos ⟨rfl, e⟩, e]
      · rw [if_neg (fun z => e z.2)]
        exact t41 s (by omega)
    clear eu
    have u1 : u 38 1 = (fC D g n M k : Int) := by rw [uo 38 (by omega)]; exact t1'
    have fin : ∀ (w : Sg), (∀ c, c ≠ 35 → c ≠ 36 → c ≠ 37 → c ≠ 38 → c ≠ 42 → c ≠ 43 → c ≠ 44 → w c = u c) → (∀ o, o ≠ 1 → w 38 o = u 38 o) → w 38 1 = ((fC D g n M k + nC D g n M k : Nat) : Int) → (∀ j, j < fC D g n M k → w 42 j = u 42 j ∧ w 43 j = u 43 j ∧ w 44 j = u 44 j) → (∀ q, q < nC D g n M k → w 42 (fC D g n M k + q) = (k : Int) ∧ w 43 (fC D g n M k + q) = loS D g n M k q ∧ w 44 (fC D g n M k + q) = hiS D g n M k q) → ∀ v, v = w32 ((k : Int) + 1) → again v w := by
      intro w w1 w2 w3 w4 w5 v ev
      rw [ev, w32_id b1, b2]
      clear ev
      refine ih _ _ ⟨k + 1, rfl, by omega, fun c hc => by rw [w1 c (by omega) (by omega) (by omega) (by omega) (by omega) (by omega) (by omega), uo c (by omega), to c hc], by rw [w2 0 (by omega), uo 38 (by omega)]; exact t0, by rw [w3, fC_s], fun b hb => by rw [w1 39 (by omega) (by omega) (by omega) (by omega) (by omega) (by omega) (by omega), w1 40 (by omega) (by omega) (by omega) (by omega) (by omega) (by omega) (by omega), uo 39 (by omega), uo 40 (by omega)]; exact tx b hb, fun s hs => by rw [w1 41 (by omega) (by omega) (by omega) (by omega) (by omega) (by omega) (by omega)]; exact u41 s hs, fun s hs q hq => ?_⟩ (by omega)
      by_cases e : s = k
      · subst e
        exact w5 q hq
      · have lt : fC D g n M s + q < fC D g n M k := by
          have := fC_mono (D := D) (g := g) (n := n) (M := M) (show s + 1 ≤ k by omega)
          rw [fC_s] at this
          omega
        obtain ⟨x1, x2, x3⟩ := w4 _ lt
        rw [x1, x2, x3, uo 42 (by omega), uo 43 (by omega), uo 44 (by omega)]
        exact tc s (by omega) q hq
    have edge : (k = 0 ∨ M ≤ k) → w_X6_addCell u (k : Int) 0 0 (fun s_14 => ∀ v4_12, v4_12 = w32 ((k : Int) + 1) → again v4_12 s_14) := by
      intro z
      have en : nC D g n M k = 1 := by unfold nC; rw [if_pos z]
      refine s_X6_addCell (lo := loS D g n M k) (hi := hiS D g n M k) (CSt_0 u1) (by omega) rfl (by unfold loS; rw [if_pos z]) (by unfold hiS; rw [if_pos z]) fun w hw => ?_
      obtain ⟨w1, w2, w3, w4, w5⟩ := hw
      exact fin w (fun c k1 k2 k3 k4 k5 k6 k7 => w1 c k4 k5 k6 k7) w2 (by rw [w3, en]) w4 (fun q hq => w5 q (by omega))
    unfold jn
    have e38 : u 38 0 = (M : Int) := by rw [uo 38 (by omega)]; exact t0
    rw [e38]
    refine ⟨fun z => edge (by omega), fun z1 => ⟨fun z2 => ?_, fun z => edge (by omega)⟩⟩
    obtain ⟨b, rfl⟩ : ∃ b, k = b + 1 := ⟨k - 1, by omega⟩
    have hb : b + 1 < M := by omega
    have e1 : w32 (((b + 1 : Nat) : Int) - 1) = (b : Int) := by rw [w32_id (show ok32 (((b + 1 : Nat) : Int) - 1) from ⟨by omega, by omega⟩)]; omega
    have ub := tx b (by omega)
    have uc := tx (b + 1) hb
    rw [e1, Int.toNat_natCast, uo 39 (by omega), uo 40 (by omega), ub.1, ub.2]
    have uat : LnAt u 2 (n : Int) D := fun i hi => by
      rw [uo 2 (by omega), uo (2 + 1) (by omega), uo (2 + 2) (by omega), uo (2 + 3) (by omega), to 2 (by omega), to (2 + 1) (by omega), to (2 + 2) (by omega), to (2 + 3) (by omega)]
      exact hat i hi
    refine ⟨by omega, by omega, s_X7_stand h (by rw [uo 1 (by omega), to 1 (by omega)]; exact hn) uat (sw_x hS (show b < M by omega)).1 fun w wo wR wH => ?_⟩
    rw [Int.toNat_natCast] at wR wH
    have en : nC D g n M (b + 1) = gcN D g n b + 1 := by unfold nC; rw [if_neg (by omega), Nat.add_sub_cancel]
    refine s_X6_addCells (C0 := fC D g n M (b + 1)) hS hb (fun i hi => by rw [wo 2 (by omega) (by omega) (by omega), wo (2 + 1) (by omega) (by omega) (by omega), wo (2 + 2) (by omega) (by omega) (by omega), wo (2 + 3) (by omega) (by omega) (by omega)]; exact uat i hi) wR wH (by rw [wo 39 (by omega) (by omega) (by omega), wo 40 (by omega) (by omega) (by omega), uo 39 (by omega), uo 40 (by omega)]; exact uc) (by rw [wo 38 (by omega) (by omega) (by omega)]; exact u1) (by omega) fun x hx => ?_
    obtain ⟨x1, x2, x3, x4, x5⟩ := hx
    refine fin x (fun c k1 k2 k3 k4 k5 k6 k7 => by rw [x1 c k4 k5 k6 k7, wo c k1 k2 k3]) (fun o k1 => by rw [x2 o k1, wo 38 (by omega) (by omega) (by omega)]) (by rw [x3, en]) (fun j hj => ?_) (fun q hq => ?_)
    · rw [(x4 j hj).1, (x4 j hj).2.1, (x4 j hj).2.2, wo 42 (by omega) (by omega) (by omega), wo 43 (by omega) (by omega) (by omega), wo 44 (by omega) (by omega) (by omega)]
      exact ⟨rfl, rfl, rfl⟩
    · rw [en] at hq
      unfold loS hiS
      rw [if_neg (by omega), if_neg (by omega), Nat.add_sub_cancel]
      exact x5 q hq
