/-! slab, cell, face -/
theorem T_slab {s : Sg} {a k : Int} (hI : Inv s) : w_X9_slab s a k (fun r1 s1 => w_X10_slab s1 a k (fun r2 s2 => r1 = r2 ∧ Inv s2)) := by
  have bad : ¬ (0 ≤ k ∧ k ≤ 3) → w_X10_slab s a k (fun r2 s2 => (-2 : Int) = r2 ∧ Inv s2) := by
    intro hk
    unfold w_X10_slab
    refine s_X10_in fun r hr => ⟨fun z => ?_, fun z => ⟨rfl, hI⟩⟩
    rcases hr with e | e
    · exact absurd e.2 hk
    · exact absurd e.1 z
  unfold w_X9_slab jn
  refine ⟨fun q => bad (by omega), fun q => ⟨fun q2 => ?_, fun q2 => bad (by omega)⟩⟩
  refine s_kFaces hI fun t hIt hc tF => ?_
  obtain ⟨q1, q2, q3, q4, q5, q6⟩ := cls_ref hIt hc
  obtain ⟨m, f, M, g, lab, lab2, hS, h2, ⟨l0, l1, lx, lf, lc⟩, h4, h5, hFc⟩ := tF
  have hM := hS.2.2.2.2
  have fl := fC_le (g := g) (M := M) q1
  have ref : ∀ r1 : Int, (¬ (0 ≤ a ∧ a ≤ (M : Int)) → r1 = -12) → (∀ i : Nat, a = (i : Int) → i ≤ M → (k = 0 → r1 = if i = 0 then -3 else w32 (g (i - 1)).1) ∧ (k = 1 → r1 = if i = 0 then -3 else w32 (g (i - 1)).2) ∧ (k = 2 → r1 = w32 ((fC (dD s) g (nL s) M (i + 1) : Int) - (fC (dD s) g (nL s) M i : Int))) ∧ (k = 3 → r1 = (fC (dD s) g (nL s) M i : Int))) → w_X10_slab t a k (fun r2 s2 => r1 = r2 ∧ Inv s2) := by
    intro r1 ho hv
    unfold w_X10_slab jn
    refine s_X10_in fun r hr => ⟨fun z => ?_, fun z => by rcases hr with e | e <;> omega⟩
    refine ref_sheet hIt hS q2 q3 fun u lab' rf hIu uR ul uC => ?_
    rw [uR.2.1, w32_id (show ok32 (((M + 1 : Nat) : Int) - 1) from ⟨by omega, by omega⟩)]
    refine s_X10_in fun r2 hr2 => ⟨fun z2 => ?_, fun z2 => ⟨ho (by rcases hr2 with e | e <;> omega), hIu⟩⟩
    have ha : 0 ≤ a ∧ a ≤ (M : Int) := by rcases hr2 with e | e <;> omega
    obtain ⟨i, rfl⟩ : ∃ i : Nat, a = (i : Int) := ⟨a.toNat, by omega⟩
    have hi : i ≤ M := by omega
    obtain ⟨v0, v1, v2, v3⟩ := hv i rfl hi
    rw [show w32 ((i : Int) + 1) = ((i + 1 : Nat) : Int) by rw [w32_id ⟨by omega, by omega⟩]; omega, Int.toNat_natCast, Int.toNat_natCast, uR.2.2.2.2.1 i (by omega), uR.2.2.2.2.1 (i + 1) (by omega)]
    refine ⟨fun k2 => ⟨fun k3 => ⟨by omega, v3 (by omega), hIu⟩, fun e => ⟨by omega, by omega, v2 e, hIu⟩⟩, fun k2 => ⟨fun i0 => ⟨fun k0 => ⟨by omega, ?_, hIu⟩, fun e => ⟨by omega, ?_, hIu⟩⟩, fun i0 => ⟨?_, hIu⟩⟩⟩
    · have := (uR.2.2.2.1 (i - 1) (by omega)).2
      rw [show i - 1 + 1 = i by omega] at this
      rw [v1 (by omega), if_neg (by omega), this]
    · have := (uR.2.2.2.1 (i - 1) (by omega)).1
      rw [show i - 1 + 1 = i by omega] at this
      rw [v0 e, if_neg (by omega), this]
    · by_cases e : k = 0
      · rw [v0 e, if_pos (by omega)]
      · rw [v1 (by omega), if_pos (by omega)]
  rw [l0]
  refine ⟨fun z => ref _ (fun _ => rfl) fun i e hi => by omega, fun z => ⟨fun z2 => ?_, fun z2 => ref _ (fun _ => rfl) fun i e hi => by omega⟩⟩
  obtain ⟨i, rfl⟩ : ∃ i : Nat, a = (i : Int) := ⟨a.toNat, by omega⟩
  have hi : i ≤ M := by omega
  rw [show w32 ((i : Int) + 1) = ((i + 1 : Nat) : Int) by rw [w32_id ⟨by omega, by omega⟩]; omega, Int.toNat_natCast, Int.toNat_natCast, lf i (by omega), lf (i + 1) (by omega)]
  have one : ∀ r1 : Int, ((k = 0 → r1 = if i = 0 then -3 else w32 (g (i - 1)).1) ∧ (k = 1 → r1 = if i = 0 then -3 else w32 (g (i - 1)).2) ∧ (k = 2 → r1 = w32 ((fC (dD s) g (nL s) M (i + 1) : Int) - (fC (dD s) g (nL s) M i : Int))) ∧ (k = 3 → r1 = (fC (dD s) g (nL s) M i : Int))) → w_X10_slab t (i : Int) k (fun r2 s2 => r1 = r2 ∧ Inv s2) := fun r1 hv => ref r1 (fun w => by omega) fun j e hj => by
    have : j = i := by omega
    subst this
    exact hv
  refine ⟨fun k2 => ⟨fun k3 => ⟨fun i0 => ?_, fun i0 => one _ ?_⟩, fun e => ⟨by omega, one _ ?_⟩⟩, fun e => ⟨by omega, by omega, one _ ?_⟩⟩
  · rw [show w32 ((i : Int) - 1) = ((i - 1 : Nat) : Int) by rw [w32_id ⟨by omega, by omega⟩]; omega, Int.toNat_natCast, (lx (i - 1) (by omega)).1, (lx (i - 1) (by omega)).2]
    refine ⟨fun k0 => ⟨by omega, one _ ?_⟩, fun e => ⟨by omega, one _ ?_⟩⟩
    · exact ⟨fun w => by omega, fun _ => by rw [if_neg (by omega)], fun w => by omega, fun w => by omega⟩
    · exact ⟨fun _ => by rw [if_neg (by omega)], fun w => by omega, fun w => by omega, fun w => by omega⟩
  · exact ⟨fun _ => by rw [if_pos (by omega)], fun _ => by rw [if_pos (by omega)], fun w => by omega, fun w => by omega⟩
  · exact ⟨fun w => by omega, fun w => by omega, fun w => by omega, fun _ => rfl⟩
  · exact ⟨fun w => by omega, fun w => by omega, fun _ => rfl, fun w => by omega⟩
theorem T_cell {s : Sg} {a k : Int} (hI : Inv s) : w_X9_cell s a k (fun r1 s1 => w_X10_cell s1 a k (fun r2 s2 => r1 = r2 ∧ Inv s2)) := by
  have bad : ¬ (0 ≤ k ∧ k ≤ 3) → w_X10_cell s a k (fun r2 s2 => (-2 : Int) = r2 ∧ Inv s2) := by
    intro hk
    unfold w_X10_cell
    refine s_X10_in fun r hr => ⟨fun z => ?_, fun z => ⟨rfl, hI⟩⟩
    rcases hr with e | e
    · exact absurd e.2 hk
    · exact absurd e.1 z
  unfold w_X9_cell jn
  refine ⟨fun q => bad (by omega), fun q => ⟨fun q2 => ?_, fun q2 => bad (by omega)⟩⟩
  refine s_kFaces hI fun t hIt hc tF => ?_
  obtain ⟨q1, q2, q3, q4, q5, q6⟩ := cls_ref hIt hc
  obtain ⟨m, f, M, g, lab, lab2, hS, h2, ⟨l0, l1, lx, lf, lc⟩, h4, h5, ⟨k0, k1, k2, k3⟩⟩ := tF
  have hM := hS.2.2.2.2
  have fN := (fC_le (g := g) (M := M) q1 (M + 1)).2
  have ref : ∀ r1 : Int, (¬ (0 ≤ a ∧ a < (fC (dD s) g (nL s) M (M + 1) : Int)) → r1 = -12) → (∀ sl q : Nat, sl ≤ M → q < nC (dD s) g (nL s) M sl → a = ((fC (dD s) g (nL s) M sl + q : Nat) : Int) → (k = 0 → r1 = (sl : Int)) ∧ (k = 1 → r1 = (fno lab (fC (dD s) g (nL s) M sl + q) : Int)) ∧ (k = 2 → FstX (loPB (dD s) g (nL s) M sl q) (nL s) r1) ∧ (k = 3 → FstX (hiPB (dD s) g (nL s) M sl q) (nL s) r1)) → w_X10_cell t a k (fun r2 s2 => r1 = r2 ∧ Inv s2) := by
    intro r1 ho hv
    unfold w_X10_cell jn
    refine s_X10_in fun r hr => ⟨fun z => ?_, fun z => by rcases hr with e | e <;> omega⟩
    refine ref_sheet hIt hS q2 q3 fun u lab' rf hIu uR ul uC0 => ?_
    have uC := RFc_one uC0 ul h4
    rw [uR.2.2.1, w32_id (show ok32 ((fC (dD s) g (nL s) M (M + 1) : Int) - 1) from ⟨by omega, by omega⟩)]
    refine s_X10_in fun r2 hr2 => ⟨fun z2 => ?_, fun z2 => ⟨ho (by rcases hr2 with e | e <;> omega), hIu⟩⟩
    have ha : 0 ≤ a ∧ a < (fC (dD s) g (nL s) M (M + 1) : Int) := by rcases hr2 with e | e <;> omega
    obtain ⟨i, rfl⟩ : ∃ i : Nat, a = (i : Int) := ⟨a.toNat, by omega⟩
    have hi : i < fC (dD s) g (nL s) M (M + 1) := by omega
    obtain ⟨sl, q', hs, hq, rfl⟩ := cell_form (M + 1) i hi
    have hs : sl ≤ M := by omega
    obtain ⟨v0, v1, v2, v3⟩ := hv sl q' hs hq rfl
    obtain ⟨c86, c87, c88⟩ := uR.2.2.2.2.2 sl hs q' hq
    rw [Int.toNat_natCast, c86, c87, c88, uC.2.1 _ hi, hiS_P (by omega), loS_P (by omega)]
    refine ⟨fun k0 => ⟨fun k1 => ⟨fun k2 => ⟨by omega, s_X10_leastOf q4 fun r3 hr3 => ⟨FstX_one (v3 (by omega)) hr3, hIu⟩⟩, fun e => ⟨by omega, s_X10_leastOf q4 fun r3 hr3 => ⟨FstX_one (v2 e) hr3, hIu⟩⟩⟩, fun e => ⟨by omega, v1 e, hIu⟩⟩, fun e => ⟨by omega, v0 e, hIu⟩⟩
  rw [l1]
  refine ⟨fun z => ref _ (fun _ => rfl) fun sl q' hs hq e => by omega, fun z => ⟨fun z2 => ?_, fun z2 => ref _ (fun _ => rfl) fun sl q' hs hq e => ?_⟩⟩
  · obtain ⟨i, rfl⟩ : ∃ i : Nat, a = (i : Int) := ⟨a.toNat, by omega⟩
    have hi : i < fC (dD s) g (nL s) M (M + 1) := by omega
    obtain ⟨sl, q', hs, hq, rfl⟩ := cell_form (M + 1) i hi
    have hs : sl ≤ M := by omega
    obtain ⟨c42, c43, c44⟩ := lc sl hs q' hq
    rw [Int.toNat_natCast, c42, c43, c44, k1 _ hi, hiS_P (by omega), loS_P (by omega)]
    have one : ∀ r1 : Int, ((k = 0 → r1 = (sl : Int)) ∧ (k = 1 → r1 = (fno lab (fC (dD s) g (nL s) M sl + q') : Int)) ∧ (k = 2 → FstX (loPB (dD s) g (nL s) M sl q') (nL s) r1) ∧ (k = 3 → FstX (hiPB (dD s) g (nL s) M sl q') (nL s) r1)) → w_X10_cell t ((fC (dD s) g (nL s) M sl + q' : Nat) : Int) k (fun r2 s2 => r1 = r2 ∧ Inv s2) := fun r1 hv => ref r1 (fun w => by omega) fun sl2 q2 hs2 hq2 e => by
      obtain ⟨rfl, rfl⟩ := cell_one hq hq2 (by omega)
      exact hv
    refine ⟨fun e => ⟨by omega, one _ ⟨fun _ => rfl, fun w => by omega, fun w => by omega, fun w => by omega⟩⟩, fun e => ⟨by omega, one _ ⟨fun w => by omega, fun _ => rfl, fun w => by omega, fun w => by omega⟩⟩, fun e => ⟨by omega, s_X9_leastOf q4 fun r3 hr3 => one _ ⟨fun w => by omega, fun w => by omega, fun _ => hr3, fun w => by omega⟩⟩, fun e => ⟨by omega, s_X9_leastOf q4 fun r3 hr3 => one _ ⟨fun w => by omega, fun w => by omega, fun w => by omega, fun _ => hr3⟩⟩⟩
  · exfalso
    have fs := fC_s (dD s) g (nL s) M sl
    have fm := fC_mono (D := dD s) (g := g) (n := nL s) (M := M) (show sl + 1 ≤ M + 1 by omega)
    omega
/-- a root by its number -/
theorem root_at {p : Nat → Bool} : ∀ N F, F < cntN p N → ∃ i, i < N ∧ p i = true ∧ cntN p i = F := by
  intro N
  induction N with
  | zero => intro F hF; exact absurd hF (Nat.not_lt_zero _)
  | succ N ih =>
    intro F hF
    by_cases c : F < cntN p N
    · obtain ⟨i, h1, h2, h3⟩ := ih F c
      exact ⟨i, by omega, h2, h3⟩
    · rw [cntN_s] at hF
      by_cases e : p N = true
      · rw [if_pos e] at hF
        exact ⟨N, by omega, e, by omega⟩
      · rw [if_neg e] at hF
        omega
theorem s_X10_nextTo {s : Sg} {D : Nat → Nat → Int} {n m M F : Nat} {f : Nat → Int × Int × Int × Int} {g : Nat → Int × Int} {lab : Nat → Nat} {post : Int → Sg → Prop} (hS : Swp D n m f M g) (hR : RSl s D n m M f g) (hl : LabOf (JnR D g n M) (fC D g n M (M + 1)) lab) (hF : RFc s D n M g lab) (hK2 : cntN (rootB lab) (fC D g n M (M + 1)) ≤ 80) (hFK : F < cntN (rootB lab) (fC D g n M (M + 1)))
    (hp : ∀ t, NrN s t → post (cntN (fun G => pB (NxR D g n M lab F G)) (cntN (rootB lab) (fC D g n M (M + 1))) : Int) t) : w_X10_nextTo s (F : Int) post := by
  unfold w_X10_nextTo
  refine s_X10_tellNext hS hR hl hF hK2 fun t ht hN => ?_
  have t24 := (RFc_N hF ht).1
  generalize cntN (rootB lab) (fC D g n M (M + 1)) = K at *
  rw [t24, Int.toNat_natCast]
  refine lr_2 (fun v w => ∃ G : Nat, w = (G : Int) ∧ G ≤ K ∧ v = (cntN (fun G => pB (NxR D g n M lab F G)) G : Int)) (fun _ w => ((K : Int) - w).toNat) ?_ 0 0 ⟨0, rfl, Nat.zero_le _, rfl⟩
  rintro again _ _ ⟨G, rfl, hG, rfl⟩ ih
  refine ⟨fun z => ?_, fun z => ⟨by omega, by omega, ?_⟩⟩
  · have e : G = K := by omega
    subst e
    exact hp t ht
  · have hG2 : G < K := by omega
    have b1 : ok32 ((G : Int) + 1) := ⟨by omega, by omega⟩
    have b2 : (G : Int) + 1 = ((G + 1 : Nat) : Int) := by omega
    have cl := cntN_le (fun G => pB (NxR D g n M lab F G)) G
    have h0 := hN F G hFK hG2
    unfold jn
    rw [Int.toNat_natCast]
    refine ⟨fun y v ev => ?_, fun y v ev w ew => ?_⟩
    · have hno : ¬ pB (NxR D g n M lab F G) = true := by
        rw [pB_iff]
        rcases h0 with e | e
        · omega
        · exact e.2
      rw [ev, w32_id b1, b2]
      clear ev
      exact ih _ _ ⟨G + 1, rfl, by omega, by rw [cntN_s, if_neg hno]⟩ (by omega)
    · have hyes : pB (NxR D g n M lab F G) = true := by
        rw [pB_iff]
        rcases h0 with e | e
        · exact e.2
        · exact absurd e.1 y
      rw [ew, w32_id b1, b2, ev, w32_id ⟨by omega, by omega⟩]
      clear ev ew
      exact ih _ _ ⟨G + 1, rfl, by omega, by rw [cntN_s, if_pos hyes]; omega⟩ (by omega)
theorem T_face {s : Sg} {a k : Int} (hI : Inv s) : w_X9_face s a k (fun r1 s1 => w_X10_face s1 a k (fun r2 s2 => r1 = r2 ∧ Inv s2)) := by
  have bad : ¬ (0 ≤ k ∧ k ≤ 4) → w_X10_face s a k (fun r2 s2 => (-2 : Int) = r2 ∧ Inv s2) := by
    intro hk
    unfold w_X10_face
    refine s_X10_in fun r hr => ⟨fun z => ?_, fun z => ⟨rfl, hI⟩⟩
    rcases hr with e | e
    · exact absurd e.2 hk
    · exact absurd e.1 z
  unfold w_X9_face jn
  refine ⟨fun q => bad (by omega), fun q => ⟨fun q2 => ?_, fun q2 => bad (by omega)⟩⟩
  refine s_kFaces hI fun t hIt hc tF => ?_
  obtain ⟨q1, q2, q3, q4, q5, q6⟩ := cls_ref hIt hc
  obtain ⟨m, f, M, g, lab, lab2, hS, h2, ⟨l0, l1, lx, lf, lc⟩, h4, h5, ⟨k0, k1, k2, k3⟩⟩ := tF
  have hM := hS.2.2.2.2
  have fN := (fC_le (g := g) (M := M) q1 (M + 1))
  obtain ⟨K, hK⟩ : ∃ K, K = cntN (rootB lab) (fC (dD s) g (nL s) M (M + 1)) := ⟨_, rfl⟩
  have ref : ∀ r1 : Int, (¬ (0 ≤ a ∧ a < (K : Int)) → r1 = -12) → (∀ F i : Nat, F < K → a = (F : Int) → i < fC (dD s) g (nL s) M (M + 1) → rootB lab i = true → cntN (rootB lab) i = F → (k = 0 → r1 = (i : Int)) ∧ (k = 1 → r1 = (cntN (fun j => fno lab j == F) (fC (dD s) g (nL s) M (M + 1)) : Int)) ∧ (k = 2 → r1 = bitsOf (brdB (dD s) g (nL s) M lab (fC (dD s) g (nL s) M (M + 1)) F) (nL s)) ∧ (k = 3 → r1 = (cntN (fun G => pB (NxR (dD s) g (nL s) M lab F G)) K : Int)) ∧ (k = 4 → r1 = if fno lab 0 = F then 1 else 0)) → w_X10_face t a k (fun r2 s2 => r1 = r2 ∧ Inv s2) := by
    intro r1 ho hv
    unfold w_X10_face
    refine s_X10_in fun r hr => ⟨fun z => ?_, fun z => by rcases hr with e | e <;> omega⟩
    refine ref_sheet hIt hS q2 q3 fun u lab' rf hIu uR ul uC0 => ?_
    have uC := RFc_one uC0 ul h4
    have u24 : u 68 24 = (K : Int) := by rw [hK]; exact uC.1
    rw [u24, w32_id (show ok32 ((K : Int) - 1) from ⟨by omega, by omega⟩)]
    refine s_X10_in fun r2 hr2 => ⟨fun z2 => ?_, fun z2 => ⟨ho (by rcases hr2 with e | e <;> omega), hIu⟩⟩
    have ha : 0 ≤ a ∧ a < (K : Int) := by rcases hr2 with e | e <;> omega
    obtain ⟨F, rfl⟩ : ∃ i : Nat, a = (i : Int) := ⟨a.toNat, by omega⟩
    have hF : F < K := by omega
    obtain ⟨i, i1, i2, i3⟩ := root_at (p := rootB lab) (fC (dD s) g (nL s) M (M + 1)) F (by omega)
    obtain ⟨v0, v1, v2, v3, v4⟩ := hv F i hF rfl i1 i2 i3
    -- how many cells
    refine lr_2 (fun v w => ∃ c : Nat, w = (c : Int) ∧ c ≤ fC (dD s) g (nL s) M (M + 1) ∧ v = (cntN (fun j => fno lab j == F) c : Int)) (fun _ w => ((fC (dD s) g (nL s) M (M + 1) : Int) - w).toNat) ?_ 0 0 ⟨0, rfl, Nat.zero_le _, rfl⟩
    rintro again _ _ ⟨c, rfl, hc', rfl⟩ ih
    rw [uR.2.2.1]
    refine ⟨fun z3 => ?_, fun z3 => ⟨by omega, ?_⟩⟩
    · have e : c = fC (dD s) g (nL s) M (M + 1) := by omega
      subst e
      unfold jn
      have u91 := uC.2.2 i i1 i2
      rw [i3] at u91
      have u89 : u 89 0 = (fno lab 0 : Int) := uC.2.1 0 (by omega)
      rw [Int.toNat_natCast, u91, u89]
      refine ⟨fun k0 => ⟨fun k1 => ⟨fun k2 => ⟨fun k3 => ⟨by omega, fun y => ⟨?_, hIu⟩, fun y => ⟨?_, hIu⟩⟩, fun e => ?_⟩, fun e => ?_⟩, fun e => ⟨v1 e, hIu⟩⟩, fun e => ⟨by omega, v0 e, hIu⟩⟩
      · rw [v4 (by omega), if_neg (by omega)]
      · rw [v4 (by omega), if_pos (by omega)]
      · refine s_X10_nextTo hS uR h4 uC (by omega) (by omega) fun w ww => ⟨?_, Inv_ref hIu ⟨fun c h1 => ww.1 c (by omega) (by omega), ww.2 0 (by omega), ww.2 43 (by omega)⟩⟩
        rw [← hK]
        exact v3 e
      · exact s_X10_borders hS uR uC fun w ww => ⟨v2 e, Inv_ref hIu ⟨fun c h1 => ww.1 c (by omega), ww.2 0 (by omega), ww.2 43 (by omega)⟩⟩
    · have hc2 : c < fC (dD s) g (nL s) M (M + 1) := by omega
      have b1 : ok32 ((c : Int) + 1) := ⟨by omega, by omega⟩
      have b2 : (c : Int) + 1 = ((c + 1 : Nat) : Int) := by omega
      have cl := cntN_le (fun j => fno lab j == F) c
      unfold jn
      rw [Int.toNat_natCast, uC.2.1 c hc2]
      refine ⟨fun y v ev => ?_, fun y v ev w ew => ?_⟩
      · rw [ev, w32_id b1, b2]
        clear ev
        exact ih _ _ ⟨c + 1, rfl, by omega, by rw [cntN_s, if_neg (by rw [beq_iff_eq]; omega)]⟩ (by omega)
      · rw [ew, w32_id b1, b2, ev, w32_id ⟨by omega, by omega⟩]
        clear ev ew
        exact ih _ _ ⟨c + 1, rfl, by omega, by rw [cntN_s, if_pos (by rw [beq_iff_eq]; omega)]; omega⟩ (by omega)
  have t53 : t 53 0 = (K : Int) := by rw [hK]; exact k0
  rw [t53]
  refine ⟨fun z => ref _ (fun _ => rfl) fun F i hF e => by omega, fun z => ⟨fun z2 => ?_, fun z2 => ref _ (fun _ => rfl) fun F i hF e => by omega⟩⟩
  obtain ⟨F, rfl⟩ : ∃ i : Nat, a = (i : Int) := ⟨a.toNat, by omega⟩
  have hF : F < K := by omega
  obtain ⟨i, i1, i2, i3⟩ := root_at (p := rootB lab) (fC (dD s) g (nL s) M (M + 1)) F (by omega)
  have t56 := k2 i i1 i2
  rw [i3] at t56
  obtain ⟨t57, t58, t59⟩ := k3 F (by omega)
  have t55 : t 55 0 = (fno lab 0 : Int) := k1 0 (by omega)
  rw [← hK] at t59
  rw [Int.toNat_natCast, t56, t57, t58, t59, t55]
  have one : ∀ r1 : Int, ((k = 0 → r1 = (i : Int)) ∧ (k = 1 → r1 = (cntN (fun j => fno lab j == F) (fC (dD s) g (nL s) M (M + 1)) : Int)) ∧ (k = 2 → r1 = bitsOf (brdB (dD s) g (nL s) M lab (fC (dD s) g (nL s) M (M + 1)) F) (nL s)) ∧ (k = 3 → r1 = (cntN (fun G => pB (NxR (dD s) g (nL s) M lab F G)) K : Int)) ∧ (k = 4 → r1 = if fno lab 0 = F then 1 else 0)) → w_X10_face t (F : Int) k (fun r2 s2 => r1 = r2 ∧ Inv s2) := fun r1 hv => ref r1 (fun w => by omega) fun F2 j hF2 e j1 j2 j3 => by
    have eF : F2 = F := by omega
    subst eF
    have ej : j = i := by
      rcases Nat.lt_trichotomy j i with c | c | c
      · have := cnt_lt c j2; omega
      · exact c
      · have := cnt_lt c i2; omega
    subst ej
    exact hv
  have F64 : 0 ≤ (F : Int) ∧ (F : Int) < 64 := by omega
  refine ⟨fun e => ⟨F64, one _ ⟨fun _ => rfl, fun w => by omega, fun w => by omega, fun w => by omega, fun w => by omega⟩⟩, fun e => ⟨F64, one _ ⟨fun w => by omega, fun _ => rfl, fun w => by omega, fun w => by omega, fun w => by omega⟩⟩, fun e => ⟨F64, one _ ⟨fun w => by omega, fun w => by omega, fun _ => rfl, fun w => by omega, fun w => by omega⟩⟩, fun e => ⟨F64, s_bitCount (by omega) (one _ ⟨fun w => by omega, fun w => by omega, fun w => by omega, fun _ => rfl, fun w => by omega⟩)⟩, fun e => ⟨by omega, fun y => one _ ⟨fun w => by omega, fun w => by omega, fun w => by omega, fun w => by omega, fun _ => by rw [if_neg (by omega)]⟩, fun y => one _ ⟨fun w => by omega, fun w => by omega, fun w => by omega, fun w => by omega, fun _ => by rw [if_pos (by omega)]⟩⟩⟩
