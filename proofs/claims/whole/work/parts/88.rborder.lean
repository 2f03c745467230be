/-! the reference: borders of faces -/
noncomputable def hiPB (D : Nat → Nat → Int) (g : Nat → Int × Int) (n M s q l : Nat) : Bool := if s = 0 ∨ M ≤ s then false else hiP D g n (s - 1) q l
noncomputable def loPB (D : Nat → Nat → Int) (g : Nat → Int × Int) (n M s q l : Nat) : Bool := if s = 0 ∨ M ≤ s ∨ q = 0 then false else hiP D g n (s - 1) (q - 1) l
theorem hiS_P {D : Nat → Nat → Int} {g : Nat → Int × Int} {n M s q : Nat} (hn : n ≤ 30) : hiS D g n M s q = bitsOf (hiPB D g n M s q) n := by
  unfold hiS
  by_cases e : s = 0 ∨ M ≤ s
  · rw [if_pos e, ← bits_none hn]
    exact bitsOf_congr fun i _ => by unfold hiPB; rw [if_pos e]
  · rw [if_neg e, hiG_P]
    exact bitsOf_congr fun i _ => by unfold hiPB; rw [if_neg e]
theorem loS_P {D : Nat → Nat → Int} {g : Nat → Int × Int} {n M s q : Nat} (hn : n ≤ 30) : loS D g n M s q = bitsOf (loPB D g n M s q) n := by
  unfold loS
  by_cases e : s = 0 ∨ M ≤ s
  · rw [if_pos e, ← bits_none hn]
    exact bitsOf_congr fun i _ => by unfold loPB; rw [if_pos (by omega)]
  · rw [if_neg e]
    by_cases e0 : q = 0
    · subst e0
      rw [loG_0 hn, ← bits_none hn]
      exact bitsOf_congr fun i _ => by unfold loPB; rw [if_pos (by omega)]
    · obtain ⟨q', rfl⟩ : ∃ q', q = q' + 1 := ⟨q - 1, by omega⟩
      rw [loG_s, hiG_P]
      exact bitsOf_congr fun i _ => by unfold loPB; rw [if_neg (by omega), Nat.add_sub_cancel]
theorem cell_form {D : Nat → Nat → Int} {g : Nat → Int × Int} {n M : Nat} : ∀ S j, j < fC D g n M S → ∃ s q, s < S ∧ q < nC D g n M s ∧ j = fC D g n M s + q := by
  intro S
  induction S with
  | zero => intro j hj; exact absurd hj (Nat.not_lt_zero _)
  | succ S ih =>
    intro j hj
    by_cases c : j < fC D g n M S
    · obtain ⟨s, q, h1, h2, h3⟩ := ih j c
      exact ⟨s, q, by omega, h2, h3⟩
    · rw [fC_s] at hj
      exact ⟨S, j - fC D g n M S, by omega, by omega, by omega⟩
theorem cell_one {D : Nat → Nat → Int} {g : Nat → Int × Int} {n M s s' q q' : Nat} (h1 : q < nC D g n M s) (h2 : q' < nC D g n M s') (e : fC D g n M s + q = fC D g n M s' + q') : s = s' ∧ q = q' := by
  rcases Nat.lt_trichotomy s s' with c | c | c
  · have := fC_mono (D := D) (g := g) (n := n) (M := M) (show s + 1 ≤ s' by omega)
    rw [fC_s] at this
    omega
  · subst c; omega
  · have := fC_mono (D := D) (g := g) (n := n) (M := M) (show s' + 1 ≤ s by omega)
    rw [fC_s] at this
    omega
/-- upright lines by a cell, at an x -/
def UpC (D : Nat → Nat → Int) (g : Nat → Int × Int) (n M s q c l : Nat) : Prop := ∃ r, r ≤ tK D g n c ∧ psC D g n M s c r = q ∧ upS D g n c r l = true
noncomputable def upCB (D : Nat → Nat → Int) (g : Nat → Int × Int) (n M s q c l : Nat) : Bool := by
  classical exact decide (UpC D g n M s q c l)
theorem upCB_iff {D : Nat → Nat → Int} {g : Nat → Int × Int} {n M s q c l : Nat} : upCB D g n M s q c l = true ↔ UpC D g n M s q c l := by
  classical
  unfold upCB
  exact decide_eq_true_iff
theorem s_X10_bordersAt {s : Sg} {D : Nat → Nat → Int} {n m M sl q c : Nat} {f : Nat → Int × Int × Int × Int} {g : Nat → Int × Int} {v1 v2 : Int} {post : Int → Sg → Prop} (hS : Swp D n m f M g) (hR : RSl s D n m M f g) (hs : sl ≤ M) (hq : q < nC D g n M sl) (hc : c = sl ∨ c + 1 = sl) (hcM : c < M) (e1 : v1 = ((fC D g n M sl + q : Nat) : Int)) (e2 : v2 = ((c + 1 : Nat) : Int))
    (hp : ∀ t, NrF s t → post (bitsOf (upCB D g n M sl q c) n) t) : w_X10_bordersAt s v1 v2 post := by
  subst e2
  have h := hS.1
  have hn := h.1
  have hM := hS.2.2.2.2
  unfold w_X10_bordersAt
  refine s_X10_wide fun t ht h1 h2 => ⟨by omega, by omega, ?_⟩
  have Rt := RSl_fr hR ht
  rw [Int.toNat_natCast]
  refine s_X10_narrow hS Rt hs hq hc hcM h1 h2 (Int.le_refl _) (Int.le_refl _) e1 (Rt.2.2.2.1 c hcM).1 (Rt.2.2.2.1 c hcM).2 fun u hu h3 h4 => ?_
  have Ru := RSl_fr Rt hu
  have kF : loK D g n c (mxI (-100000 * KK) (loB D g n sl q c)) := lo_mx (Or.inr rfl) (lo_K hS hq hc)
  have kT : hiK D g n c (mnI (100000 * KK) (hiB D g n M sl q c)) := hi_mn (Or.inr rfl) (hi_K hS hc)
  refine lr_2 (fun v w => ∃ k : Nat, w = (k : Int) ∧ k ≤ n ∧ v = bitsOf (fun l => decide (l < k) && upCB D g n M sl q c l) n) (fun _ w => ((n : Int) - w).toNat) ?_ 0 0 ⟨0, rfl, Nat.zero_le _, ?_⟩
  · rintro again _ _ ⟨k, rfl, hk, rfl⟩ ih
    rw [Ru.1.1]
    refine ⟨fun z => ?_, fun z => ⟨by omega, by omega, ?_⟩⟩
    · have e : k = n := by omega
      subst e
      have := hp u (NrF_tr ht hu)
      rwa [bitsOf_congr (q := upCB D g k M sl q c) (fun i hi => by rw [decide_eq_true hi, Bool.true_and])]
    · have hk2 : k < n := by omega
      have b1 : ok32 ((k : Int) + 1) := ⟨by omega, by omega⟩
      have b2 : (k : Int) + 1 = ((k + 1 : Nat) : Int) := by omega
      have no : ¬ UpC D g n M sl q c k → ∀ v, v = w32 ((k : Int) + 1) → again (bitsOf (fun l => decide (l < k) && upCB D g n M sl q c l) n) v := by
        intro nu v ev
        rw [ev, w32_id b1, b2]
        clear ev
        refine ih _ _ ⟨k + 1, rfl, by omega, bitsOf_congr fun i hi => ?_⟩ (by omega)
        by_cases e : i = k
        · subst e
          have : upCB D g n M sl q c i = false := by
            cases x : upCB D g n M sl q c i
            · rfl
            · exact absurd (upCB_iff.mp x) nu
          rw [this, Bool.and_false, Bool.and_false]
        · rw [show decide (i < k) = decide (i < k + 1) from decide_eq_decide.mpr (by omega)]
      refine s_X10_isUprightAt hS Ru.1.2.1 hcM hk2 (Ru.2.2.2.1 c hcM).1 (Ru.2.2.2.1 c hcM).2 fun r hr => ?_
      unfold jn
      refine ⟨fun z2 => no ?_, fun z2 => ?_⟩
      · rintro ⟨r', r1, r2, us⟩
        rw [upS_iff] at us
        rcases hr with e | e
        · omega
        · exact e.2 ⟨us.1, us.2.1⟩
      · have hur : D 0 k = D 2 k ∧ rchB D g c k = true := by
          rcases hr with e | e
          · exact e.2
          · exact absurd e.1 z2
        have mr := more_r hS hcM hk2 hur.1 hur.2 kF kT
        have mu : mxI (mxI (-100000 * KK) (loB D g n sl q c)) (D 1 k * KK) < mnI (mnI (100000 * KK) (hiB D g n M sl q c)) (D 3 k * KK) ↔ UpC D g n M sl q c k := by
          rw [mr]
          refine exists_congr fun r => ⟨?_, ?_⟩
          · rintro ⟨a1, a2, a3, a4⟩
            exact ⟨a1, (one_r hS hq hc hcM a1).mpr ⟨a2, a3⟩, a4⟩
          · rintro ⟨a1, a2, a4⟩
            have := (one_r hS hq hc hcM a1).mp a2
            exact ⟨a1, this.1, this.2, a4⟩
        refine s_X10_hasMore h Ru.1.2.1 hk2 h3 h4 fun r2 hr2 => ⟨fun z3 => no ?_, fun z3 v3 ev3 v ev => ?_⟩
        · rcases hr2 with e | e
          · omega
          · exact fun y => e.2 (mu.mpr y)
        · have yes : UpC D g n M sl q c k := by
            rcases hr2 with e | e
            · exact mu.mp e.2
            · exact absurd e.1 z3
          rw [ev, w32_id b1, b2, ev3, ior_bit _ (by omega) hk2]
          clear ev ev3
          refine ih _ _ ⟨k + 1, rfl, by omega, bitsOf_congr fun i hi => ?_⟩ (by omega)
          by_cases e : i = k
          · subst e
            rw [upCB_iff.mpr yes]
            simp
          · rw [show decide (i < k) = decide (i < k + 1) from decide_eq_decide.mpr (by omega), show (i == k) = false by simp [e], Bool.or_false]
  · rw [← bits_none (show n ≤ 30 by omega)]
    exact bitsOf_congr fun i _ => by simp
/-- borders of a face, by cells -/
def CellB (D : Nat → Nat → Int) (g : Nat → Int × Int) (n M s q l : Nat) : Prop := loPB D g n M s q l = true ∨ hiPB D g n M s q l = true ∨ ∃ c, (c = s ∨ c + 1 = s) ∧ c < M ∧ UpC D g n M s q c l
def BrdTo (D : Nat → Nat → Int) (g : Nat → Int × Int) (n M : Nat) (lab : Nat → Nat) (k F l : Nat) : Prop := ∃ s q, s ≤ M ∧ q < nC D g n M s ∧ fC D g n M s + q < k ∧ fno lab (fC D g n M s + q) = F ∧ CellB D g n M s q l
noncomputable def brdB (D : Nat → Nat → Int) (g : Nat → Int × Int) (n M : Nat) (lab : Nat → Nat) (k F l : Nat) : Bool := by
  classical exact decide (BrdTo D g n M lab k F l)
theorem brdB_iff {D : Nat → Nat → Int} {g : Nat → Int × Int} {n M : Nat} {lab : Nat → Nat} {k F l : Nat} : brdB D g n M lab k F l = true ↔ BrdTo D g n M lab k F l := by
  classical
  unfold brdB
  exact decide_eq_true_iff
theorem Brd_s {D : Nat → Nat → Int} {g : Nat → Int × Int} {n M : Nat} {lab : Nat → Nat} {s q F l : Nat} (hs : s ≤ M) (hq : q < nC D g n M s) : BrdTo D g n M lab (fC D g n M s + q + 1) F l ↔ (BrdTo D g n M lab (fC D g n M s + q) F l ∨ (fno lab (fC D g n M s + q) = F ∧ CellB D g n M s q l)) := by
  constructor
  · rintro ⟨s', q', h1, h2, h3, h4, h5⟩
    by_cases e : fC D g n M s' + q' = fC D g n M s + q
    · obtain ⟨rfl, rfl⟩ := cell_one h2 hq e
      exact Or.inr ⟨h4, h5⟩
    · exact Or.inl ⟨s', q', h1, h2, by omega, h4, h5⟩
  · rintro (⟨s', q', h1, h2, h3, h4, h5⟩ | ⟨h4, h5⟩)
    · exact ⟨s', q', h1, h2, by omega, h4, h5⟩
    · exact ⟨s, q, hs, hq, by omega, h4, h5⟩
theorem bool_ext {a b : Bool} (h : a = true ↔ b = true) : a = b := Bool.eq_iff_iff.mpr h
theorem s_X10_borders {s : Sg} {D : Nat → Nat → Int} {n m M F : Nat} {f : Nat → Int × Int × Int × Int} {g : Nat → Int × Int} {lab : Nat → Nat} {post : Int → Sg → Prop} (hS : Swp D n m f M g) (hR : RSl s D n m M f g) (hF : RFc s D n M g lab)
    (hp : ∀ t, NrF s t → post (bitsOf (brdB D g n M lab (fC D g n M (M + 1)) F) n) t) : w_X10_borders s (F : Int) post := by
  have h := hS.1
  have hn := h.1
  have hM := hS.2.2.2.2
  have fl := fC_le (g := g) (M := M) h (M + 1)
  unfold w_X10_borders
  refine lr_2s (fun v w t => ∃ k : Nat, w = (k : Int) ∧ k ≤ fC D g n M (M + 1) ∧ NrF s t ∧ v = bitsOf (brdB D g n M lab k F) n) (fun _ w _ => ((fC D g n M (M + 1) : Int) - w).toNat) ?_ 0 0 s ⟨0, rfl, Nat.zero_le _, NrF_rfl s, ?_⟩
  · rintro again _ _ t ⟨k, rfl, hk, ht, rfl⟩ ih
    have Rt := RSl_fr hR ht
    rw [Rt.2.2.1]
    refine ⟨fun z => ?_, fun z => ⟨by omega, ?_⟩⟩
    · have e : k = fC D g n M (M + 1) := by omega
      subst e
      exact hp t ht
    · have hk2 : k < fC D g n M (M + 1) := by omega
      obtain ⟨sl, q, hs, hq, rfl⟩ := cell_form (M + 1) k hk2
      have hs : sl ≤ M := by omega
      have b1 : ok32 (((fC D g n M sl + q : Nat) : Int) + 1) := ⟨by omega, by omega⟩
      have b2 : ((fC D g n M sl + q : Nat) : Int) + 1 = ((fC D g n M sl + q + 1 : Nat) : Int) := by omega
      have t89 : t 89 (fC D g n M sl + q) = (fno lab (fC D g n M sl + q) : Int) := by rw [ht.1 89 (by omega)]; exact hF.2.1 _ hk2
      have cells : ∀ u, NrF s u → u 86 (fC D g n M sl + q) = (sl : Int) ∧ u 87 (fC D g n M sl + q) = bitsOf (loPB D g n M sl q) n ∧ u 88 (fC D g n M sl + q) = bitsOf (hiPB D g n M sl q) n := by
        intro u hu
        have := (RSl_fr hR hu).2.2.2.2.2 sl hs q hq
        rw [hiS_P (by omega), loS_P (by omega)] at this
        exact this
      have fin : ∀ (v : Int) (u : Sg), NrF s u → v = bitsOf (brdB D g n M lab (fC D g n M sl + q + 1) F) n → ∀ w, w = w32 (((fC D g n M sl + q : Nat) : Int) + 1) → again v w u := by
        intro v u hu ev w ew
        rw [ew, w32_id b1, b2, ev]
        clear ev ew
        exact ih _ _ _ ⟨_, rfl, by omega, hu, rfl⟩ (by omega)
      obtain ⟨c86, c87, c88⟩ := cells t ht
      unfold jn
      rw [Int.toNat_natCast, t89, c86, c87, c88]
      refine ⟨fun z2 => ⟨by omega, by omega, fun v ev => ⟨by omega, ?_⟩⟩, fun z2 => ?_⟩
      · have eF : fno lab (fC D g n M sl + q) = F := by omega
        rw [ior_bits _ _ (by omega), ior_bits _ _ (by omega)] at ev
        -- the right hand side
        have right : ∀ (v : Int) (u : Sg) (P : Nat → Bool), NrF s u → v = bitsOf P n → (∀ l, l < n → (P l = true ↔ (BrdTo D g n M lab (fC D g n M sl + q) F l ∨ loPB D g n M sl q l = true ∨ hiPB D g n M sl q l = true ∨ ∃ c, c + 1 = sl ∧ c < M ∧ UpC D g n M sl q c l))) → (0 ≤ ((fC D g n M sl + q : Nat) : Int) ∧ ((fC D g n M sl + q : Nat) : Int) < 900) ∧ ((w32 ((u 68 22) - 1) ≤ u 86 (fC D g n M sl + q) → ∀ v3_9, v3_9 = w32 (((fC D g n M sl + q : Nat) : Int) + 1) → (again v v3_9 u)) ∧ (¬ w32 ((u 68 22) - 1) ≤ u 86 (fC D g n M sl + q) → (0 ≤ ((fC D g n M sl + q : Nat) : Int) ∧ ((fC D g n M sl + q : Nat) : Int) < 900) ∧ (w_X10_bordersAt u ((fC D g n M sl + q : Nat) : Int) (w32 ((u 86 (fC D g n M sl + q)) + 1)) (fun r_19 s_20 => ∀ v2_21, v2_21 = ior v r_19 → ∀ v3_9, v3_9 = w32 (((fC D g n M sl + q : Nat) : Int) + 1) → (again v2_21 v3_9 s_20))))) := by
          intro v u P hu ev hP
          have Ru := RSl_fr hR hu
          rw [Ru.2.1, (cells u hu).1, show w32 (((M + 1 : Nat) : Int) - 1) = (M : Int) by rw [w32_id ⟨by omega, by omega⟩]; omega]
          refine ⟨by omega, fun z3 => ?_, fun z3 => ⟨by omega, ?_⟩⟩
          · refine fin v u hu ?_
            rw [ev]
            refine bitsOf_congr fun l hl => bool_ext ?_
            rw [hP l hl, brdB_iff, Brd_s hs hq]
            refine or_congr Iff.rfl ⟨fun y => ⟨eF, ?_⟩, fun y => ?_⟩
            · exact y.imp id fun y => y.imp id fun ⟨c, y1, y2⟩ => ⟨c, Or.inr y1, y2⟩
            · exact y.2.imp id fun y => y.imp id fun ⟨c, y1, y2, y3⟩ => ⟨c, by omega, y2, y3⟩
          · refine s_X10_bordersAt (c := sl) hS Ru hs hq (Or.inl rfl) (by omega) rfl (by rw [w32_id ⟨by omega, by omega⟩]; omega) fun x hx => ?_
            intro v2 ev2
            refine fin v2 x (NrF_tr hu hx) ?_
            rw [ev2, ev, ior_bits _ _ (by omega)]
            refine bitsOf_congr fun l hl => bool_ext ?_
            rw [Bool.or_eq_true, hP l hl, brdB_iff, Brd_s hs hq, upCB_iff]
            constructor
            · rintro ((y | y | y | ⟨c, y1, y2, y3⟩) | y)
              · exact Or.inl y
              · exact Or.inr ⟨eF, Or.inl y⟩
              · exact Or.inr ⟨eF, Or.inr (Or.inl y)⟩
              · exact Or.inr ⟨eF, Or.inr (Or.inr ⟨c, Or.inr y1, y2, y3⟩)⟩
              · exact Or.inr ⟨eF, Or.inr (Or.inr ⟨sl, Or.inl rfl, by omega, y⟩)⟩
            · rintro (y | ⟨-, y | y | ⟨c, y1 | y1, y2, y3⟩⟩)
              · exact Or.inl (Or.inl y)
              · exact Or.inl (Or.inr (Or.inl y))
              · exact Or.inl (Or.inr (Or.inr (Or.inl y)))
              · subst y1; exact Or.inr y3
              · exact Or.inl (Or.inr (Or.inr (Or.inr ⟨c, y1, y2, y3⟩)))
        refine ⟨fun z3 => ?_, fun z3 => ⟨by omega, ?_⟩⟩
        · refine right v t _ ht ev fun l hl => ?_
          rw [Bool.or_eq_true, Bool.or_eq_true, brdB_iff]
          refine or_congr Iff.rfl (or_congr Iff.rfl ⟨Or.inl, fun y => y.resolve_right ?_⟩)
          rintro ⟨c, y1, -⟩
          omega
        · refine s_X10_bordersAt (c := sl - 1) hS Rt hs hq (Or.inr (by omega)) (by omega) rfl (by omega) fun x hx => ?_
          intro v2 ev2
          refine right v2 x _ (NrF_tr ht hx) (by rw [ev2, ev, ior_bits _ _ (by omega)]) fun l hl => ?_
          rw [Bool.or_eq_true, Bool.or_eq_true, Bool.or_eq_true, brdB_iff, upCB_iff]
          constructor
          · rintro ((y | y | y) | y)
            · exact Or.inl y
            · exact Or.inr (Or.inl y)
            · exact Or.inr (Or.inr (Or.inl y))
            · exact Or.inr (Or.inr (Or.inr ⟨sl - 1, by omega, by omega, y⟩))
          · rintro (y | y | y | ⟨c, y1, y2, y3⟩)
            · exact Or.inl (Or.inl y)
            · exact Or.inl (Or.inr (Or.inl y))
            · exact Or.inl (Or.inr (Or.inr y))
            · have : c = sl - 1 := by omega
              subst this
              exact Or.inr y3
      · refine fin _ t ht (bitsOf_congr fun l hl => bool_ext ?_)
        rw [brdB_iff, brdB_iff, Brd_s hs hq]
        exact ⟨Or.inl, fun y => y.resolve_right fun y2 => z2 (by omega)⟩
  · rw [← bits_none (show n ≤ 30 by omega)]
    refine bitsOf_congr fun i _ => bool_ext ?_
    rw [brdB_iff]
    refine ⟨fun y => absurd y (by simp), ?_⟩
    rintro ⟨s', q', h1, h2, h3, -⟩
    omega
