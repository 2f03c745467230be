/-! hulls: who is on the border, told in two ways -/
def trn (x y : Nat → Int) (p q r : Nat) : Int := (x q - x p) * (y r - y p) - (y q - y p) * (x r - x p)
def noL (x y : Nat → Int) (M : Nat) (hl : Nat → Int) (p q : Nat) : Bool := decide (∀ r, r < M → hl r = -1 → trn x y p q r ≤ 0)
def bC (x y : Nat → Int) (M : Nat) (hl : Nat → Int) (p : Nat) : Bool := decide (hl p = -1 ∧ ((∃ q, q < M ∧ hl q = -1 ∧ q ≠ p ∧ noL x y M hl p q = true) ∨ ∀ q, q < M → hl q = -1 → q = p))
def sdB (x y : Nat → Int) (M : Nat) (hl : Nat → Int) (i j : Nat) : Bool := decide ((∀ r, r < M → hl r = -1 → trn x y i j r ≤ 0) ∨ ∀ r, r < M → hl r = -1 → 0 ≤ trn x y i j r)
def lfN (M : Nat) (hl : Nat → Int) : Nat := cntN (fun p => decide (hl p = -1)) M
def bRs (x y : Nat → Int) (M : Nat) (hl : Nat → Int) (I J k : Nat) : Bool := decide (hl k = -1 ∧ (lfN M hl = 1 ∨ ∃ i, i < M ∧ ∃ j, j < i ∧ (i < I ∨ (i = I ∧ j < J)) ∧ hl i = -1 ∧ hl j = -1 ∧ sdB x y M hl i j = true ∧ trn x y i j k = 0))
theorem noL_iff {x y : Nat → Int} {M : Nat} {hl : Nat → Int} {p q : Nat} : noL x y M hl p q = true ↔ ∀ r, r < M → hl r = -1 → trn x y p q r ≤ 0 := by unfold noL; exact decide_eq_true_iff
theorem bC_iff {x y : Nat → Int} {M : Nat} {hl : Nat → Int} {p : Nat} : bC x y M hl p = true ↔ (hl p = -1 ∧ ((∃ q, q < M ∧ hl q = -1 ∧ q ≠ p ∧ noL x y M hl p q = true) ∨ ∀ q, q < M → hl q = -1 → q = p)) := by unfold bC; exact decide_eq_true_iff
theorem sdB_iff {x y : Nat → Int} {M : Nat} {hl : Nat → Int} {i j : Nat} : sdB x y M hl i j = true ↔ ((∀ r, r < M → hl r = -1 → trn x y i j r ≤ 0) ∨ ∀ r, r < M → hl r = -1 → 0 ≤ trn x y i j r) := by unfold sdB; exact decide_eq_true_iff
theorem bRs_iff {x y : Nat → Int} {M : Nat} {hl : Nat → Int} {I J k : Nat} : bRs x y M hl I J k = true ↔ (hl k = -1 ∧ (lfN M hl = 1 ∨ ∃ i, i < M ∧ ∃ j, j < i ∧ (i < I ∨ (i = I ∧ j < J)) ∧ hl i = -1 ∧ hl j = -1 ∧ sdB x y M hl i j = true ∧ trn x y i j k = 0)) := by unfold bRs; exact decide_eq_true_iff
theorem trn_sw (x y : Nat → Int) (p q r : Nat) : trn x y q p r = - trn x y p q r := by unfold trn; grind
theorem trn_p (x y : Nat → Int) (p q : Nat) : trn x y p q p = 0 ∧ trn x y p q q = 0 := by unfold trn; grind
/-- cross and dot with a direction -/
def crU (u v : Int) (a b : Int) : Int := u * b - v * a
def dtU (u v : Int) (a b : Int) : Int := u * a + v * b
theorem pl_1 (u v a b c d e f : Int) : crU a b e f * crU u v c d = crU a b c d * crU u v e f + crU c d e f * crU u v a b := by unfold crU; grind
theorem pl_2 (u v a b c d : Int) : crU a b c d * (u * u + v * v) = dtU u v a b * crU u v c d - crU u v a b * dtU u v c d := by unfold crU dtU; grind
def HfP (u v a b : Int) : Prop := crU u v a b < 0 ∨ (crU u v a b = 0 ∧ dtU u v a b < 0)
theorem np_of {z W : Int} (hW : 0 < W) (h : z * W ≤ 0) : z ≤ 0 := by
  apply Decidable.byContradiction
  intro c
  have := Int.mul_pos (show 0 < z by omega) hW
  omega
theorem hf_tr {u v a b c d e f : Int} (hu : 0 < u * u + v * v) (h1 : HfP u v a b) (h2 : HfP u v c d) (h3 : HfP u v e f) (c1 : crU a b c d ≤ 0) (c2 : crU c d e f ≤ 0) : crU a b e f ≤ 0 := by
  have a1 : crU u v a b ≤ 0 := by rcases h1 with z | z <;> omega
  have a2 : crU u v c d ≤ 0 := by rcases h2 with z | z <;> omega
  have a3 : crU u v e f ≤ 0 := by rcases h3 with z | z <;> omega
  rcases h2 with z | ⟨z, w⟩
  · have e1 := pl_1 u v a b c d e f
    have m1 := Int.mul_nonneg_of_nonpos_of_nonpos c1 a3
    have m2 := Int.mul_nonneg_of_nonpos_of_nonpos c2 a1
    apply Decidable.byContradiction
    intro q
    have := Int.mul_neg_of_pos_of_neg (show 0 < crU a b e f by omega) z
    omega
  · have e2 := pl_2 u v c d e f
    rw [z, Int.zero_mul, Int.sub_zero] at e2
    have m1 : crU c d e f * (u * u + v * v) ≤ 0 := Int.mul_nonpos_of_nonpos_of_nonneg c2 (by omega)
    have z3 : crU u v e f = 0 := by
      apply Decidable.byContradiction
      intro q
      have := Int.mul_pos_of_neg_of_neg w (show crU u v e f < 0 by omega)
      omega
    have w3 : dtU u v e f < 0 := by rcases h3 with q | q <;> omega
    have e3 := pl_2 u v a b e f
    rw [z3, Int.mul_zero, Int.zero_sub] at e3
    refine np_of hu ?_
    rw [e3]
    have := Int.mul_nonneg_of_nonpos_of_nonpos a1 (show dtU u v e f ≤ 0 by omega)
    omega
theorem trn_cr (x y : Nat → Int) (p q r : Nat) : trn x y p q r = crU (x q - x p) (y q - y p) (x r - x p) (y r - y p) := by unfold trn crU; rfl
/-- who has all others in a half of the sheet is on the border -/
theorem half_bC {x y : Nat → Int} {M : Nat} {hl : Nat → Int} {p : Nat} {u v : Int} (hu : 0 < u * u + v * v) (hp : hl p = -1) (h : ∀ k, k < M → hl k = -1 → k ≠ p → HfP u v (x k - x p) (y k - y p)) : bC x y M hl p = true := by
  rw [bC_iff]
  refine ⟨hp, ?_⟩
  have key : ∀ N, N ≤ M → (∀ q, q < N → hl q = -1 → q = p) ∨ ∃ q, q < N ∧ hl q = -1 ∧ q ≠ p ∧ ∀ r, r < N → hl r = -1 → trn x y p q r ≤ 0 := by
    intro N
    induction N with
    | zero => intro _; exact Or.inl fun q hq => absurd hq (Nat.not_lt_zero _)
    | succ N ih =>
      intro hN
      by_cases cN : hl N = -1 ∧ N ≠ p
      · refine Or.inr ?_
        rcases ih (by omega) with hno | ⟨q, hq, hlq, hqp, hr⟩
        · refine ⟨N, by omega, cN.1, cN.2, fun r hr hlr => ?_⟩
          by_cases e : r = N
          · subst e
            exact Int.le_of_eq (trn_p x y p r).2
          · have := hno r (by omega) hlr
            subst this
            exact Int.le_of_eq (trn_p x y r N).1
        · by_cases c : trn x y p q N ≤ 0
          · refine ⟨q, by omega, hlq, hqp, fun r hr2 hlr => ?_⟩
            by_cases e : r = N
            · subst e; exact c
            · exact hr r (by omega) hlr
          · refine ⟨N, by omega, cN.1, cN.2, fun r hr2 hlr => ?_⟩
            by_cases e : r = N
            · subst e
              exact Int.le_of_eq (trn_p x y p r).2
            · by_cases e2 : r = p
              · subst e2
                exact Int.le_of_eq (trn_p x y r N).1
              · have s1 : trn x y p N q ≤ 0 := by
                  have t1 : trn x y p N q = - trn x y p q N := by unfold trn; grind
                  omega
                have s2 := hr r (by omega) hlr
                rw [trn_cr] at s1 s2 ⊢
                exact hf_tr hu (h N (by omega) cN.1 cN.2) (h q (by omega) hlq hqp) (h r (by omega) hlr e2) s1 s2
      · rcases ih (by omega) with hno | ⟨q, hq, hlq, hqp, hr⟩
        · refine Or.inl fun q hq hlq => ?_
          by_cases e : q = N
          · subst e
            apply Decidable.byContradiction
            intro z
            exact cN ⟨hlq, z⟩
          · exact hno q (by omega) hlq
        · refine Or.inr ⟨q, by omega, hlq, hqp, fun r hr2 hlr => ?_⟩
          by_cases e : r = N
          · subst e
            have e2 : r = p := by
              apply Decidable.byContradiction
              intro z
              exact cN ⟨hlr, z⟩
            subst e2
            exact Int.le_of_eq (trn_p x y r q).1
          · exact hr r (by omega) hlr
  rcases key M (Nat.le_refl _) with z | ⟨q, hq, hlq, hqp, hr⟩
  · exact Or.inr z
  · exact Or.inl ⟨q, hq, hlq, hqp, noL_iff.mpr hr⟩
theorem sq_pos {u v : Int} (h : ¬ (u = 0 ∧ v = 0)) : 0 < u * u + v * v := by
  have h1 : 0 ≤ u * u := by
    rcases Int.le_total 0 u with c | c
    · exact Int.mul_nonneg c c
    · exact Int.mul_nonneg_of_nonpos_of_nonpos c c
  have h2 : 0 ≤ v * v := by
    rcases Int.le_total 0 v with c | c
    · exact Int.mul_nonneg c c
    · exact Int.mul_nonneg_of_nonpos_of_nonpos c c
  by_cases c : u = 0
  · by_cases d : v = 0
    · exact absurd ⟨c, d⟩ h
    · have : v * v ≠ 0 := fun z => by rcases Int.mul_eq_zero.mp z with z | z <;> exact d z
      omega
  · have : u * u ≠ 0 := fun z => by rcases Int.mul_eq_zero.mp z with z | z <;> exact c z
    omega
def DisP (x y : Nat → Int) (M : Nat) : Prop := ∀ i j, i < M → j < M → x i = x j → y i = y j → i = j
theorem line_bC {x y : Nat → Int} {M : Nat} {hl : Nat → Int} {a b p : Nat} (hd : DisP x y M) (ha : a < M) (hb : b < M) (hab : a ≠ b) (hp : p < M) (hlp : hl p = -1) (hs : ∀ r, r < M → hl r = -1 → trn x y a b r ≤ 0) (h0 : trn x y a b p = 0) : bC x y M hl p = true := by
  have hu : 0 < (x b - x a) * (x b - x a) + (y b - y a) * (y b - y a) := by
    refine sq_pos fun z => hab (hd a b ha hb (by omega) (by omega))
  have al : ∀ r, crU (x b - x a) (y b - y a) (x r - x p) (y r - y p) = trn x y a b r := by
    intro r
    have : trn x y a b r = crU (x b - x a) (y b - y a) (x r - x p) (y r - y p) + trn x y a b p := by unfold trn crU; grind
    omega
  by_cases c : ∃ q, q < M ∧ hl q = -1 ∧ trn x y a b q = 0 ∧ 0 < dtU (x b - x a) (y b - y a) (x q - x p) (y q - y p)
  · obtain ⟨q, hq, hlq, tq, dq⟩ := c
    rw [bC_iff]
    refine ⟨hlp, Or.inl ⟨q, hq, hlq, ?_, noL_iff.mpr fun r hr hlr => ?_⟩⟩
    · intro e
      subst e
      unfold dtU at dq
      simp at dq
    · rw [trn_cr]
      refine np_of hu ?_
      rw [pl_2 (x b - x a) (y b - y a), al, al, tq, Int.zero_mul, Int.sub_zero]
      exact Int.mul_nonpos_of_nonneg_of_nonpos (by omega) (hs r hr hlr)
  · refine half_bC hu hlp fun k hk hlk hkp => ?_
    unfold HfP
    rw [al]
    have s1 := hs k hk hlk
    by_cases z : trn x y a b k = 0
    · refine Or.inr ⟨z, ?_⟩
      have d1 : ¬ 0 < dtU (x b - x a) (y b - y a) (x k - x p) (y k - y p) := fun w => c ⟨k, hk, hlk, z, w⟩
      have d2 : dtU (x b - x a) (y b - y a) (x k - x p) (y k - y p) ≠ 0 := by
        intro w
        have e1 := al k
        rw [z] at e1
        unfold crU at e1
        unfold dtU at w
        generalize x b - x a = u at *
        generalize y b - y a = v at *
        have g1 : (x k - x p) * (u * u + v * v) = 0 := by grind
        have g2 : (y k - y p) * (u * u + v * v) = 0 := by grind
        rcases Int.mul_eq_zero.mp g1 with g | g
        · rcases Int.mul_eq_zero.mp g2 with g' | g'
          · exact hkp (hd k p hk hp (by omega) (by omega))
          · omega
        · omega
      omega
    · exact Or.inl (by omega)
theorem lfN_one {M : Nat} {hl : Nat → Int} {p : Nat} (hp : p < M) (hlp : hl p = -1) : lfN M hl = 1 ↔ ∀ q, q < M → hl q = -1 → q = p := by
  unfold lfN
  rw [cnt_sm]
  constructor
  · intro e q hq hlq
    apply Decidable.byContradiction
    intro hne
    have : sm (fun i => ind (decide (hl i = -1))) M ≥ 2 := by
      have h2 : sm (fun i => ind (i == p) + ind (i == q)) M ≤ sm (fun i => ind (decide (hl i = -1))) M := by
        refine sm_le fun i hi => ?_
        by_cases c : i = p
        · subst c
          rw [ind_t (p := (i == i)) (by simp), ind_f (p := (i == q)) (by simp; omega), ind_t (decide_eq_true hlp)]
          omega
        · rw [ind_f (p := (i == p)) (by simpa using c)]
          by_cases d : i = q
          · subst d
            rw [ind_t (p := (i == i)) (by simp), ind_t (decide_eq_true hlq)]
            omega
          · rw [ind_f (p := (i == q)) (by simpa using d)]
            omega
      rw [sm_add, sm_one hp (fun i _ hne => ind_f (by simpa using hne)), sm_one hq (fun i _ hne => ind_f (by simpa using hne)), ind_t (p := (p == p)) (by simp), ind_t (p := (q == q)) (by simp)] at h2
      exact h2
    omega
  · intro h
    rw [sm_one hp (fun i hi hne => ind_f (by rw [decide_eq_true_iff]; exact fun z => hne (h i hi z))), ind_t (decide_eq_true hlp)]
theorem brd_eq {x y : Nat → Int} {M : Nat} {hl : Nat → Int} {p : Nat} (hd : DisP x y M) (hp : p < M) : bRs x y M hl M 0 p = bC x y M hl p := by
  rw [Bool.eq_iff_iff, bRs_iff]
  constructor
  · rintro ⟨hlp, h⟩
    rcases h with h | ⟨i, hi, j, hj, -, hli, hlj, hsd, h0⟩
    · rw [bC_iff]
      exact ⟨hlp, Or.inr ((lfN_one hp hlp).mp h)⟩
    · rw [sdB_iff] at hsd
      rcases hsd with hs | hs
      · exact line_bC hd hi (by omega) (by omega) hp hlp hs h0
      · refine line_bC hd (show j < M by omega) hi (by omega) hp hlp (fun r hr hlr => ?_) ?_
        · have := hs r hr hlr
          rw [trn_sw]; omega
        · rw [trn_sw]; omega
  · intro h
    rw [bC_iff] at h
    obtain ⟨hlp, h⟩ := h
    refine ⟨hlp, ?_⟩
    rcases h with ⟨q, hq, hlq, hne, hn⟩ | h
    · rw [noL_iff] at hn
      refine Or.inr ?_
      rcases Nat.lt_or_gt_of_ne hne with c | c
      · exact ⟨p, hp, q, c, Or.inl hp, hlp, hlq, sdB_iff.mpr (Or.inl hn), (trn_p x y p q).1⟩
      · refine ⟨q, hq, p, c, Or.inl hq, hlq, hlp, sdB_iff.mpr (Or.inr fun r hr hlr => ?_), (trn_p x y q p).2⟩
        have := hn r hr hlr
        rw [trn_sw]; omega
    · exact Or.inl ((lfN_one hp hlp).mpr h)
/-- somebody is on the border -/
theorem brd_some {x y : Nat → Int} {M : Nat} {hl : Nat → Int} (hd : DisP x y M) (h : ∃ p, p < M ∧ hl p = -1) : ∃ p, p < M ∧ bC x y M hl p = true := by
  have key : ∀ N, N ≤ M → (∀ q, q < N → hl q ≠ -1) ∨ ∃ p, p < N ∧ hl p = -1 ∧ ∀ q, q < N → hl q = -1 → (x p < x q ∨ (x p = x q ∧ y q ≤ y p)) := by
    intro N
    induction N with
    | zero => intro _; exact Or.inl fun q hq => absurd hq (Nat.not_lt_zero _)
    | succ N ih =>
      intro hN
      rcases ih (by omega) with hno | ⟨p, hp, hlp, hr⟩
      · by_cases c : hl N = -1
        · refine Or.inr ⟨N, by omega, c, fun q hq hlq => ?_⟩
          by_cases e : q = N
          · subst e; exact Or.inr ⟨rfl, Int.le_refl _⟩
          · exact absurd hlq (hno q (by omega))
        · refine Or.inl fun q hq => ?_
          by_cases e : q = N
          · subst e; exact c
          · exact hno q (by omega)
      · refine Or.inr ?_
        by_cases c : hl N = -1 ∧ ¬ (x p < x N ∨ (x p = x N ∧ y N ≤ y p))
        · refine ⟨N, by omega, c.1, fun q hq hlq => ?_⟩
          by_cases e : q = N
          · subst e; exact Or.inr ⟨rfl, Int.le_refl _⟩
          · have := hr q (by omega) hlq
            have := c.2
            omega
        · refine ⟨p, by omega, hlp, fun q hq hlq => ?_⟩
          by_cases e : q = N
          · subst e
            apply Decidable.byContradiction
            intro z
            exact c ⟨hlq, z⟩
          · exact hr q (by omega) hlq
  rcases key M (Nat.le_refl _) with hno | ⟨p, hp, hlp, hr⟩
  · obtain ⟨p, hp, hlp⟩ := h
    exact absurd hlp (hno p hp)
  · refine ⟨p, hp, half_bC (u := 0) (v := 1) (by decide) hlp fun k hk hlk hkp => ?_⟩
    have z := hr k hk hlk
    have ne : ¬ (x k = x p ∧ y k = y p) := fun w => hkp (hd k p hk hp w.1 w.2)
    unfold HfP crU dtU
    simp only [Int.zero_mul, Int.one_mul, Int.zero_sub, Int.zero_add]
    omega
/-- hull after hull -/
def hlN (x y : Nat → Int) (M : Nat) : Nat → Nat → Int
  | 0 => fun _ => -1
  | h + 1 => fun p => if bC x y M (hlN x y M h) p = true then (h : Int) else hlN x y M h p
theorem hlN_s (x y : Nat → Int) (M h p : Nat) : hlN x y M (h + 1) p = if bC x y M (hlN x y M h) p = true then (h : Int) else hlN x y M h p := rfl
theorem hlN_b (x y : Nat → Int) (M h p : Nat) : -1 ≤ hlN x y M h p ∧ hlN x y M h p < h := by
  induction h with
  | zero => exact ⟨Int.le_refl _, by show (-1 : Int) < ((0 : Nat) : Int); omega⟩
  | succ h ih =>
    rw [hlN_s]
    split <;> omega
theorem lf_step {x y : Nat → Int} {M h : Nat} : lfN M (hlN x y M (h + 1)) + cntN (bC x y M (hlN x y M h)) M = lfN M (hlN x y M h) := by
  unfold lfN
  rw [← cnt_or]
  · refine cnt_congr fun p hp => ?_
    rw [Bool.eq_iff_iff, Bool.or_eq_true, decide_eq_true_iff, decide_eq_true_iff, hlN_s]
    by_cases c : bC x y M (hlN x y M h) p = true
    · rw [if_pos c]
      exact ⟨fun _ => (bC_iff.mp c).1, fun _ => Or.inr c⟩
    · rw [if_neg c]
      exact ⟨fun z => by rcases z with z | z; exact z; exact absurd z c, Or.inl⟩
  · intro p hp h1 h2
    rw [decide_eq_true_iff, hlN_s, if_pos h2] at h1
    omega
theorem lf_0 {x y : Nat → Int} {M : Nat} : lfN M (hlN x y M 0) = M := cnt_all fun _ _ => decide_eq_true rfl
theorem bC_pos {x y : Nat → Int} {M : Nat} {hl : Nat → Int} (hd : DisP x y M) (h : 0 < lfN M hl) : 0 < cntN (bC x y M hl) M := by
  obtain ⟨p, hp, hb⟩ := brd_some (x := x) (y := y) (hl := hl) hd (by
    apply Classical.byContradiction
    intro z
    have : lfN M hl = 0 := cnt_none fun i hi q => z ⟨i, hi, of_decide_eq_true q⟩
    omega)
  apply Nat.pos_of_ne_zero
  intro z
  exact cntN_0.mp z p hp hb
theorem lf_dec {x y : Nat → Int} {M : Nat} (hd : DisP x y M) (h : Nat) : lfN M (hlN x y M h) + h ≤ M ∨ lfN M (hlN x y M h) = 0 := by
  induction h with
  | zero => rw [lf_0]; exact Or.inl (Nat.le_refl _)
  | succ h ih =>
    have s := lf_step (x := x) (y := y) (M := M) (h := h)
    by_cases c : lfN M (hlN x y M h) = 0
    · omega
    · have := bC_pos (x := x) (y := y) hd (show 0 < lfN M (hlN x y M h) by omega)
      omega
def HlE (x y : Nat → Int) (M H : Nat) : Prop := lfN M (hlN x y M H) = 0 ∧ ∀ h, h < H → lfN M (hlN x y M h) ≠ 0
theorem HlE_one {x y : Nat → Int} {M H H' : Nat} (h : HlE x y M H) (h' : HlE x y M H') : H = H' := by
  rcases Nat.lt_trichotomy H H' with c | c | c
  · exact absurd h.1 (h'.2 H c)
  · exact c
  · exact absurd h'.1 (h.2 H' c)
/-- the ends, each place once, in the row in which they come -/
def enX (D : Nat → Nat → Int) (k : Nat) : Int × Int := if k % 2 = 0 then (D 0 (k / 2), D 1 (k / 2)) else (D 2 (k / 2), D 3 (k / 2))
def plF (D : Nat → Nat → Int) : Nat → Nat × (Nat → Int × Int)
  | 0 => (0, fun _ => (0, 0))
  | k + 1 => if ∃ j, j < (plF D k).1 ∧ (plF D k).2 j = enX D k then plF D k else ((plF D k).1 + 1, fun j => if j = (plF D k).1 then enX D k else (plF D k).2 j)
theorem plF_s (D : Nat → Nat → Int) (k : Nat) : plF D (k + 1) = if ∃ j, j < (plF D k).1 ∧ (plF D k).2 j = enX D k then plF D k else ((plF D k).1 + 1, fun j => if j = (plF D k).1 then enX D k else (plF D k).2 j) := rfl
theorem plF_ok {D : Nat → Nat → Int} {n : Nat} (h : LsD D (n : Int)) : ∀ k, k ≤ 2 * n → (plF D k).1 ≤ k ∧ (∀ i j, i < (plF D k).1 → j < (plF D k).1 → (plF D k).2 i = (plF D k).2 j → i = j) ∧ (∀ j, j < (plF D k).1 → (0 ≤ ((plF D k).2 j).1 ∧ ((plF D k).2 j).1 ≤ 40) ∧ (0 ≤ ((plF D k).2 j).2 ∧ ((plF D k).2 j).2 ≤ 40)) ∧ ∀ e, e < k → ∃ j, j < (plF D k).1 ∧ (plF D k).2 j = enX D e := by
  intro k
  induction k with
  | zero => intro _; exact ⟨Nat.le_refl _, fun i j hi => absurd hi (Nat.not_lt_zero _), fun j hj => absurd hj (Nat.not_lt_zero _), fun e he => absurd he (Nat.not_lt_zero _)⟩
  | succ k ih =>
    intro hk
    obtain ⟨h1, h2, h3, h4⟩ := ih (by omega)
    have hb : (0 ≤ (enX D k).1 ∧ (enX D k).1 ≤ 40) ∧ (0 ≤ (enX D k).2 ∧ (enX D k).2 ≤ 40) := by
      obtain ⟨⟨a1, a2, a3, a4⟩, -⟩ := h.2 (k / 2) (by omega)
      unfold enX
      split <;> exact ⟨by assumption, by assumption⟩
    rw [plF_s]
    by_cases c : ∃ j, j < (plF D k).1 ∧ (plF D k).2 j = enX D k
    · rw [if_pos c]
      refine ⟨by omega, h2, h3, fun e he => ?_⟩
      by_cases z : e = k
      · subst z; exact c
      · exact h4 e (by omega)
    · rw [if_neg c]
      have hc : ∀ j, j < (plF D k).1 → (plF D k).2 j ≠ enX D k := fun j hj e => c ⟨j, hj, e⟩
      refine ⟨by simp only; omega, fun i j hi hj e => ?_, fun j hj => ?_, fun e he => ?_⟩
      · simp only at hi hj e
        by_cases ci : i = (plF D k).1
        · by_cases cj : j = (plF D k).1
          · omega
          · rw [if_pos ci, if_neg cj] at e
            exact absurd e.symm (hc j (by omega))
        · by_cases cj : j = (plF D k).1
          · rw [if_neg ci, if_pos cj] at e
            exact absurd e (hc i (by omega))
          · rw [if_neg ci, if_neg cj] at e
            exact h2 i j (by omega) (by omega) e
      · simp only at hj ⊢
        by_cases cj : j = (plF D k).1
        · rw [if_pos cj]; exact hb
        · rw [if_neg cj]; exact h3 j (by omega)
      · simp only
        by_cases z : e = k
        · subst z
          exact ⟨(plF D e).1, by omega, if_pos rfl⟩
        · obtain ⟨j, hj, ej⟩ := h4 e (by omega)
          exact ⟨j, by omega, by rw [if_neg (by omega)]; exact ej⟩
