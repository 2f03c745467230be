/-! Euler's count of the faces of the sheet -/
noncomputable def cov (D : Nat → Nat → Int) (g : Nat → Int × Int) (n c r : Nat) : Bool := decide (∃ i, i < n ∧ upS D g n c r i = true)
theorem cov_iff {D : Nat → Nat → Int} {g : Nat → Int × Int} {n c r : Nat} : cov D g n c r = true ↔ ∃ i, i < n ∧ upS D g n c r i = true := by unfold cov; exact decide_eq_true_iff
noncomputable def eH (D : Nat → Nat → Int) (g : Nat → Int × Int) (n e : Nat) : Bool := if e % 2 = 0 then true else cov D g n (e / 2 / 32) (e / 2 % 32)
theorem eH_even (D : Nat → Nat → Int) (g : Nat → Int × Int) (n : Nat) {c k : Nat} (hk : k < 32) : eH D g n (2 * (32 * c + k)) = true := by
  unfold eH
  rw [if_pos (d2 (c := c) hk).1]
theorem eH_odd (D : Nat → Nat → Int) (g : Nat → Int × Int) (n : Nat) {c k : Nat} (hk : k < 32) : eH D g n (2 * (32 * c + k) + 1) = cov D g n c k := by
  obtain ⟨-, -, -, a1, a2, a3⟩ := d2 (c := c) hk
  unfold eH
  rw [a1, a2, a3]
  rfl
noncomputable def lsH (D : Nat → Nat → Int) (g : Nat → Int × Int) (n M : Nat) : List Nat := (List.range (2 * (32 * (M + 1)))).filter (fun e => eVl D g n M e && eH D g n e)
noncomputable def lsR (D : Nat → Nat → Int) (g : Nat → Int × Int) (n M : Nat) : List Nat := (List.range (2 * (32 * (M + 1)))).filter (fun e => eVl D g n M e && !eH D g n e)
theorem len_flt (p : Nat → Bool) (N : Nat) : ((List.range N).filter p).length = cntN p N := by
  induction N with
  | zero => rfl
  | succ N ih =>
    rw [List.range_succ, List.filter_append, List.length_append, ih, cntN_s]
    by_cases c : p N = true
    · rw [if_pos c]
      simp [c]
    · rw [if_neg c]
      simp [c]
theorem mem_H {D : Nat → Nat → Int} {g : Nat → Int × Int} {n M e : Nat} : e ∈ lsH D g n M ↔ (e < 2 * (32 * (M + 1)) ∧ eVl D g n M e = true ∧ eH D g n e = true) := by
  unfold lsH
  rw [List.mem_filter, List.mem_range, Bool.and_eq_true]
theorem mem_R {D : Nat → Nat → Int} {g : Nat → Int × Int} {n M e : Nat} : e ∈ lsR D g n M ↔ (e < 2 * (32 * (M + 1)) ∧ eVl D g n M e = true ∧ ¬ eH D g n e = true) := by
  unfold lsR
  rw [List.mem_filter, List.mem_range, Bool.and_eq_true, Bool.not_eq_true', Bool.not_eq_true]
theorem nd_HR (D : Nat → Nat → Int) (g : Nat → Int × Int) (n M : Nat) : (lsH D g n M ++ lsR D g n M).Nodup := by
  rw [List.nodup_append]
  refine ⟨List.Pairwise.filter _ List.nodup_range, List.Pairwise.filter _ List.nodup_range, fun a ha b hb e => ?_⟩
  subst e
  exact (mem_R.mp hb).2.2 (mem_H.mp ha).2.2
theorem sm_ck (f : Nat → Nat) (K : Nat) : sm f (2 * (32 * K)) = sm (fun c => sm (fun k => f (2 * (32 * c + k))) 32) K + sm (fun c => sm (fun k => f (2 * (32 * c + k) + 1)) 32) K := by
  rw [sm_pair, sm_add, sm_block, sm_block]
theorem sm_ltc {a n : Nat} (h : a ≤ n) : sm (fun k => ind (decide (k < a))) n = a := by
  rw [← cnt_sm]
  have e : n = a + (n - a) := by omega
  rw [cnt_sm, e, sm_split, sm_0 (f := fun i => ind (decide (a + i < a))) (fun i _ => ind_f (by rw [decide_eq_true_iff]; omega))]
  rw [← cnt_sm, cnt_all (fun i hi => decide_eq_true hi)]
  rfl
theorem cnt_edges {D : Nat → Nat → Int} {n m M : Nat} {f : Nat → Int × Int × Int × Int} {g : Nat → Int × Int} (hS : Swp D n m f M g) : cntN (eVl D g n M) (2 * (32 * (M + 1))) = sm (fun c => nC D g n M c - 1) (M + 1) + sm (fun c => tK D g n c + 1) M := by
  have hn := hS.1.1
  rw [cnt_sm, sm_ck]
  congr 1
  · refine sm_congr fun c _ => ?_
    have nl := nC_le (g := g) (M := M) (s := c) hS.1
    rw [← sm_ltc (show nC D g n M c - 1 ≤ 32 by omega)]
    refine sm_congr fun k hk => ?_
    rw [(e_even D g n M hk).1]
  · rw [sm_s, sm_0 (f := fun k => ind (eVl D g n M (2 * (32 * M + k) + 1))) (fun k hk => ?_)]
    · refine sm_congr fun c hc => ?_
      have t := tK_20 (D := D) (g := g) (n := n) (c := c) (by omega)
      rw [← sm_ltc (show tK D g n c + 1 ≤ 32 by omega)]
      refine sm_congr fun k hk => ?_
      rw [(e_odd D g n M hk).1]
      congr 1
      exact decide_eq_decide.mpr (by omega)
    · rw [(e_odd D g n M hk).1]
      exact ind_f (by rw [decide_eq_true_iff]; omega)
/-- codes of places where lines are with an x, and codes of none -/
noncomputable def prB (D : Nat → Nat → Int) (g : Nat → Int × Int) (n M x : Nat) : Bool := decide (x < 32 * M ∧ x % 32 < tK D g n (x / 32))
noncomputable def abB (D : Nat → Nat → Int) (g : Nat → Int × Int) (n M x : Nat) : Bool := decide (x < 32 * M ∧ ¬ x % 32 < tK D g n (x / 32))
theorem pr_at (D : Nat → Nat → Int) (g : Nat → Int × Int) (n M : Nat) {c k : Nat} (hc : c < M) (hk : k < 32) : prB D g n M (32 * c + k) = decide (k < tK D g n c) := by
  unfold prB
  rw [show (32 * c + k) % 32 = k by omega, show (32 * c + k) / 32 = c by omega]
  exact decide_eq_decide.mpr (by omega)
theorem cnt_pr {D : Nat → Nat → Int} {g : Nat → Int × Int} {n M : Nat} (hn : n ≤ 10) : cntN (prB D g n M) (32 * M) = sm (tK D g n) M := by
  rw [cnt_sm, sm_block]
  refine sm_congr fun c hc => ?_
  have t := tK_20 (D := D) (g := g) (c := c) hn
  have e := sm_ltc (show tK D g n c ≤ 32 by omega)
  rw [← e, e]
  refine (sm_congr fun k hk => ?_).trans e
  rw [pr_at D g n M hc hk]
theorem cnt_ab {D : Nat → Nat → Int} {g : Nat → Int × Int} {n M : Nat} (hn : n ≤ 10) : cntN (abB D g n M) (32 * M) + sm (tK D g n) M = 32 * M := by
  have h := cnt_not (prB D g n M) (32 * M)
  rw [cnt_pr hn] at h
  have e : cntN (abB D g n M) (32 * M) = cntN (fun i => !prB D g n M i) (32 * M) := by
    refine cnt_congr fun x hx => ?_
    unfold abB prB
    rw [Bool.eq_iff_iff, Bool.not_eq_true', decide_eq_true_iff, decide_eq_false_iff_not]
    omega
  omega
theorem ends_pr {D : Nat → Nat → Int} {n m M : Nat} {f : Nat → Int × Int × Int × Int} {g : Nat → Int × Int} (hS : Swp D n m f M g) {e : Nat} (he : e < 2 * (32 * (M + 1))) (hv : eVl D g n M e = true) : (eU D g n M e = 32 * M ∨ prB D g n M (eU D g n M e) = true) ∧ (eV D g n M e = 32 * M ∨ prB D g n M (eV D g n M e) = true) := by
  have hn := hS.1.1
  obtain ⟨c, k, hc, hk, rfl | rfl⟩ := e_form he
  · obtain ⟨a1, a2, a3, a4, a5⟩ := e_even D g n M (c := c) hk
    rw [a1, decide_eq_true_iff] at hv
    obtain ⟨k1, k2, k3, k4, -⟩ := EV_ok hS (s := c) (c := c) hv (Or.inl rfl)
    have k5 := (EV_ok hS (s := c) (c := c - 1) hv (Or.inr (by omega))).2.2.2.1
    have r1 := rk_lt k4
    have r2 := rk_lt k5
    have t1 := tK_20 (D := D) (g := g) (n := n) (c := c) (by omega)
    have t2 := tK_20 (D := D) (g := g) (n := n) (c := c - 1) (by omega)
    rw [a2, a3, pr_at D g n M (show c - 1 < M by omega) (by omega), pr_at D g n M k2 (by omega), decide_eq_true_iff, decide_eq_true_iff]
    exact ⟨Or.inr r2, Or.inr r1⟩
  · obtain ⟨a1, a2, a3, a4, a5⟩ := e_odd D g n M (c := c) hk
    rw [a1, decide_eq_true_iff] at hv
    have t1 := tK_20 (D := D) (g := g) (n := n) (c := c) (by omega)
    rw [a2, a3]
    refine ⟨?_, ?_⟩
    · split
      · exact Or.inl rfl
      · rw [pr_at D g n M hv.1 (by omega), decide_eq_true_iff]
        exact Or.inr (by omega)
    · split
      · exact Or.inl rfl
      · rw [pr_at D g n M hv.1 (by omega), decide_eq_true_iff]
        exact Or.inr (by omega)
theorem lbl_iso {A B : Nat → Nat} {n : Nat} {l : List Nat} (h : ∀ e, e ∈ l → A e < n ∧ B e < n) {P : Nat → Bool} (hP : ∀ e, e ∈ l → P (A e) = P (B e)) {x : Nat} (hx : x < n) : P (lbl A B l x) = P x := by
  have := (lbl_ok l h).2.2 (fun i => (P i).toNat) (fun a b _ _ r => by
    obtain ⟨e, he, rfl, rfl⟩ := r
    rw [hP e he]) x hx
  revert this
  show (P (lbl A B l x)).toNat = (P x).toNat → _
  generalize P (lbl A B l x) = p
  generalize P x = q
  revert p q
  decide
theorem lbl_fix {A B : Nat → Nat} {n : Nat} {l : List Nat} (h : ∀ e, e ∈ l → A e < n ∧ B e < n) {x : Nat} (hx : x < n) (hn : ∀ e, e ∈ l → A e ≠ x ∧ B e ≠ x) : lbl A B l x = x := by
  have := lbl_iso (P := fun i => i == x) h (fun e he => by
    have := hn e he
    have e1 : (A e == x) = false := by simpa using this.1
    have e2 : (B e == x) = false := by simpa using this.2
    show (A e == x) = (B e == x)
    rw [e1, e2]) hx
  have e : (lbl A B l x == x) = (x == x) := this
  have e2 : (x == x) = true := by simp
  rw [e2, beq_iff_eq] at e
  exact e
theorem ab_iso {D : Nat → Nat → Int} {n m M : Nat} {f : Nat → Int × Int × Int × Int} {g : Nat → Int × Int} (hS : Swp D n m f M g) {l : List Nat} (hl : ∀ e, e ∈ l → e < 2 * (32 * (M + 1)) ∧ eVl D g n M e = true) {x : Nat} (hx : abB D g n M x = true) : lbl (eU D g n M) (eV D g n M) l x = x := by
  unfold abB at hx
  rw [decide_eq_true_iff] at hx
  have nab : ∀ y, (y = 32 * M ∨ prB D g n M y = true) → y ≠ x := by
    rintro y (e | e) rfl
    · omega
    · unfold prB at e
      rw [decide_eq_true_iff] at e
      omega
  refine lbl_fix (n := 32 * M + 1) (fun e he => (e_bd hS (hl e he).1 (hl e he).2).1) (by omega) fun e he => ?_
  have := ends_pr hS (hl e he).1 (hl e he).2
  exact ⟨nab _ this.1, nab _ this.2⟩
theorem cls_low {D : Nat → Nat → Int} {n m M : Nat} {f : Nat → Int × Int × Int × Int} {g : Nat → Int × Int} (hS : Swp D n m f M g) {l : List Nat} (hl : ∀ e, e ∈ l → e < 2 * (32 * (M + 1)) ∧ eVl D g n M e = true) : cntN (abB D g n M) (32 * M) + 1 ≤ cls (eU D g n M) (eV D g n M) l (32 * M + 1) := by
  have hb : ∀ e, e ∈ l → eU D g n M e < 32 * M + 1 ∧ eV D g n M e < 32 * M + 1 := fun e he => (e_bd hS (hl e he).1 (hl e he).2).1
  have lo := lbl_ok (A := eU D g n M) (B := eV D g n M) (n := 32 * M + 1) l hb
  have nabf : ∀ y, (y = 32 * M ∨ prB D g n M y = true) → abB D g n M y = false := by
    intro y h
    unfold abB
    rw [decide_eq_false_iff_not]
    rcases h with e | e
    · omega
    · unfold prB at e
      rw [decide_eq_true_iff] at e
      omega
  have r0 := lbl_iso (P := abB D g n M) hb (fun e he => by
    have := ends_pr hS (hl e he).1 (hl e he).2
    rw [nabf _ this.1, nabf _ this.2]) (show 32 * M < 32 * M + 1 by omega)
  rw [nabf (32 * M) (Or.inl rfl)] at r0
  have rr := Lab_root lo (show 32 * M < 32 * M + 1 by omega)
  have rl := lo.1 (32 * M) (by omega)
  generalize hr : lbl (eU D g n M) (eV D g n M) l (32 * M) = r at *
  have e1 : cntN (abB D g n M) (32 * M + 1) = cntN (abB D g n M) (32 * M) := by
    rw [cntN_s, if_neg (by rw [nabf (32 * M) (Or.inl rfl)]; decide)]
  have e2 : cntN (fun i => i == r) (32 * M + 1) = 1 := by
    rw [cnt_sm, sm_one (k := r) (by omega) (fun i _ hne => ind_f (by simpa using hne))]
    exact ind_t (by simp)
  have e3 : cntN (fun i => abB D g n M i || i == r) (32 * M + 1) = cntN (abB D g n M) (32 * M + 1) + cntN (fun i => i == r) (32 * M + 1) := by
    refine cnt_or fun i _ h1 h2 => ?_
    rw [beq_iff_eq] at h2
    subst h2
    rw [r0] at h1
    exact absurd h1 (by decide)
  have e4 : cntN (fun i => abB D g n M i || i == r) (32 * M + 1) ≤ cls (eU D g n M) (eV D g n M) l (32 * M + 1) := by
    refine cnt_mono fun i _ c => ?_
    rw [Bool.or_eq_true] at c
    rw [beq_iff_eq]
    rcases c with c | c
    · exact ab_iso hS hl c
    · rw [beq_iff_eq] at c
      rw [c]; exact rr
  omega
/-- cells that meet -/
def JnR (D : Nat → Nat → Int) (g : Nat → Int × Int) (n M a b : Nat) : Prop := ∃ c, c < M ∧ ∃ r, r ≤ tK D g n c ∧ ¬ cov D g n c r = true ∧ a = fC D g n M c + psC D g n M c c r ∧ b = fC D g n M (c + 1) + psC D g n M (c + 1) c r
/-- places next to each other along lines, with an x each -/
noncomputable def lbH (D : Nat → Nat → Int) (g : Nat → Int × Int) (n M : Nat) : Nat → Nat := lbl (eU D g n M) (eV D g n M) (lsH D g n M).reverse
theorem cov_r {D : Nat → Nat → Int} {g : Nat → Int × Int} {n c r : Nat} (h : cov D g n c r = true) : 1 ≤ r ∧ r < tK D g n c := by
  obtain ⟨i, hi, u⟩ := cov_iff.mp h
  rw [upS_iff] at u
  have t := rk_lt (T_up (g := g) (c := c) hi u.2.1 u.1).2
  omega
theorem eu_inst {D : Nat → Nat → Int} {n m M : Nat} {f : Nat → Int × Int × Int × Int} {g : Nat → Int × Int} (hS : Swp D n m f M g) {lab : Nat → Nat} (hl : LabOf (JnR D g n M) (fC D g n M (M + 1)) lab) : cntN (fun i => lab i == i) (fC D g n M (M + 1)) + sm (tK D g n) M = 1 + cntN (fun e => eVl D g n M e && eH D g n e) (2 * (32 * (M + 1))) + cntN (fun x => prB D g n M x && lbH D g n M x == x) (32 * M) := by
  have hn := hS.1.1
  have hLH : ∀ x, x ∈ lsH D g n M ++ lsR D g n M → x < 2 * (32 * (M + 1)) ∧ eVl D g n M x = true := by
    intro x hx
    rcases List.mem_append.mp hx with h | h
    · have := mem_H.mp h; exact ⟨this.1, this.2.1⟩
    · have := mem_R.mp h; exact ⟨this.1, this.2.1⟩
  have len : (lsH D g n M).length + (lsR D g n M).length = sm (fun c => nC D g n M c - 1) (M + 1) + sm (fun c => tK D g n c + 1) M := by
    unfold lsH lsR
    rw [len_flt, len_flt, ← cnt_edges hS, ← cnt_or]
    · refine cnt_congr fun e _ => ?_
      cases eVl D g n M e <;> cases eH D g n e <;> rfl
    · intro e _ h1 h2
      rw [Bool.and_eq_true] at h1 h2
      rw [h1.2] at h2
      exact absurd h2.2 (by decide)
  have ab := cnt_ab (D := D) (g := g) (n := n) (M := M) (by omega)
  have fc : fC D g n M (M + 1) = sm (fun c => nC D g n M c - 1) (M + 1) + (M + 1) := by
    have : sm (fun c => (nC D g n M c - 1) + 1) (M + 1) = sm (fun c => nC D g n M c - 1) (M + 1) + (M + 1) := by rw [sm_add, sm_c]; omega
    rw [← this]
    refine sm_congr fun c _ => ?_
    have := nC_le (g := g) (M := M) (s := c) hS.1
    omega
  have low := cls_low hS (l := (lsR D g n M).reverse ++ (lsH D g n M).reverse) (fun e he => hLH e (by
    rw [List.mem_append, List.mem_reverse, List.mem_reverse] at he
    rw [List.mem_append]
    exact he.symm))
  have st : sm (fun c => tK D g n c + 1) M = sm (tK D g n) M + M := by rw [sm_add, sm_c]; omega
  have E := euler (nv := 32 * M + 1) (nc := fC D g n M (M + 1)) (planar hS) (fun e he hv => e_bd hS he hv) hLH (nd_HR D g n M) (by omega) (by omega)
  have eF : cls (eC D g n M) (eE D g n M) (lsR D g n M) (fC D g n M (M + 1)) = cntN (fun i => lab i == i) (fC D g n M (M + 1)) := by
    have lo := lbl_ok (A := eC D g n M) (B := eE D g n M) (n := fC D g n M (M + 1)) (lsR D g n M) (fun e he => (e_bd hS (mem_R.mp he).1 (mem_R.mp he).2.1).2)
    have lo2 : LabOf (JnR D g n M) (fC D g n M (M + 1)) (lbl (eC D g n M) (eE D g n M) (lsR D g n M)) := by
      refine Lab_congr lo (fun a b _ _ => ?_) (fun _ _ => rfl)
      constructor
      · rintro ⟨e, he, rfl, rfl⟩
        obtain ⟨h1, h2, h3⟩ := mem_R.mp he
        obtain ⟨c, k, hc, hk, rfl | rfl⟩ := e_form h1
        · exact absurd (eH_even D g n hk) h3
        · obtain ⟨a1, a2, a3, a4, a5⟩ := e_odd D g n M (c := c) hk
          rw [a1, decide_eq_true_iff] at h2
          rw [eH_odd D g n hk] at h3
          exact ⟨c, h2.1, k, h2.2, h3, a4, a5⟩
      · rintro ⟨c, hc, r, hr, hcv, e1, e2⟩
        have t := tK_20 (D := D) (g := g) (n := n) (c := c) (by omega)
        obtain ⟨a1, a2, a3, a4, a5⟩ := e_odd D g n M (c := c) (show r < 32 by omega)
        refine ⟨2 * (32 * c + r) + 1, mem_R.mpr ⟨by omega, by rw [a1, decide_eq_true_iff]; exact ⟨hc, hr⟩, by rw [eH_odd D g n (by omega)]; exact hcv⟩, by rw [a4]; exact e1, by rw [a5]; exact e2⟩
    have one := Lab_one lo2 hl
    exact cnt_congr fun i hi => by rw [one i hi]
  have eH2 : (lsH D g n M).length = cntN (fun e => eVl D g n M e && eH D g n e) (2 * (32 * (M + 1))) := len_flt _ _
  have hlr : ∀ e, e ∈ (lsH D g n M).reverse → e < 2 * (32 * (M + 1)) ∧ eVl D g n M e = true := fun e he => hLH e (List.mem_append_left _ (List.mem_reverse.mp he))
  have eP : cls (eU D g n M) (eV D g n M) (lsH D g n M).reverse (32 * M + 1) = cntN (abB D g n M) (32 * M) + cntN (fun x => prB D g n M x && lbH D g n M x == x) (32 * M) + 1 := by
    have inf : lbl (eU D g n M) (eV D g n M) (lsH D g n M).reverse (32 * M) = 32 * M := by
      refine lbl_fix (n := 32 * M + 1) (fun e he => (e_bd hS (hlr e he).1 (hlr e he).2).1) (by omega) fun e he => ?_
      obtain ⟨h1, h2, h3⟩ := mem_H.mp (List.mem_reverse.mp he)
      obtain ⟨c, k, hc, hk, rfl | rfl⟩ := e_form h1
      · obtain ⟨a1, a2, a3, a4, a5⟩ := e_even D g n M (c := c) hk
        rw [a1, decide_eq_true_iff] at h2
        obtain ⟨k1, k2, -⟩ := EV_ok hS (s := c) (c := c) h2 (Or.inl rfl)
        have r1 := rk_32 hS (s := c) (c := c) h2 (Or.inl rfl)
        have r2 := rk_32 hS (s := c) (c := c - 1) h2 (Or.inr (by omega))
        rw [a2, a3]
        omega
      · obtain ⟨a1, a2, a3, a4, a5⟩ := e_odd D g n M (c := c) hk
        rw [a1, decide_eq_true_iff] at h2
        rw [eH_odd D g n hk] at h3
        have := cov_r h3
        rw [a2, a3, if_neg (by omega), if_neg (by omega)]
        omega
    unfold cls
    rw [cntN_s, if_pos (by rw [inf]; simp), ← cnt_or]
    · congr 1
      refine cnt_congr fun x hx => ?_
      rw [Bool.eq_iff_iff, Bool.or_eq_true, Bool.and_eq_true]
      have key : abB D g n M x = true ∨ prB D g n M x = true := by
        unfold abB prB
        rw [decide_eq_true_iff, decide_eq_true_iff]
        omega
      constructor
      · intro z
        rcases key with k | k
        · exact Or.inl k
        · exact Or.inr ⟨k, z⟩
      · rintro (z | z)
        · rw [beq_iff_eq]
          exact ab_iso hS hlr z
        · exact z.2
    · intro x _ h1 h2
      unfold abB at h1
      rw [Bool.and_eq_true] at h2
      have h3 := h2.1
      unfold prB at h3
      rw [decide_eq_true_iff] at h1 h3
      omega
  omega
