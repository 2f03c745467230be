/-! cells at an x: between which places they lie -/
noncomputable def loB (D : Nat → Nat → Int) (g : Nat → Int × Int) (n s q c : Nat) : Int := if q = 0 then -100000 * KK else EV D g n s (q - 1) c
noncomputable def hiB (D : Nat → Nat → Int) (g : Nat → Int × Int) (n M s q c : Nat) : Int := if q + 1 < nC D g n M s then EV D g n s q c else 100000 * KK
noncomputable def rl (D : Nat → Nat → Int) (g : Nat → Int × Int) (n c : Nat) (F : Int) : Nat := rkI (tau D g n c) (tK D g n c) (F + 1)
def mxI (a b : Int) : Int := if a < b then b else a
def mnI (a b : Int) : Int := if b < a then b else a
theorem T_rng {D : Nat → Nat → Int} {n m M : Nat} {f : Nat → Int × Int × Int × Int} {g : Nat → Int × Int} (hS : Swp D n m f M g) {c : Nat} {y : Int} (hc : c < M) (h : IsT D g n c y) : 0 ≤ y ∧ y ≤ 40 * KK := by
  obtain ⟨i, hi, o⟩ := Tv_on hS hc h
  have hb := (hS.1.2 i (by omega)).1
  have m1 := minI_b hb.2.1 hb.2.2.2
  have m2 := maxI_b hb.2.1 hb.2.2.2
  have kp := KK_pos
  have o1 := o.2.1
  have a1 : 0 ≤ minI (D 1 i) (D 3 i) * KK := Int.mul_nonneg m1.1 (by omega)
  have a2 : maxI (D 1 i) (D 3 i) * KK ≤ 40 * KK := Int.mul_le_mul_of_nonneg_right m2.2 (by omega)
  omega
theorem rl_T {D : Nat → Nat → Int} {g : Nat → Int × Int} {n c : Nat} {y : Int} (h : IsT D g n c y) : rl D g n c y = rk D g n c y + 1 := by
  have inc := (tau_ok D g n c).1.1
  have lt := rk_lt h
  have e := tau_rk h
  have le := rkI_le (tau D g n c) (tK D g n c) (y + 1)
  unfold rl
  have a : rk D g n c y < rkI (tau D g n c) (tK D g n c) (y + 1) := (rkI_lt inc (y + 1) _ lt).mpr (by omega)
  apply Decidable.byContradiction
  intro z
  have hj : rk D g n c y + 1 < tK D g n c := by omega
  have b := (rkI_lt inc (y + 1) _ hj).mp (by omega)
  have d := inc (rk D g n c y) (rk D g n c y + 1) (by omega) hj
  unfold ltI at d
  omega
theorem rl_far {D : Nat → Nat → Int} {n m M : Nat} {f : Nat → Int × Int × Int × Int} {g : Nat → Int × Int} (hS : Swp D n m f M g) {c : Nat} (hc : c < M) : rl D g n c (-100000 * KK) = 0 := by
  have kp := KK_pos
  refine cntN_0.mpr fun k hk z => ?_
  rw [decide_eq_true_iff] at z
  have := T_rng hS hc ⟨k, hk, rfl⟩
  omega
theorem rk_far {D : Nat → Nat → Int} {n m M : Nat} {f : Nat → Int × Int × Int × Int} {g : Nat → Int × Int} (hS : Swp D n m f M g) {c : Nat} (hc : c < M) : rk D g n c (100000 * KK) = tK D g n c := by
  have kp := KK_pos
  refine cnt_all fun k hk => ?_
  rw [decide_eq_true_iff]
  have := T_rng hS hc ⟨k, hk, rfl⟩
  omega
def loK (D : Nat → Nat → Int) (g : Nat → Int × Int) (n c : Nat) (F : Int) : Prop := IsT D g n c F ∨ F = -100000 * KK
def hiK (D : Nat → Nat → Int) (g : Nat → Int × Int) (n c : Nat) (F : Int) : Prop := IsT D g n c F ∨ F = 100000 * KK
theorem lo_mx {D : Nat → Nat → Int} {g : Nat → Int × Int} {n c : Nat} {F F' : Int} (h : loK D g n c F) (h' : loK D g n c F') : loK D g n c (mxI F F') := by
  unfold mxI; split
  · exact h'
  · exact h
theorem hi_mn {D : Nat → Nat → Int} {g : Nat → Int × Int} {n c : Nat} {F F' : Int} (h : hiK D g n c F) (h' : hiK D g n c F') : hiK D g n c (mnI F F') := by
  unfold mnI; split
  · exact h'
  · exact h
theorem rl_mono {D : Nat → Nat → Int} {g : Nat → Int × Int} {n c : Nat} {F F' : Int} (h : F ≤ F') : rl D g n c F ≤ rl D g n c F' := rkI_mono (by omega)
theorem rl_mx (D : Nat → Nat → Int) (g : Nat → Int × Int) (n c r : Nat) (F F' : Int) : rl D g n c (mxI F F') ≤ r ↔ (rl D g n c F ≤ r ∧ rl D g n c F' ≤ r) := by
  unfold mxI
  split
  · have := rl_mono (D := D) (g := g) (n := n) (c := c) (show F ≤ F' by omega); omega
  · have := rl_mono (D := D) (g := g) (n := n) (c := c) (show F' ≤ F by omega); omega
theorem rk_mn (D : Nat → Nat → Int) (g : Nat → Int × Int) (n c r : Nat) (F F' : Int) : r ≤ rk D g n c (mnI F F') ↔ (r ≤ rk D g n c F ∧ r ≤ rk D g n c F') := by
  unfold mnI
  split
  · have : rk D g n c F' ≤ rk D g n c F := rkI_mono (by omega)
    omega
  · have : rk D g n c F ≤ rk D g n c F' := rkI_mono (by omega)
    omega
theorem str_ex {D : Nat → Nat → Int} {n m M : Nat} {f : Nat → Int × Int × Int × Int} {g : Nat → Int × Int} (hS : Swp D n m f M g) {c : Nat} (hc : c < M) {F T : Int} (hF : loK D g n c F) (hT : hiK D g n c T) : F < T ↔ ∃ r, r ≤ tK D g n c ∧ rl D g n c F ≤ r ∧ r ≤ rk D g n c T := by
  have kp := KK_pos
  constructor
  · intro h
    exact ⟨rk D g n c T, rkI_le _ _ _, rkI_mono (by omega), Nat.le_refl _⟩
  · rintro ⟨r, r1, r2, r3⟩
    apply Decidable.byContradiction
    intro z
    rcases hF with hF | hF
    · have := rl_T hF
      have : rk D g n c T ≤ rk D g n c F := rkI_mono (by omega)
      omega
    · rcases hT with hT | hT
      · have := T_rng hS hc hT
        omega
      · omega
/-- a cell's bounds are places -/
theorem lo_K {D : Nat → Nat → Int} {n m M : Nat} {f : Nat → Int × Int × Int × Int} {g : Nat → Int × Int} (hS : Swp D n m f M g) {s q c : Nat} (hq : q < nC D g n M s) (hc : c = s ∨ c + 1 = s) : loK D g n c (loB D g n s q c) := by
  unfold loB
  split
  · exact Or.inr rfl
  · exact Or.inl (EV_ok hS (s := s) (q := q - 1) (c := c) (by omega) hc).2.2.2.1
theorem hi_K {D : Nat → Nat → Int} {n m M : Nat} {f : Nat → Int × Int × Int × Int} {g : Nat → Int × Int} (hS : Swp D n m f M g) {s q c : Nat} (hc : c = s ∨ c + 1 = s) : hiK D g n c (hiB D g n M s q c) := by
  unfold hiB
  split
  · exact Or.inl (EV_ok hS (s := s) (q := q) (c := c) (by omega) hc).2.2.2.1
  · exact Or.inr rfl
/-- stretches of a cell -/
theorem cell_r {D : Nat → Nat → Int} {n m M : Nat} {f : Nat → Int × Int × Int × Int} {g : Nat → Int × Int} (hS : Swp D n m f M g) {s q c r : Nat} (hq : q < nC D g n M s) (hc : c = s ∨ c + 1 = s) (hcM : c < M) (hr : r ≤ tK D g n c) : psC D g n M s c r = q ↔ (rl D g n c (loB D g n s q c) ≤ r ∧ r ≤ rk D g n c (hiB D g n M s q c)) := by
  have le := ps_le D g n M s c r
  have h1 : rl D g n c (loB D g n s q c) ≤ r ↔ (q = 0 ∨ q - 1 < psC D g n M s c r) := by
    unfold loB
    by_cases e : q = 0
    · rw [if_pos e, rl_far hS hcM]; omega
    · rw [if_neg e, rl_T (EV_ok hS (s := s) (q := q - 1) (c := c) (by omega) hc).2.2.2.1, ps_lt hS (show q - 1 < nC D g n M s - 1 by omega) hc]
      omega
  have h2 : r ≤ rk D g n c (hiB D g n M s q c) ↔ (q + 1 = nC D g n M s ∨ ¬ q < psC D g n M s c r) := by
    unfold hiB
    by_cases e : q + 1 < nC D g n M s
    · rw [if_pos e, ps_lt hS (show q < nC D g n M s - 1 by omega) hc]
      omega
    · rw [if_neg e, rk_far hS hcM]
      omega
  rw [h1, h2]
  omega
/-- a stretch that two cells have at the x between -/
def InR (D : Nat → Nat → Int) (g : Nat → Int × Int) (n M c qa qb r : Nat) : Prop := r ≤ tK D g n c ∧ psC D g n M c c r = qa ∧ psC D g n M (c + 1) c r = qb
noncomputable def loF (D : Nat → Nat → Int) (g : Nat → Int × Int) (n c qa qb : Nat) : Int := mxI (mxI (-100000 * KK) (loB D g n c qa c)) (loB D g n (c + 1) qb c)
noncomputable def hiF (D : Nat → Nat → Int) (g : Nat → Int × Int) (n M c qa qb : Nat) : Int := mnI (mnI (100000 * KK) (hiB D g n M c qa c)) (hiB D g n M (c + 1) qb c)
theorem F_K {D : Nat → Nat → Int} {n m M : Nat} {f : Nat → Int × Int × Int × Int} {g : Nat → Int × Int} (hS : Swp D n m f M g) {c qa qb : Nat} (ha : qa < nC D g n M c) (hb : qb < nC D g n M (c + 1)) : loK D g n c (loF D g n c qa qb) ∧ hiK D g n c (hiF D g n M c qa qb) :=
  ⟨lo_mx (lo_mx (Or.inr rfl) (lo_K hS ha (Or.inl rfl))) (lo_K hS hb (Or.inr rfl)), hi_mn (hi_mn (Or.inr rfl) (hi_K hS (Or.inl rfl))) (hi_K hS (Or.inr rfl))⟩
theorem InR_iff {D : Nat → Nat → Int} {n m M : Nat} {f : Nat → Int × Int × Int × Int} {g : Nat → Int × Int} (hS : Swp D n m f M g) {c qa qb r : Nat} (hc : c < M) (ha : qa < nC D g n M c) (hb : qb < nC D g n M (c + 1)) : InR D g n M c qa qb r ↔ (r ≤ tK D g n c ∧ rl D g n c (loF D g n c qa qb) ≤ r ∧ r ≤ rk D g n c (hiF D g n M c qa qb)) := by
  unfold InR loF hiF
  rw [rl_mx, rl_mx, rk_mn, rk_mn, rl_far hS hc, rk_far hS hc]
  constructor
  · rintro ⟨h1, h2, h3⟩
    have a := (cell_r hS ha (Or.inl rfl) hc h1).mp h2
    have b := (cell_r hS hb (Or.inr rfl) hc h1).mp h3
    exact ⟨h1, ⟨⟨Nat.zero_le _, a.1⟩, b.1⟩, ⟨h1, a.2⟩, b.2⟩
  · rintro ⟨h1, ⟨⟨-, a1⟩, b1⟩, ⟨-, a2⟩, b2⟩
    exact ⟨h1, (cell_r hS ha (Or.inl rfl) hc h1).mpr ⟨a1, a2⟩, (cell_r hS hb (Or.inr rfl) hc h1).mpr ⟨b1, b2⟩⟩
/-- of one cell alone -/
theorem one_r {D : Nat → Nat → Int} {n m M : Nat} {f : Nat → Int × Int × Int × Int} {g : Nat → Int × Int} (hS : Swp D n m f M g) {s q c r : Nat} (hq : q < nC D g n M s) (hc : c = s ∨ c + 1 = s) (hcM : c < M) (hr : r ≤ tK D g n c) : psC D g n M s c r = q ↔ (rl D g n c (mxI (-100000 * KK) (loB D g n s q c)) ≤ r ∧ r ≤ rk D g n c (mnI (100000 * KK) (hiB D g n M s q c))) := by
  rw [rl_mx, rk_mn, rl_far hS hcM, rk_far hS hcM, cell_r hS hq hc hcM hr]
  exact ⟨fun h => ⟨⟨Nat.zero_le _, h.1⟩, hr, h.2⟩, fun h => ⟨h.1.2, h.2.2⟩⟩
/-- an upright line that has more than single ones -/
theorem more_r {D : Nat → Nat → Int} {n m M : Nat} {f : Nat → Int × Int × Int × Int} {g : Nat → Int × Int} (hS : Swp D n m f M g) {c l : Nat} (hc : c < M) (hl : l < n) (hu : D 0 l = D 2 l) (hr : rchB D g c l = true) {F T : Int} (hF : loK D g n c F) (hT : hiK D g n c T) : mxI F (D 1 l * KK) < mnI T (D 3 l * KK) ↔ ∃ r, r ≤ tK D g n c ∧ rl D g n c F ≤ r ∧ r ≤ rk D g n c T ∧ upS D g n c r l = true := by
  have tu := T_up (g := g) (c := c) hl hr hu
  rw [str_ex hS hc (lo_mx hF (Or.inl tu.1)) (hi_mn hT (Or.inl tu.2))]
  refine exists_congr fun r => ?_
  rw [rl_mx, rk_mn, rl_T tu.1, upS_iff]
  constructor
  · rintro ⟨h1, ⟨h2, h3⟩, h4, h5⟩
    exact ⟨h1, h2, h4, hu, hr, by omega, h5⟩
  · rintro ⟨h1, h2, h4, -, -, h3, h5⟩
    exact ⟨h1, ⟨h2, by omega⟩, h4, h5⟩
