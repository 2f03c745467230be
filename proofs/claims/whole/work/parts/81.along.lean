/-! pieces by places with an x: what runs along an edge -/
theorem cnt_rel {p q : Nat → Bool} {n m : Nat} (R : Nat → Nat → Prop) (h1 : ∀ i, i < n → p i = true → ∃ j, j < m ∧ q j = true ∧ R i j) (h2 : ∀ j, j < m → q j = true → ∃ i, i < n ∧ p i = true ∧ R i j) (h3 : ∀ i i' j, i < n → i' < n → j < m → p i = true → p i' = true → q j = true → R i j → R i' j → i = i') (h4 : ∀ i j j', i < n → j < m → j' < m → p i = true → q j = true → q j' = true → R i j → R i j' → j = j') : cntN p n = cntN q m := by
  classical
  have G : ∀ i, ∃ j, (i < n → p i = true → j < m ∧ q j = true ∧ R i j) := by
    intro i
    by_cases c : i < n ∧ p i = true
    · obtain ⟨j, hj⟩ := h1 i c.1 c.2
      exact ⟨j, fun _ _ => hj⟩
    · exact ⟨0, fun a b => absurd ⟨a, b⟩ c⟩
  refine cnt_bij (fun i => Classical.choose (G i)) (fun i hi pi => ?_) (fun i j hi hj pi pj e => ?_) (fun j hj qj => ?_)
  · have := Classical.choose_spec (G i) hi pi
    exact ⟨this.1, this.2.1⟩
  · have a := Classical.choose_spec (G i) hi pi
    have b := Classical.choose_spec (G j) hj pj
    have e' : Classical.choose (G i) = Classical.choose (G j) := e
    rw [← e'] at b
    exact h3 i j _ hi hj a.1 pi pj a.2.1 a.2.2 b.2.2
  · obtain ⟨i, hi, pi, r⟩ := h2 j hj qj
    have a := Classical.choose_spec (G i) hi pi
    exact ⟨i, hi, pi, h4 i _ j hi a.1 hj pi a.2.1 qj a.2.2 r⟩
theorem hiP_of {D : Nat → Nat → Int} {n m M : Nat} {f : Nat → Int × Int × Int × Int} {g : Nat → Int × Int} (hS : Swp D n m f M g) {b q i : Nat} (hb : b + 1 < M) (hq : q < gcN D g n b) (hi : i < n) (t : thrB D g b i = true) (e1 : Yv D g i b = GV D g n b q b) (e2 : Yv D g i (b + 1) = GV D g n b q (b + 1)) : hiP D g n b q i = true := by
  obtain ⟨k, hk, ek⟩ := rw_mem hi t
  obtain ⟨h1, h2⟩ := gk_ok hq
  unfold GV at e1 e2
  have key : gq D g n b k = q := by
    rcases Nat.le_total k (gk D g n b q) with c | c
    · have := (gq_key hS hb (k := k) _ c h1).mpr ⟨by rw [ek]; exact e1, by rw [ek]; exact e2⟩
      rw [this, h2]
    · have := (gq_key hS hb (k := gk D g n b q) _ c hk).mpr ⟨by rw [ek]; exact e1.symm, by rw [ek]; exact e2.symm⟩
      rw [← this, h2]
  unfold hiP
  rw [decide_eq_true_iff]
  exact ⟨k, hk, ek, by rw [beq_iff_eq]; exact key⟩
theorem hiP_one {D : Nat → Nat → Int} {g : Nat → Int × Int} {n b q q' i : Nat} (h : LsD D (n : Int)) (h1 : hiP D g n b q i = true) (h2 : hiP D g n b q' i = true) : q = q' := by
  unfold hiP at h1 h2
  rw [decide_eq_true_iff] at h1 h2
  obtain ⟨k, hk, ek, e1⟩ := h1
  obtain ⟨k', hk', ek', e2⟩ := h2
  rw [beq_iff_eq] at e1 e2
  have e : k = k' := by
    rcases Nat.lt_trichotomy k k' with c | c | c
    · have := rw_inc (g := g) (b := b) h k k' c hk'
      rw [ek, ek'] at this
      exact absurd this (ltL_irr _ _ _ _)
    · exact c
    · have := rw_inc (g := g) (b := b) h k' k c hk
      rw [ek, ek'] at this
      exact absurd this (ltL_irr _ _ _ _)
  rw [← e1, ← e2, e]
theorem Yv_par {D : Nat → Nat → Int} {n m M : Nat} {f : Nat → Int × Int × Int × Int} {g : Nat → Int × Int} (hS : Swp D n m f M g) {b c i j : Nat} (hb : b < M) (hc : c < M) (hbc : b ≠ c) (hi : i < n) (hj : j < n) (hri : D 0 i < D 2 i) (hrj : D 0 j < D 2 j) (e1 : Yv D g i b = Yv D g j b) (e2 : Yv D g i c = Yv D g j c) : crR D i j = 0 := by
  have e := cr_next hS hb hc hi hj hri hrj
  rw [e1, e2, Int.sub_self, Int.sub_self, Int.sub_self, Int.zero_mul] at e
  rcases Int.mul_eq_zero.mp e.symm with z | z
  · exfalso
    rcases Nat.lt_or_ge b c with w | w
    · have := XX_lt hS w hc; omega
    · have := XX_lt hS (show c < b by omega) hb; omega
  · exact z
theorem Yv_all {D : Nat → Nat → Int} {n m M : Nat} {f : Nat → Int × Int × Int × Int} {g : Nat → Int × Int} (hS : Swp D n m f M g) {b c i j : Nat} (hb : b < M) (hc : c < M) (hi : i < n) (hj : j < n) (hri : D 0 i < D 2 i) (hrj : D 0 j < D 2 j) (h0 : crR D i j = 0) (e1 : Yv D g i b = Yv D g j b) : Yv D g i c = Yv D g j c := by
  have e := cr_next hS hb hc hi hj hri hrj
  have hp : (D 2 i - D 0 i) * (D 2 j - D 0 j) ≠ 0 := by
    intro z
    rcases Int.mul_eq_zero.mp z with w | w <;> omega
  rw [e1, h0, Int.mul_zero, Int.sub_self] at e
  rcases Int.mul_eq_zero.mp e with z | z
  · omega
  · exact absurd z hp
theorem crR_dT (D : Nat → Nat → Int) (i j : Nat) : crR D i j = - dT D i j := by
  unfold crR dT mr ms
  grind
/-- the last point on a line below one -/
theorem nx_ex {D : Nat → Nat → Int} {f : Nat → Int × Int × Int × Int} {l : Nat} : ∀ N, (∃ a, a < N ∧ onD D (f a) l = true) → ∃ j, j < N ∧ onD D (f j) l = true ∧ ∀ k, k < N → j < k → ¬ onD D (f k) l = true := by
  intro N
  induction N with
  | zero => rintro ⟨a, ha, -⟩; exact absurd ha (Nat.not_lt_zero _)
  | succ N ih =>
    rintro ⟨a, ha, oa⟩
    by_cases c : onD D (f N) l = true
    · exact ⟨N, by omega, c, fun k h1 h2 => by omega⟩
    · by_cases d : a = N
      · subst d; exact absurd oa c
      · obtain ⟨j, j1, j2, j3⟩ := ih ⟨a, by omega, oa⟩
        refine ⟨j, by omega, j2, fun k h1 h2 => ?_⟩
        by_cases e : k = N
        · subst e; exact c
        · exact j3 k (by omega) h2
theorem lst_ex (P : Nat → Prop) : ∀ N, P N → ∃ k, k ≤ N ∧ P k ∧ ∀ j, j < k → ¬ P j := by
  intro N
  induction N using Nat.strongRecOn with
  | _ N ih =>
    intro h
    by_cases c : ∃ j, j < N ∧ P j
    · obtain ⟨j, hj, pj⟩ := c
      obtain ⟨k, k1, k2, k3⟩ := ih j hj pj
      exact ⟨k, by omega, k2, k3⟩
    · exact ⟨N, Nat.le_refl _, h, fun j hj pj => c ⟨j, hj, pj⟩⟩
/-- of two next to each other on a line: the least line on both -/
theorem pc_ex {D : Nat → Nat → Int} {n m : Nat} {f : Nat → Int × Int × Int × Int} (h : LsD D (n : Int)) (hf : RowP f m) {l i p : Nat} (hl : l < n) (hp : p < m) (nx : nxB D f l i p = true) : ∃ l', l' < n ∧ nxB D f l' i p = true ∧ lsB D f l' i p = true := by
  have z := nxB_iff.mp nx
  obtain ⟨k, k1, k2, k3⟩ := lst_ex (fun k => onD D (f i) k = true ∧ onD D (f p) k = true) l ⟨z.2.1, z.2.2.1⟩
  exact ⟨k, by omega, nxB_ot h hf hp hl (by omega) nx k2.1 k2.2, lsB_iff.mpr k3⟩
theorem on_col {D : Nat → Nat → Int} {n m M : Nat} {f : Nat → Int × Int × Int × Int} {g : Nat → Int × Int} (hS : Swp D n m f M g) {p l c : Nat} (hp : p < m) (hx : XX g c = sX (f p)) : onD D (f p) l = true ↔ OnS D KK l (XX g c) (sY (f p)) := by
  rw [on_p hS.2.1 hp, hx]
/-- edges of lines with an end at x: in a slab, or upright -/
theorem H_form {D : Nat → Nat → Int} {n m M : Nat} {f : Nat → Int × Int × Int × Int} {g : Nat → Int × Int} (hS : Swp D n m f M g) {e x : Nat} (he : e < 2 * (32 * (M + 1))) (hH : (eVl D g n M e && eH D g n e && (eV D g n M e == x)) = true) : (∃ b q, b + 1 < M ∧ q < gcN D g n b ∧ q < 32 ∧ e = 2 * (32 * (b + 1) + q) ∧ x = 32 * (b + 1) + rk D g n (b + 1) (GV D g n b q (b + 1))) ∨ (∃ c k, c < M ∧ k < tK D g n c ∧ k < 32 ∧ cov D g n c k = true ∧ e = 2 * (32 * c + k) + 1 ∧ x = 32 * c + k) := by
  rw [Bool.and_eq_true, Bool.and_eq_true, beq_iff_eq] at hH
  obtain ⟨⟨h1, h2⟩, h3⟩ := hH
  obtain ⟨c, k, hc, hk, rfl | rfl⟩ := e_form he
  · left
    obtain ⟨a1, a2, a3, a4, a5⟩ := e_even D g n M (c := c) hk
    rw [a1, decide_eq_true_iff] at h1
    obtain ⟨k1, k2, k3, -⟩ := EV_ok hS (s := c) (c := c) h1 (Or.inl rfl)
    obtain ⟨b, rfl⟩ : ∃ b, c = b + 1 := ⟨c - 1, by omega⟩
    rw [Nat.add_sub_cancel] at k3
    refine ⟨b, k, by omega, by omega, hk, rfl, ?_⟩
    rw [← h3, a3]
    unfold EV
    rw [Nat.add_sub_cancel]
  · right
    obtain ⟨a1, a2, a3, a4, a5⟩ := e_odd D g n M (c := c) hk
    rw [a1, decide_eq_true_iff] at h1
    rw [eH_odd D g n hk] at h2
    have := cov_r h2
    refine ⟨c, k, h1.1, this.2, hk, h2, rfl, ?_⟩
    rw [← h3, a3, if_neg (by omega)]
theorem H_mk1 {D : Nat → Nat → Int} {n m M : Nat} {f : Nat → Int × Int × Int × Int} {g : Nat → Int × Int} (hS : Swp D n m f M g) {b q : Nat} (hb : b + 1 < M) (hq : q < gcN D g n b) : q < 32 ∧ 2 * (32 * (b + 1) + q) < 2 * (32 * (M + 1)) ∧ (eVl D g n M (2 * (32 * (b + 1) + q)) && eH D g n (2 * (32 * (b + 1) + q)) && (eV D g n M (2 * (32 * (b + 1) + q)) == 32 * (b + 1) + rk D g n (b + 1) (GV D g n b q (b + 1)))) = true := by
  have g10 := gc_le (g := g) (b := b) hS.1
  have en : nC D g n M (b + 1) = gcN D g n b + 1 := by unfold nC; rw [if_neg (by omega), Nat.add_sub_cancel]
  have hk : q < 32 := by omega
  obtain ⟨a1, a2, a3, a4, a5⟩ := e_even D g n M (c := b + 1) hk
  refine ⟨hk, by omega, ?_⟩
  rw [Bool.and_eq_true, Bool.and_eq_true, beq_iff_eq]
  refine ⟨⟨by rw [a1, decide_eq_true_iff]; omega, eH_even D g n hk⟩, ?_⟩
  rw [a3]
  unfold EV
  rw [Nat.add_sub_cancel]
theorem H_mk2 {D : Nat → Nat → Int} {n m M : Nat} {f : Nat → Int × Int × Int × Int} {g : Nat → Int × Int} (hS : Swp D n m f M g) {c k : Nat} (hc : c < M) (hv : cov D g n c k = true) : k < 32 ∧ 2 * (32 * c + k) + 1 < 2 * (32 * (M + 1)) ∧ (eVl D g n M (2 * (32 * c + k) + 1) && eH D g n (2 * (32 * c + k) + 1) && (eV D g n M (2 * (32 * c + k) + 1) == 32 * c + k)) = true := by
  have t20 := tK_20 (D := D) (g := g) (n := n) (c := c) (by have := hS.1.1; omega)
  have cr := cov_r hv
  have hk : k < 32 := by omega
  obtain ⟨a1, a2, a3, a4, a5⟩ := e_odd D g n M (c := c) hk
  refine ⟨hk, by omega, ?_⟩
  rw [Bool.and_eq_true, Bool.and_eq_true, beq_iff_eq]
  refine ⟨⟨by rw [a1, decide_eq_true_iff]; omega, by rw [eH_odd D g n hk]; exact hv⟩, ?_⟩
  rw [a3, if_neg (by omega)]
/-- a line runs along an edge -/
def alg (D : Nat → Nat → Int) (g : Nat → Int × Int) (n e l : Nat) : Prop := (∃ b q, q < 32 ∧ e = 2 * (32 * (b + 1) + q) ∧ hiP D g n b q l = true) ∨ (∃ c k, k < 32 ∧ e = 2 * (32 * c + k) + 1 ∧ upS D g n c k l = true)
theorem alg_1 {D : Nat → Nat → Int} {g : Nat → Int × Int} {n b q l : Nat} (hq : q < 32) : alg D g n (2 * (32 * (b + 1) + q)) l ↔ hiP D g n b q l = true := by
  constructor
  · rintro (⟨b', q', h1, h2, h3⟩ | ⟨c, k, h1, h2, h3⟩)
    · have e1 : b' = b := by omega
      have e2 : q' = q := by omega
      rw [← e1, ← e2]; exact h3
    · omega
  · intro h; exact Or.inl ⟨b, q, hq, rfl, h⟩
theorem alg_2 {D : Nat → Nat → Int} {g : Nat → Int × Int} {n c k l : Nat} (hk : k < 32) : alg D g n (2 * (32 * c + k) + 1) l ↔ upS D g n c k l = true := by
  constructor
  · rintro (⟨b', q', h1, h2, h3⟩ | ⟨c', k', h1, h2, h3⟩)
    · omega
    · have e1 : c' = c := by omega
      have e2 : k' = k := by omega
      rw [← e1, ← e2]; exact h3
  · intro h; exact Or.inr ⟨c, k, hk, rfl, h⟩
/-- a point's column and code -/
theorem cdP_at {D : Nat → Nat → Int} {n m M : Nat} {f : Nat → Int × Int × Int × Int} {g : Nat → Int × Int} (hS : Swp D n m f M g) {p c : Nat} (hp : p < m) (hc : c < M) (hx : XX g c = sX (f p)) : cdP D g f n M p = 32 * c + rk D g n c (sY (f p)) ∧ IsT D g n c (sY (f p)) ∧ rk D g n c (sY (f p)) < tK D g n c ∧ tK D g n c ≤ 20 := by
  obtain ⟨b1, b2⟩ := pb_ok hS hp
  have e : pbX g f M p = c := XX_eq hS b1 hc (by rw [b2, hx])
  have t := pt_T hS hc hp hx
  refine ⟨by unfold cdP cdV; rw [e], t, rk_lt t, tK_20 (by have := hS.1.1; omega)⟩
/-- a point of a line that has another one at the left in its row -/
theorem flat_at {D : Nat → Nat → Int} {n m M : Nat} {f : Nat → Int × Int × Int × Int} {g : Nat → Int × Int} (hS : Swp D n m f M g) {l p c : Nat} (hl : l < n) (hu : D 0 l < D 2 l) (hp : p < m) (hc : c < M) (hx : XX g c = sX (f p)) : onD D (f p) l = true ↔ (rchB D g c l = true ∧ sY (f p) = Yv D g l c) := by
  rw [on_col hS hp hx, on_fl hS hc hl hu]
theorem up_at {D : Nat → Nat → Int} {n m M : Nat} {f : Nat → Int × Int × Int × Int} {g : Nat → Int × Int} (hS : Swp D n m f M g) {l p c : Nat} (hl : l < n) (hu : D 0 l = D 2 l) (hp : p < m) (hc : c < M) (hx : XX g c = sX (f p)) : onD D (f p) l = true ↔ (rchB D g c l = true ∧ D 1 l * KK ≤ sY (f p) ∧ sY (f p) ≤ D 3 l * KK) := by
  rw [on_col hS hp hx, on_up hS hc hl hu]
