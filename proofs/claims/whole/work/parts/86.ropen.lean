/-! the reference: whether two cells meet -/
theorem s_X10_isOpen {s : Sg} {D : Nat → Nat → Int} {n m M c : Nat} {f : Nat → Int × Int × Int × Int} {g : Nat → Int × Int} {F T v1 v3 : Int} {post : Int → Prop} (hS : Swp D n m f M g) (hR : RSl s D n m M f g) (hc : c < M) (hF : FrV (s 68 33) (s 68 34) F) (hT : FrV (s 68 35) (s 68 36) T) (kF : loK D g n c F) (kT : hiK D g n c T) (e1 : v1 = (g c).1) (e3 : v3 = (g c).2)
    (hp : ∀ r, BV r (∃ r', r' ≤ tK D g n c ∧ rl D g n c F ≤ r' ∧ r' ≤ rk D g n c T ∧ ¬ cov D g n c r' = true) → post r) : w_X10_isOpen s v1 v3 post := by
  subst e1 e3
  have h := hS.1
  have hn := h.1
  have kp := KK_pos
  have inc := (tau_ok D g n c).1.1
  have t20 := tK_20 (D := D) (g := g) (n := n) (c := c) (by omega)
  have n0 : s 68 0 = (n : Int) := hR.1.1
  have hat := hR.1.2.1
  -- ends of upright lines there
  have up1 : ∀ l, l < n → D 0 l = D 2 l → rchB D g c l = true → IsT D g n c (D 1 l * KK) ∧ IsT D g n c (D 3 l * KK) := fun l hl hu hr => T_up hl hr hu
  have lt_rl : ∀ y A, IsT D g n c y → (rk D g n c y < rl D g n c A ↔ y ≤ A) := by
    intro y A hy
    have := rkI_lt inc (A + 1) (rk D g n c y) (rk_lt hy)
    unfold rl
    rw [this]
    have e : tau D g n c (rk D g n c y) = y := tau_rk hy
    omega
  have rl21 : ∀ A, rl D g n c A ≤ 20 := fun A => Nat.le_trans (rkI_le _ _ _) t20
  unfold w_X10_isOpen
  rintro _ rfl _ rfl
  refine lr_3 (fun v5 v7 v9 => ∃ A, FrV v5 v7 A ∧ loK D g n c A ∧ F ≤ A ∧ (v9 = 0 ∨ v9 = 1) ∧ (∀ r, rl D g n c F ≤ r → r < rl D g n c A → cov D g n c r = true) ∧ (v9 = 0 → ∀ l, l < n → D 0 l = D 2 l → rchB D g c l = true → ¬ (D 1 l * KK ≤ A ∧ A < D 3 l * KK))) (fun v5 v7 v9 => 2 * (21 - rl D g n c (scl v5 v7)) + v9.toNat) ?_ _ _ 1 ⟨F, hF, kF, Int.le_refl _, Or.inr rfl, fun r r1 r2 => by omega, fun z => absurd z (by decide)⟩
  rintro again a b w ⟨A, hA, kA, leA, hw, cv, nw⟩ ih
  refine ⟨fun z => ?_, fun z => ?_⟩
  · have nw := nw z
    have key : A < T ↔ ∃ r', r' ≤ tK D g n c ∧ rl D g n c F ≤ r' ∧ r' ≤ rk D g n c T ∧ ¬ cov D g n c r' = true := by
      constructor
      · intro lt
        refine ⟨rl D g n c A, rkI_le _ _ _, rl_mono leA, rkI_mono (by omega), fun cc => ?_⟩
        obtain ⟨l, hl, us⟩ := cov_iff.mp cc
        rw [upS_iff] at us
        obtain ⟨u1, u2⟩ := up1 l hl us.1 us.2.1
        refine nw l hl us.1 us.2.1 ⟨(lt_rl _ A u1).mp us.2.2.1, ?_⟩
        have := (lt_rl _ A u2)
        apply Decidable.byContradiction
        intro y
        have := this.mpr (by omega)
        omega
      · rintro ⟨r, r1, r2, r3, r4⟩
        refine (str_ex hS hc kA kT).mpr ⟨r, r1, ?_, r3⟩
        apply Decidable.byContradiction
        intro y
        exact r4 (cv r r2 (by omega))
    refine s_agV hA hT fun r r1 r2 r3 => ?_
    unfold jn
    exact ⟨fun y => ⟨Or.inl rfl, hp 0 (Or.inr ⟨rfl, fun x => by have := key.mpr x; omega⟩)⟩, fun y => ⟨Or.inr rfl, hp 1 (Or.inl ⟨rfl, key.mp (by omega)⟩)⟩⟩
  · have hw1 : w = 1 := by omega
    subst hw1
    clear nw
    refine lr_4 (fun v5 v7 v9 v10 => ∃ A' : Int, ∃ k : Nat, v10 = (k : Int) ∧ k ≤ n ∧ FrV v5 v7 A' ∧ loK D g n c A' ∧ (∀ r, rl D g n c F ≤ r → r < rl D g n c A' → cov D g n c r = true) ∧ ((v9 = 0 ∧ A' = A ∧ ∀ l, l < k → D 0 l = D 2 l → rchB D g c l = true → ¬ (D 1 l * KK ≤ A ∧ A < D 3 l * KK)) ∨ (v9 = 1 ∧ A < A'))) (fun _ _ _ v10 => ((n : Int) - v10).toNat) ?_ a b 0 0 ⟨A, 0, rfl, Nat.zero_le _, hA, kA, cv, Or.inl ⟨rfl, rfl, fun l hl => absurd hl (Nat.not_lt_zero _)⟩⟩
    rintro again2 x y v9 _ ⟨A', k, rfl, hk, hA', kA', cv', st⟩ ih2
    rw [n0]
    refine ⟨fun q => ?_, fun q => ?_⟩
    · have e : k = n := by omega
      subst e
      rcases st with ⟨rfl, rfl, nn⟩ | ⟨rfl, lt⟩
      · refine ih _ _ _ ⟨A', hA', kA', leA, Or.inl rfl, cv', fun _ => nn⟩ ?_
        rw [hA'.2.2, hA.2.2]
        omega
      · refine ih _ _ _ ⟨A', hA', kA', by omega, Or.inr rfl, cv', fun z2 => absurd z2 (by decide)⟩ ?_
        rw [hA'.2.2, hA.2.2]
        have tA : IsT D g k c A' := by
          rcases kA' with w | w
          · exact w
          · exfalso
            rcases kA with w2 | w2
            · have := T_rng hS hc w2; omega
            · omega
        have r1 := rl_T tA
        have r2 : rl D g k c A ≤ rk D g k c A' := rkI_mono (by omega)
        have r3 := rl21 A'
        omega
    · have hk2 : k < n := by omega
      have b1 : ok32 ((k : Int) + 1) := ⟨by omega, by omega⟩
      have b2 : (k : Int) + 1 = ((k + 1 : Nat) : Int) := by omega
      have fin : ∀ (x' y' v9' A2 : Int), FrV x' y' A2 → loK D g n c A2 → (∀ r, rl D g n c F ≤ r → r < rl D g n c A2 → cov D g n c r = true) → ((v9' = 0 ∧ A2 = A ∧ ∀ l, l < k + 1 → D 0 l = D 2 l → rchB D g c l = true → ¬ (D 1 l * KK ≤ A ∧ A < D 3 l * KK)) ∨ (v9' = 1 ∧ A < A2)) → ∀ v, v = w32 ((k : Int) + 1) → again2 x' y' v9' v := by
        intro x' y' v9' A2 p1 p2 p3 p4 v ev
        rw [ev, w32_id b1, b2]
        clear ev
        exact ih2 _ _ _ _ ⟨A2, k + 1, rfl, by omega, p1, p2, p3, p4⟩ (by omega)
      have same : (D 0 k = D 2 k → rchB D g c k = true → ¬ (D 1 k * KK ≤ A' ∧ A' < D 3 k * KK)) → ∀ v, v = w32 ((k : Int) + 1) → again2 x y v9 v := by
        intro no
        refine fin x y v9 A' hA' kA' cv' ?_
        rcases st with ⟨z1, z2, nn⟩ | st
        · refine Or.inl ⟨z1, z2, fun l hl u r => ?_⟩
          by_cases e : l = k
          · subst e; rw [← z2]; exact no u r
          · exact nn l (by omega) u r
        · exact Or.inr st
      refine s_X10_isUprightAt hS hat hc hk2 rfl rfl fun r hr => ?_
      unfold jn
      obtain ⟨f1, f3⟩ := fr_end h hk2
      refine ⟨fun z2 => same fun u rr => ?_, fun z2 => ⟨by omega, ?_⟩⟩
      · rcases hr with e | e
        · omega
        · exact absurd ⟨u, rr⟩ e.2
      · have hur : D 0 k = D 2 k ∧ rchB D g c k = true := by
          rcases hr with e | e
          · exact e.2
          · exact absurd e.1 z2
        obtain ⟨hu, hrc⟩ := hur
        obtain ⟨u1, u2⟩ := up1 k hk2 hu hrc
        rw [Int.toNat_natCast, (hat k (by omega)).2.1, (hat k (by omega)).2.2.2]
        refine s_agV f1 hA' fun r' q1 q2 q3 => ⟨fun y1 => same fun _ _ => by omega, fun y1 => ⟨by omega, ?_⟩⟩
        refine s_agV f3 hA' fun r2 p1 p2 p3 => ⟨fun y2 => ⟨by omega, ?_⟩, fun y2 => same fun _ _ => by omega⟩
        rintro _ rfl
        refine fin _ _ _ (D 3 k * KK) f3 (Or.inl u2) (fun r3 g1 g2 => ?_) (Or.inr ⟨rfl, ?_⟩)
        · by_cases lt : r3 < rl D g n c A'
          · exact cv' r3 g1 lt
          · have a1 := rl_T u2
            have a2 := (lt_rl _ A' u1).mpr (by omega)
            exact cov_iff.mpr ⟨k, hk2, upS_iff.mpr ⟨hu, hrc, by omega, by omega⟩⟩
        · rcases st with ⟨_, z2, _⟩ | ⟨_, lt⟩ <;> omega
