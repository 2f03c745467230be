/-! a place put into a row of places: the cells are moved up from its end -/
theorem s_shift {s : Sg} {c1 c2 c3 c4 : Nat} {cap a : Int} {m : Nat} {f : Nat → Int × Int × Int × Int} {x1 x2 x3 x4 : Int} {K : Sg → Prop} (n12 : c1 ≠ c2) (n13 : c1 ≠ c3) (n14 : c1 ≠ c4) (n23 : c2 ≠ c3) (n24 : c2 ≠ c4) (n34 : c3 ≠ c4) (hat : PtAt s c1 c2 c3 c4 m f) (ha : 0 ≤ a ∧ a ≤ (m : Int)) (hm : (m : Int) < cap) (hcap : cap ≤ 100)
    (hp : ∀ t, (∀ c, c ≠ c1 → c ≠ c2 → c ≠ c3 → c ≠ c4 → t c = s c) → PtAt t c1 c2 c3 c4 (m + 1) (insG f a.toNat (x1, x2, x3, x4)) → K t) :
    lp_1s (fun (again_12 : Int → Sg → Prop) (v16_10 : Int) (s_11 : Sg) => (v16_10 ≤ a → (0 ≤ a ∧ a < cap) ∧ (∀ s_14, s_14 = up s_11 c1 (a.toNat) x1 → ((0 ≤ a ∧ a < cap) ∧ (∀ s_16, s_16 = up s_14 c2 (a.toNat) x2 → ((0 ≤ a ∧ a < cap) ∧ (∀ s_18, s_18 = up s_16 c3 (a.toNat) x3 → ((0 ≤ a ∧ a < cap) ∧ (∀ s_20, s_20 = up s_18 c4 (a.toNat) x4 → K s_20)))))))) ∧ (¬ v16_10 ≤ a → (0 ≤ w32 (v16_10 - 1) ∧ w32 (v16_10 - 1) < cap) ∧ ((0 ≤ v16_10 ∧ v16_10 < cap) ∧ (∀ s_24, s_24 = up s_11 c1 (v16_10.toNat) (s_11 c1 (w32 (v16_10 - 1)).toNat) → ((0 ≤ w32 (v16_10 - 1) ∧ w32 (v16_10 - 1) < cap) ∧ ((0 ≤ v16_10 ∧ v16_10 < cap) ∧ (∀ s_27, s_27 = up s_24 c2 (v16_10.toNat) (s_24 c2 (w32 (v16_10 - 1)).toNat) → ((0 ≤ w32 (v16_10 - 1) ∧ w32 (v16_10 - 1) < cap) ∧ ((0 ≤ v16_10 ∧ v16_10 < cap) ∧ (∀ s_30, s_30 = up s_27 c3 (v16_10.toNat) (s_27 c3 (w32 (v16_10 - 1)).toNat) → ((0 ≤ w32 (v16_10 - 1) ∧ w32 (v16_10 - 1) < cap) ∧ ((0 ≤ v16_10 ∧ v16_10 < cap) ∧ (∀ s_33, s_33 = up s_30 c4 (v16_10.toNat) (s_30 c4 (w32 (v16_10 - 1)).toNat) → (∀ v16_34, v16_34 = w32 (v16_10 + (-1)) → (again_12 v16_34 s_33))))))))))))))) (m : Int) s := by
  refine lr_1s (fun v t => ∃ k : Nat, v = (k : Int) ∧ a ≤ (k : Int) ∧ k ≤ m ∧ (∀ c, c ≠ c1 → c ≠ c2 → c ≠ c3 → c ≠ c4 → t c = s c) ∧ (∀ j, j < k → t c1 j = (f j).1 ∧ t c2 j = (f j).2.1 ∧ t c3 j = (f j).2.2.1 ∧ t c4 j = (f j).2.2.2) ∧ (∀ j, k < j → j ≤ m → t c1 j = (f (j - 1)).1 ∧ t c2 j = (f (j - 1)).2.1 ∧ t c3 j = (f (j - 1)).2.2.1 ∧ t c4 j = (f (j - 1)).2.2.2)) (fun v _ => v.toNat) ?_ _ _ ⟨m, rfl, ha.2, Nat.le_refl _, fun _ _ _ _ _ => rfl, fun j hj => hat j hj, fun j h1 h2 => by omega⟩
  rintro again _ t ⟨k, rfl, hak, hk, ho, hlo, hhi⟩ ih
  have hac : 0 ≤ a ∧ a < cap := by omega
  refine ⟨fun c => ?_, fun c => ?_⟩
  · have ek : a.toNat = k := by omega
    refine ⟨hac, fun s14 e1 => ⟨hac, fun s16 e2 => ⟨hac, fun s18 e3 => ⟨hac, fun s20 e4 => ?_⟩⟩⟩⟩
    subst e1 e2 e3 e4
    refine hp _ (fun c d1 d2 d3 d4 => by rw [up_ne _ _ _ d4, up_ne _ _ _ d3, up_ne _ _ _ d2, up_ne _ _ _ d1, ho c d1 d2 d3 d4]) (fun j hj => ?_)
    rw [ek]
    have r1 : ∀ c x, up (up (up (up t c1 k x1) c2 k x2) c3 k x3) c4 k x4 c x = if c = c4 ∧ x = k then x4 else if c = c3 ∧ x = k then x3 else if c = c2 ∧ x = k then x2 else if c = c1 ∧ x = k then x1 else t c x := by
      intro c x
      rw [up_apply, up_apply, up_apply, up_apply]
    rw [r1, r1, r1, r1]
    by_cases e : j = k
    · subst e
      unfold insG
      simp [n12, n13, n14, n23, n24, n34]
    · simp only [e, and_false, if_false]
      unfold insG
      by_cases d : j < k
      · rw [if_pos d]; exact hlo j d
      · rw [if_neg d, if_neg e]; exact hhi j (by omega) (by omega)
  · obtain ⟨k, rfl⟩ : ∃ l, k = l + 1 := ⟨k - 1, by omega⟩
    have b7 : ((k + 1 : Nat) : Int) - 1 = (k : Int) := by omega
    have b8 : ok32 (((k + 1 : Nat) : Int) - 1) := ⟨by omega, by omega⟩
    have b9 : ok32 (((k + 1 : Nat) : Int) + (-1)) := ⟨by omega, by omega⟩
    have b10 : ((k + 1 : Nat) : Int) + (-1) = (k : Int) := by omega
    have b1 : 0 ≤ (k : Int) ∧ (k : Int) < cap := by omega
    have b6 : 0 ≤ ((k + 1 : Nat) : Int) ∧ ((k + 1 : Nat) : Int) < cap := by omega
    have b5 : (k : Int).toNat < ((k + 1 : Nat) : Int).toNat := by omega
    rw [w32_id b8, b7, w32_id b9, b10, Int.toNat_natCast, Int.toNat_natCast]
    refine ⟨b1, b6, fun s24 e1 => ⟨b1, b6, fun s27 e2 => ⟨b1, b6, fun s30 e3 => ⟨b1, b6, fun s33 e4 v ev => ?_⟩⟩⟩⟩
    obtain ⟨v1, v2, v3, v4⟩ := hlo k (by omega)
    have w2 : s24 c2 k = (f k).2.1 := by rw [e1, up_ne _ _ _ n12.symm, v2]
    have w3 : s27 c3 k = (f k).2.2.1 := by rw [e2, up_ne _ _ _ n23.symm, e1, up_ne _ _ _ n13.symm, v3]
    have w4 : s30 c4 k = (f k).2.2.2 := by rw [e3, up_ne _ _ _ n34.symm, e2, up_ne _ _ _ n24.symm, e1, up_ne _ _ _ n14.symm, v4]
    rw [v1] at e1
    rw [w2] at e2
    rw [w3] at e3
    rw [w4] at e4
    clear v1 v2 v3 v4 w2 w3 w4
    subst e1 e2 e3 e4
    rw [ev]
    have r1 : ∀ c x, up (up (up (up t c1 (k + 1) (f k).1) c2 (k + 1) (f k).2.1) c3 (k + 1) (f k).2.2.1) c4 (k + 1) (f k).2.2.2 c x = if c = c4 ∧ x = k + 1 then (f k).2.2.2 else if c = c3 ∧ x = k + 1 then (f k).2.2.1 else if c = c2 ∧ x = k + 1 then (f k).2.1 else if c = c1 ∧ x = k + 1 then (f k).1 else t c x := by
      intro c x
      rw [up_apply, up_apply, up_apply, up_apply]
    refine ih _ _ ⟨k, rfl, by omega, by omega, fun c d1 d2 d3 d4 => by rw [up_ne _ _ _ d4, up_ne _ _ _ d3, up_ne _ _ _ d2, up_ne _ _ _ d1, ho c d1 d2 d3 d4], fun j hj => ?_, fun j hj hjm => ?_⟩ b5
    · rw [r1, r1, r1, r1]
      have e : ¬ j = k + 1 := by omega
      simp only [e, and_false, if_false]
      exact hlo j (by omega)
    · rw [r1, r1, r1, r1]
      by_cases e : j = k + 1
      · subst e
        simp [n12, n13, n14, n23, n24, n34]
      · simp only [e, and_false, if_false]
        exact hhi j (by omega) hjm
