/-! drop, move, taken -/
theorem Base_far {s E : Sg} (hB : Base s) (hfar : ∀ c, (6 ≤ c ∧ c < 68) ∨ 73 ≤ c → E c = s c) (h12 : E 0 12 = s 0 12) (h43 : E 68 43 = s 68 43) (h0 : E 68 0 = E 1 0) (h1 : LkOK E 2 (E 1 0)) (h2 : LkEq E 69 2 (E 1 0)) : Base E := by
  obtain ⟨b1, b2, b3, b4, b5, b6, b7⟩ := hB
  refine ⟨h0, h1, h2, by rw [h43, h12, b4], by rw [h12]; exact b5, ?_, ?_⟩
  · rw [h12]
    intro hi
    obtain ⟨g1, g2, g3⟩ := b6 hi
    rw [hfar 174 (by omega), hfar 6 (by omega)]
    refine ⟨g1, ?_, ?_⟩
    · unfold LkOK
      rw [hfar 7 (by omega), hfar (7 + 1) (by omega), hfar (7 + 2) (by omega), hfar (7 + 3) (by omega)]
      exact g2
    · unfold LkEq
      rw [hfar 7 (by omega), hfar (7 + 1) (by omega), hfar (7 + 2) (by omega), hfar (7 + 3) (by omega), hfar 180 (by omega), hfar (180 + 1) (by omega), hfar (180 + 2) (by omega), hfar (180 + 3) (by omega)]
      exact g3
  · unfold ShOK
    intro t ht
    rw [hfar 65 (by omega), hfar 184 (by omega), hfar 66 (by omega), hfar 185 (by omega), hfar 67 (by omega), hfar (187 + t) (by omega)]
    exact b7 t ht
def RemP (s : Sg) (c : Nat) (i : Int) (t : Sg) : Prop := t c 0 = s c 0 - 1 ∧ (∀ k, k ≠ 0 → t c k = s c k) ∧ (∀ c', (c' < c ∨ c + 5 ≤ c') → t c' = s c') ∧ ∀ j, 1 ≤ j → j ≤ 4 → ∀ k : Nat, t (c + j) k = if i ≤ (k : Int) ∧ (k : Int) < s c 0 - 1 then s (c + j) (k + 1) else s (c + j) k
/-- half way: places i .. m - 1 have moved -/
def RemI (s : Sg) (c : Nat) (i m : Int) (t : Sg) : Prop := (∀ c', (c' ≤ c ∨ c + 5 ≤ c') → t c' = s c') ∧ ∀ j, 1 ≤ j → j ≤ 4 → ∀ k : Nat, t (c + j) k = if i ≤ (k : Int) ∧ (k : Int) < m then s (c + j) (k + 1) else s (c + j) k
theorem RemI_end {s t : Sg} {c : Nat} {i m : Int} (h : RemI s c i m t) (hm : m = s c 0 - 1) : RemP s c i (up t c 0 (s c 0 - 1)) := by
  subst hm
  refine ⟨by simp [up_apply], fun k hk => by simp [up_apply, hk, h.1 c (by omega)], fun c' hc => by rw [up_ne _ _ _ (by omega)]; exact h.1 c' (by omega), fun j h1 h2 k => ?_⟩
  rw [up_ne _ _ _ (by omega)]
  exact h.2 j h1 h2 k
theorem RemI_step {s t : Sg} {c : Nat} {i m : Int} (h : RemI s c i m t) (hi : 0 ≤ i ∧ i ≤ m) : RemI s c i (m + 1) (up (up (up (up t (c + 1) m.toNat (s (c + 1) (m.toNat + 1))) (c + 2) m.toNat (s (c + 2) (m.toNat + 1))) (c + 3) m.toNat (s (c + 3) (m.toNat + 1))) (c + 4) m.toNat (s (c + 4) (m.toNat + 1))) := by
  refine ⟨fun c' hc => ?_, fun j h1 h2 k => ?_⟩
  · rw [up_ne _ _ _ (by omega), up_ne _ _ _ (by omega), up_ne _ _ _ (by omega), up_ne _ _ _ (by omega)]
    exact h.1 c' hc
  · have hk := h.2 j h1 h2 k
    have hj : j = 1 ∨ j = 2 ∨ j = 3 ∨ j = 4 := by omega
    rcases hj with rfl | rfl | rfl | rfl
    all_goals
      simp only [up_apply]
      grind
theorem s_X2_remove {s : Sg} {c : Nat} {i : Int} {post : Sg → Prop} (hn : 0 ≤ s c 0 ∧ s c 0 ≤ 10) (hi : 0 ≤ i ∧ i < s c 0) (h : ∀ t, RemP s c i t → post t) : w_X2_remove s c i post := by
  unfold w_X2_remove
  refine s_X2_has fun r e => ⟨fun hr => ?_, fun hr => by omega⟩
  refine lr_1s (fun m t => i ≤ m ∧ m < s c 0 ∧ RemI s c i m t) (fun m t => (s c 0 - m).toNat) ?_ i s ⟨by omega, hi.2, fun _ _ => rfl, fun j h1 h2 k => by rw [if_neg (by omega)]⟩
  rintro again m t ⟨h1, h2, h3⟩ hag
  have e0 : t c 0 = s c 0 := by rw [h3.1 c (by omega)]
  rw [e0, w32_id (show ok32 (m + 1) from ⟨by omega, by omega⟩)]
  refine ⟨fun hc s5 e5 => ?_, fun hc => ?_⟩
  · rw [w32_id (show ok32 (s c 0 - 1) from ⟨by omega, by omega⟩)] at e5
    subst e5
    exact h _ (RemI_end h3 (by omega))
  · have hb : (0 ≤ m + 1 ∧ m + 1 < 10) := by omega
    have hb2 : (0 ≤ m ∧ m < 10) := by omega
    refine ⟨hb, hb2, fun s8 e8 => ⟨hb, hb2, fun s11 e11 => ⟨hb, hb2, fun s14 e14 => ⟨hb, hb2, fun s17 e17 => fun v hv => ?_⟩⟩⟩⟩
    subst hv
    refine hag _ _ ⟨by omega, by omega, ?_⟩ (by omega)
    have hst := RemI_step h3 ⟨hi.1, h1⟩
    have hm : (m + 1).toNat = m.toNat + 1 := by omega
    have hval : ∀ j, 1 ≤ j → j ≤ 4 → t (c + j) (m.toNat + 1) = s (c + j) (m.toNat + 1) := fun j h1 h2 => by rw [h3.2 j h1 h2, if_neg (by omega)]
    rw [e17, e14, e11, e8, hm]
    rw [hval 1 (by omega) (by omega)]
    rw [up_ne _ _ _ (show c + 2 ≠ c + 1 by omega), hval 2 (by omega) (by omega)]
    rw [up_ne _ _ _ (show c + 3 ≠ c + 2 by omega), up_ne _ _ _ (show c + 3 ≠ c + 1 by omega), hval 3 (by omega) (by omega)]
    rw [up_ne _ _ _ (show c + 4 ≠ c + 3 by omega), up_ne _ _ _ (show c + 4 ≠ c + 2 by omega), up_ne _ _ _ (show c + 4 ≠ c + 1 by omega), hval 4 (by omega) (by omega)]
    exact hst
theorem s_X10_drops {s : Sg} {i : Int} {post : Sg → Prop} (hL : LkOK s 69 (s 68 0)) (hi : 0 ≤ i ∧ i < s 68 0) (h : ∀ t, RemP s 68 i t → post t) : w_X10_drops s i post := by
  unfold w_X10_drops
  intro l0 hl0
  rw [w32_id (show ok32 (i + 1) from ⟨by have := hL.2.1; omega, by have := hL.2.1; omega⟩)] at hl0
  subst hl0
  have h10 := hL.2.1
  refine lr_1s (fun l t => i + 1 ≤ l ∧ l ≤ s 68 0 ∧ RemI s 68 i (l - 1) t) (fun l t => (s 68 0 - l).toNat) ?_ (i + 1) s ⟨by omega, by omega, fun _ _ => rfl, fun j h1 h2 k => by rw [if_neg (by omega)]⟩
  rintro again l t ⟨h1, h2, h3⟩ hag
  have e0 : t 68 0 = s 68 0 := by rw [h3.1 68 (by omega)]
  rw [e0]
  refine ⟨fun hc s5 e5 => ?_, fun hc => ?_⟩
  · rw [w32_id (show ok32 (s 68 0 - 1) from ⟨by omega, by omega⟩)] at e5
    subst e5
    exact h _ (RemI_end h3 (by omega))
  · have hb : (0 ≤ l ∧ l < 10) := by omega
    refine ⟨hb, hb, hb, hb, ?_⟩
    have hval : ∀ j, 1 ≤ j → j ≤ 4 → t (68 + j) l.toNat = s (68 + j) l.toNat := fun j h1 h2 => by rw [h3.2 j h1 h2, if_neg (by omega)]
    rw [w32_id (show ok32 (l - 1) from ⟨by omega, by omega⟩)]
    refine s_X10_stands (by omega) ?_
    intro v hv
    rw [w32_id (show ok32 (l + 1) from ⟨by omega, by omega⟩)] at hv
    subst hv
    refine hag _ _ ⟨by omega, by omega, ?_⟩ (by omega)
    have hst := RemI_step h3 (by omega)
    have hm : (l - 1).toNat + 1 = l.toNat := by omega
    have hgood := (hL.2.2 l.toNat (by omega)).2.2.2.2
    rw [show l + 1 - 1 = l - 1 + 1 by omega]
    rw [hm] at hst
    unfold layS
    have v1 := hval 1 (by omega) (by omega)
    have v2 := hval 2 (by omega) (by omega)
    have v3 := hval 3 (by omega) (by omega)
    have v4 := hval 4 (by omega) (by omega)
    rw [show t 69 l.toNat = s (68 + 1) l.toNat from v1, show t 70 l.toNat = s (68 + 2) l.toNat from v2, show t 71 l.toNat = s (68 + 3) l.toNat from v3, show t 72 l.toNat = s (68 + 4) l.toNat from v4, if_pos hgood]
    exact hst
