/-! the reference's row -/
theorem s_X10_tellOrder {s : Sg} {D : Nat → Nat → Int} {n x xd w : Int} {post : Sg → Prop} (h : LsD D n) (hn : s 68 0 = n) (hat : LnAt s 69 n D) (hx : FrB x xd) (hxd : 0 < xd) (hp : ∀ t, (∀ c, c ≠ 68 → c ≠ 82 → t c = s c) → (∀ o, o ≠ 20 → t 68 o = s 68 o) → RowAt t 68 20 82 D x xd w n.toNat → post t) : w_X10_tellOrder s x xd w post := by
  unfold w_X10_tellOrder
  rintro _ rfl
  have hn10 := h.1
  refine lr_1s (fun i t => ∃ i' : Nat, i = (i' : Int) ∧ (i' : Int) ≤ n ∧ (∀ c, c ≠ 68 → c ≠ 82 → t c = s c) ∧ (∀ o, o ≠ 20 → t 68 o = s 68 o) ∧ RowAt t 68 20 82 D x xd w i') (fun i _ => (n - i).toNat) ?_ _ _ ⟨0, rfl, by omega, fun c c1 _ => up_ne _ _ _ c1, fun o ho => by rw [up_apply]; simp [ho], ⟨by rw [up_apply]; rfl, fun j hj => absurd hj (Nat.not_lt_zero _)⟩⟩
  rintro again _ t ⟨i, rfl, hi, ho, ho2, hR⟩ ih
  have e1 : t 68 0 = n := by rw [ho2 0 (by omega), hn]
  have hat' : LnAt t 69 n D := fun i hi => by
    rw [ho 69 (by omega) (by omega), ho (69 + 1) (by omega) (by omega), ho (69 + 2) (by omega) (by omega), ho (69 + 3) (by omega) (by omega)]
    exact hat i hi
  refine ⟨fun c => ?_, fun c => ?_⟩
  · have : n.toNat = i := by omega
    rw [e1] at c
    exact hp t ho ho2 (by rw [this]; exact hR)
  · rw [e1] at c
    have go : ∀ t2, ((thereB D x xd w i = true → (∀ c, c ≠ 68 → c ≠ 82 → t2 c = t c) ∧ (∀ o, o ≠ 20 → t2 68 o = t 68 o) ∧ t2 68 20 = (cntN (thereB D x xd w) i : Int) + 1 ∧ ∀ j, j ≤ cntN (thereB D x xd w) i → t2 82 j = (insN (rowN (gtB D x xd) (thereB D x xd w) i) (posN (gtB D x xd) (rowN (gtB D x xd) (thereB D x xd w) i) i (cntN (thereB D x xd w) i)) i j : Int)) ∧ (¬ thereB D x xd w i = true → t2 = t)) → ∀ v, v = w32 ((i : Int) + 1) → again v t2 := by
      intro t2 g v ev
      have hw : w32 ((i : Int) + 1) = ((i + 1 : Nat) : Int) := by rw [w32_id (show ok32 ((i : Int) + 1) from ⟨by omega, by omega⟩)]; omega
      obtain ⟨g1, g2⟩ := g
      rw [ev, hw]
      clear hw ev
      refine ih _ _ ⟨i + 1, rfl, by omega, ?_⟩ (by omega)
      by_cases q : thereB D x xd w i = true
      · obtain ⟨k1, k4, k2, k3⟩ := g1 q
        refine ⟨fun c c1 c2 => by rw [k1 c c1 c2, ho c c1 c2], fun o h20 => by rw [k4 o h20, ho2 o h20], ⟨?_, fun j hj => ?_⟩⟩
        · rw [k2]
          show _ = ((if thereB D x xd w i = true then _ else _ : Nat) : Int)
          rw [if_pos q]
          omega
        · have hj' : j ≤ cntN (thereB D x xd w) i := by
            have : cntN (thereB D x xd w) (i + 1) = cntN (thereB D x xd w) i + 1 := if_pos q
            omega
          rw [k3 j hj']
          show _ = ((if thereB D x xd w i = true then _ else _ : Nat → Nat) j : Int)
          rw [if_pos q]
      · have := g2 q
        subst this
        refine ⟨ho, ho2, ⟨?_, fun j hj => ?_⟩⟩
        · rw [hR.1]
          show _ = ((if thereB D x xd w i = true then _ else _ : Nat) : Int)
          rw [if_neg q]
        · have e : cntN (thereB D x xd w) (i + 1) = cntN (thereB D x xd w) i := if_neg q
          rw [e] at hj
          rw [hR.2 j hj]
          show _ = ((if thereB D x xd w i = true then _ else _ : Nat → Nat) j : Int)
          rw [if_neg q]
    have hth : thereB D x xd w i = true ↔ ((i : Int) ≠ w ∧ (D 0 i ≠ D 2 i ∧ D 0 i * xd ≤ x ∧ x ≤ D 2 i * xd)) := by
      unfold thereB
      rw [decide_eq_true_iff]
    unfold jn
    refine ⟨fun c1 => go t ⟨fun q => ?_, fun _ => rfl⟩, fun c1 => ?_⟩
    · rw [hth] at q
      exact absurd c1 q.1
    · refine s_X10_isThere h hat' (by omega) hx.2 fun r8 e8 => ?_
      rw [Int.toNat_natCast] at e8
      refine ⟨fun c2 => ?_, fun c2 => go t ⟨fun q => ?_, fun _ => rfl⟩⟩
      · have hthi : thereB D x xd w i = true := by
          rw [hth]
          refine ⟨c1, ?_⟩
          rcases e8 with e | e
          · exact e.2
          · exact absurd e.1 c2
        rintro _ rfl
        rw [hR.1]
        have hck := cntN_le (thereB D x xd w) i
        have hrl := rowN_lt (gtB D x xd) (thereB D x xd w) i
        have hR2 := hR.2
        have hR1 := hR.1
        generalize hrow : rowN (gtB D x xd) (thereB D x xd w) i = r at *
        generalize hcnt : cntN (thereB D x xd w) i = k at *
        refine lr_1s (fun a t2 => ∃ a' : Nat, a = (a' : Int) ∧ InsI 82 t t2 (gtB D x xd) r i k a') (fun a _ => a.toNat) ?_ _ _ ⟨k, rfl, Nat.le_refl _, rfl, fun _ _ => rfl, fun j hj => hR2 j hj, fun j h1 h2 => by omega⟩
        rintro again2 _ t2 ⟨a, rfl, hI⟩ ih2
        have hI1 := hI.1
        have fin : ∀ hq : posN (gtB D x xd) r i a = a, (0 ≤ (a : Int) ∧ (a : Int) < 10) ∧ ∀ s_15, s_15 = up t2 82 (a : Int).toNat (i : Int) → ∀ s_16, s_16 = up s_15 68 20 (w32 (s_15 68 20 + 1)) → ∀ v, v = w32 ((i : Int) + 1) → again v s_16 := by
          intro hq
          refine ⟨by omega, ?_⟩
          rintro _ rfl _ rfl
          obtain ⟨g1, g2⟩ := InsI_end hI hq
          have e20 : up t2 82 (a : Int).toNat (i : Int) 68 20 = (k : Int) := by
            rw [Int.toNat_natCast, g1 68 (by omega)]; exact hR1
          rw [e20, w32_id (show ok32 ((k : Int) + 1) from ⟨by omega, by omega⟩)]
          refine go _ ⟨fun _ => ⟨fun c c1 c2 => by rw [up_ne _ _ _ c1, Int.toNat_natCast, g1 c c2], fun o h20 => ?_, by rw [up_apply]; simp, fun j hj => ?_⟩, fun q => absurd hthi q⟩
          · rw [up_apply, Int.toNat_natCast, g1 68 (by omega)]
            simp [h20]
          · rw [up_ne _ _ _ (by omega), Int.toNat_natCast]
            exact g2 j hj
        refine ⟨fun c => fin ?_, fun c => ?_⟩
        · have : a = 0 := by omega
          subst this
          rfl
        · obtain ⟨a, rfl⟩ : ∃ b, a = b + 1 := ⟨a - 1, by omega⟩
          have b7 : ((a + 1 : Nat) : Int) - 1 = (a : Int) := by omega
          have b8 : ok32 (((a + 1 : Nat) : Int) - 1) := ⟨by omega, by omega⟩
          have b9 : ok32 (((a + 1 : Nat) : Int) + (-1)) := ⟨by omega, by omega⟩
          have b10 : ((a + 1 : Nat) : Int) + (-1) = (a : Int) := by omega
          have b1 : 0 ≤ (a : Int) ∧ (a : Int) < 10 := by omega
          have b6 : 0 ≤ ((a + 1 : Nat) : Int) ∧ ((a + 1 : Nat) : Int) < 10 := by omega
          have b5 : (a : Int).toNat < ((a + 1 : Nat) : Int).toNat := by omega
          have ht82 : t2 82 a = (r a : Int) := hI.2.2.2.1 a (by omega)
          have hra := hrl a (by omega)
          rw [w32_id b8, b7, Int.toNat_natCast, ht82]
          refine ⟨b1, s_X10_isAhead (n := n) (x := x) (xd := xd) h (fun j hj => ?_) (by omega) (by omega) hx hxd fun r18 e18 => ?_⟩
          · rw [hI.2.2.1 69 (by omega), hI.2.2.1 (69 + 1) (by omega), hI.2.2.1 (69 + 2) (by omega), hI.2.2.1 (69 + 3) (by omega)]
            exact hat' j hj
          · rw [Int.toNat_natCast, Int.toNat_natCast] at e18
            refine ⟨fun c3 => fin (posN_stop ?_), fun c3 => ⟨b1, b6, ?_⟩⟩
            · unfold gtB
              rw [decide_eq_true_iff]
              rcases e18 with e | e
              · omega
              · exact e.2
            · rintro _ rfl _ rfl
              rw [Int.toNat_natCast, w32_id b9, b10]
              have g := InsI_go hI (by
                unfold gtB
                rw [decide_eq_true_iff]
                rcases e18 with e | e
                · exact e.2
                · exact absurd e.1 c3)
              rw [ht82] at g
              exact ih2 _ _ ⟨a, rfl, g⟩ b5
      · rw [hth] at q
        rcases e8 with e | e
        · omega
        · exact absurd q.2 e.2
