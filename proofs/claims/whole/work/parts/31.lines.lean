/-! line, drop, move, taken -/
theorem s_X2_add {s : Sg} {c : Nat} {x y u v : Int} {post : Int → Sg → Prop} (hn : 0 ≤ s c 0 ∧ s c 0 ≤ 10)
    (h : (s c 0 < 10 → post (s c 0) (layS (up s c 0 (s c 0 + 1)) (c + 1) (s c 0).toNat x y u v)) ∧ (s c 0 = 10 → post (-4) s)) : w_X2_add s c x y u v post := by
  unfold w_X2_add
  refine s_X2_isFull fun r e => ⟨fun hr => ?_, fun hr => h.2 (by omega)⟩
  intro s2 e2
  rw [w32_id (show ok32 (s c 0 + 1) from ⟨by omega, by omega⟩)] at e2
  have e3 : s2 c 0 = s c 0 + 1 := by rw [e2, up_apply]; simp
  rw [e3, w32_id (show ok32 (s c 0 + 1 - 1) from ⟨by omega, by omega⟩), show s c 0 + 1 - 1 = s c 0 by omega]
  refine s_X2_lay (by rw [e3]; omega) (by rw [e3]; omega) ?_
  have e4 : layS s2 (c + 1) (s c 0).toNat x y u v c 0 = s c 0 + 1 := by rw [layS_ne (by omega), e3]
  rw [e4, w32_id (show ok32 (s c 0 + 1 - 1) from ⟨by omega, by omega⟩), show s c 0 + 1 - 1 = s c 0 by omega, e2]
  exact h.1 (by omega)
/-- flags off -/
def fgt (s : Sg) : Sg := up (up (up s 0 13 0) 0 14 0) 0 15 0
theorem fgt_ne (s : Sg) {c : Nat} (h : c ≠ 0) : fgt s c = s c := by
  unfold fgt; rw [up_ne _ _ _ h, up_ne _ _ _ h, up_ne _ _ _ h]
theorem fgt_0 (s : Sg) : fgt s 0 12 = s 0 12 ∧ fgt s 0 13 = 0 ∧ fgt s 0 14 = 0 ∧ fgt s 0 15 = 0 := by
  unfold fgt; simp [up_apply]
theorem s_X9_line {s : Sg} {x y u v : Int} {post : Int → Sg → Prop} (hn : 0 ≤ s 1 0 ∧ s 1 0 ≤ 10)
    (h : (((0 ≤ x ∧ x ≤ 40) ∧ (0 ≤ y ∧ y ≤ 40) ∧ (0 ≤ u ∧ u ≤ 40) ∧ (0 ≤ v ∧ v ≤ 40) ∧ ¬ (x = u ∧ y = v)) → s 1 0 < 10 → post (s 1 0) (layS (up (fgt s) 1 0 (s 1 0 + 1)) 2 (s 1 0).toNat x y u v)) ∧
      (((0 ≤ x ∧ x ≤ 40) ∧ (0 ≤ y ∧ y ≤ 40) ∧ (0 ≤ u ∧ u ≤ 40) ∧ (0 ≤ v ∧ v ≤ 40) ∧ ¬ (x = u ∧ y = v)) → s 1 0 = 10 → post (-4) s) ∧
      (¬ ((0 ≤ x ∧ x ≤ 40) ∧ (0 ≤ y ∧ y ≤ 40) ∧ (0 ≤ u ∧ u ≤ 40) ∧ (0 ≤ v ∧ v ≤ 40) ∧ ¬ (x = u ∧ y = v)) → post (-2) s)) : w_X9_line s x y u v post := by
  unfold w_X9_line
  refine s_X9_canBeEnds fun r e => ⟨fun hr => ?_, fun hr => h.2.2 (by omega)⟩
  have hgood : (0 ≤ x ∧ x ≤ 40) ∧ (0 ≤ y ∧ y ≤ 40) ∧ (0 ≤ u ∧ u ≤ 40) ∧ (0 ≤ v ∧ v ≤ 40) ∧ ¬ (x = u ∧ y = v) := by rcases e with e | e; exact e.2; exact absurd e.1 hr
  refine s_X2_isFull fun r2 e2 => ⟨fun hr2 => ?_, fun hr2 => h.2.1 hgood (by omega)⟩
  refine s_forget ?_
  have e3 : (fgt s) 1 0 = s 1 0 := by rw [fgt_ne _ (by decide)]
  refine s_X2_add (s := fgt s) (by rw [e3]; exact hn) ⟨fun hl => ?_, fun hl => by rw [e3] at hl; omega⟩
  rw [e3]
  exact h.1 hgood (by omega)
theorem s_X10_line {s : Sg} {x y u v : Int} {post : Int → Sg → Prop} (hn : 0 ≤ s 68 0 ∧ s 68 0 ≤ 10)
    (h : (((0 ≤ x ∧ x ≤ 40) ∧ (0 ≤ y ∧ y ≤ 40) ∧ (0 ≤ u ∧ u ≤ 40) ∧ (0 ≤ v ∧ v ≤ 40) ∧ ¬ (x = u ∧ y = v)) → s 68 0 < 10 → post (s 68 0) (up (layS s 69 (s 68 0).toNat x y u v) 68 0 (s 68 0 + 1))) ∧
      (((0 ≤ x ∧ x ≤ 40) ∧ (0 ≤ y ∧ y ≤ 40) ∧ (0 ≤ u ∧ u ≤ 40) ∧ (0 ≤ v ∧ v ≤ 40) ∧ ¬ (x = u ∧ y = v)) → s 68 0 = 10 → post (-4) s) ∧
      (¬ ((0 ≤ x ∧ x ≤ 40) ∧ (0 ≤ y ∧ y ≤ 40) ∧ (0 ≤ u ∧ u ≤ 40) ∧ (0 ≤ v ∧ v ≤ 40) ∧ ¬ (x = u ∧ y = v)) → post (-2) s)) : w_X10_line s x y u v post := by
  unfold w_X10_line jn
  refine s_X10_isOnSheet fun r1 e1 => ⟨fun hr => h.2.2 (by omega), fun hr => ?_⟩
  refine s_X10_isOnSheet fun r2 e2 => ⟨fun hr => h.2.2 (by omega), fun hr => ?_⟩
  refine s_X10_isOnSheet fun r3 e3 => ⟨fun hr => h.2.2 (by omega), fun hr => ?_⟩
  refine s_X10_isOnSheet fun r4 e4 => ⟨fun hr => h.2.2 (by omega), fun hr => ?_⟩
  have key : ¬ (x = u ∧ y = v) → ((¬ s 68 0 = 10 → w_X10_stands s (s 68 0) x y u v (fun s_7 => ∀ s_8, s_8 = up s_7 68 0 (w32 ((s_7 68 0) + 1)) → (post (w32 ((s_8 68 0) - 1)) s_8))) ∧ (s 68 0 = 10 → post (-4) s)) := by
    intro hne
    refine ⟨fun h10 => s_X10_stands (by omega) ?_, fun h10 => h.2.1 (by omega) h10⟩
    intro s8 e8
    have e5 : layS s 69 (s 68 0).toNat x y u v 68 0 = s 68 0 := by rw [layS_ne (by omega)]
    rw [e5, w32_id (show ok32 (s 68 0 + 1) from ⟨by omega, by omega⟩)] at e8
    have e6 : s8 68 0 = s 68 0 + 1 := by rw [e8, up_apply]; simp
    rw [e6, w32_id (show ok32 (s 68 0 + 1 - 1) from ⟨by omega, by omega⟩), show s 68 0 + 1 - 1 = s 68 0 by omega, e8]
    exact h.1 (by omega) (by omega)
  refine ⟨fun c1 => key (by omega), fun c1 => ⟨fun c2 => key (by omega), fun c2 => h.2.2 (by omega)⟩⟩
theorem Base_line {s : Sg} {x y u v : Int} (hB : Base s) (hg : (0 ≤ x ∧ x ≤ 40) ∧ (0 ≤ y ∧ y ≤ 40) ∧ (0 ≤ u ∧ u ≤ 40) ∧ (0 ≤ v ∧ v ≤ 40) ∧ ¬ (x = u ∧ y = v)) (hn : s 1 0 < 10) :
    Base (up (layS (layS (up (fgt s) 1 0 (s 1 0 + 1)) 2 (s 1 0).toNat x y u v) 69 (s 1 0).toNat x y u v) 68 0 (s 1 0 + 1)) := by
  obtain ⟨b1, b2, b3, b4, b5, b6, b7⟩ := hB
  have n0 := b2.1
  generalize hA : up (fgt s) 1 0 (s 1 0 + 1) = A
  have hA1 : A 1 0 = s 1 0 + 1 := by rw [← hA, up_apply]; simp
  have hAo : ∀ c, c ≠ 0 → c ≠ 1 → A c = s c := fun c h0 h1 => by rw [← hA, up_ne _ _ _ h1, fgt_ne _ h0]
  have hA0 : A 0 12 = s 0 12 := by rw [← hA, up_apply]; simpa using (fgt_0 s).1
  generalize hB : layS A 2 (s 1 0).toNat x y u v = B
  have hBo : ∀ c, (c < 2 ∨ 6 ≤ c) → B c = A c := fun c h => by rw [← hB, layS_ne (by omega)]
  have hBi : ∀ c k, k ≠ (s 1 0).toNat → B c k = A c k := fun c k h => by rw [← hB, layS_i h]
  generalize hD : layS B 69 (s 1 0).toNat x y u v = D
  have hDo : ∀ c, (c < 69 ∨ 73 ≤ c) → D c = B c := fun c h => by rw [← hD, layS_ne (by omega)]
  have hDi : ∀ c k, k ≠ (s 1 0).toNat → D c k = B c k := fun c k h => by rw [← hD, layS_i h]
  have hat := layS_at (s := B) (t := A) (c := 69) (e := 2) (i := (s 1 0).toNat) (x := x) (y := y) (u := u) (v := v)
  rw [hD, hB] at hat
  have hok := layS_ok (s := A) (c := 2) (i := (s 1 0).toNat) hg.1 hg.2.1 hg.2.2.1 hg.2.2.2.1 hg.2.2.2.2
  rw [hB] at hok
  generalize hE : up D 68 0 (s 1 0 + 1) = E
  have hE68 : E 68 0 = s 1 0 + 1 := by rw [← hE, up_apply]; simp
  have hE43 : E 68 43 = s 68 43 := by rw [← hE, up_apply]; simp; rw [hDo 68 (by omega), hBo 68 (by omega), hAo 68 (by omega) (by omega)]
  have hEo : ∀ c, c ≠ 68 → E c = D c := fun c h => by rw [← hE, up_ne _ _ _ h]
  have hfar : ∀ c, (6 ≤ c ∧ c < 68) ∨ 73 ≤ c → E c = s c := fun c h => by rw [hEo c (by omega), hDo c (by omega), hBo c (by omega), hAo c (by omega) (by omega)]
  have h1 : E 1 0 = s 1 0 + 1 := by rw [hEo 1 (by omega), hDo 1 (by omega), hBo 1 (by omega), hA1]
  have h12 : E 0 12 = s 0 12 := by rw [hEo 0 (by omega), hDo 0 (by omega), hBo 0 (by omega), hA0]
  have hlow : ∀ c, 2 ≤ c → c < 6 → E c = B c := fun c h h' => by rw [hEo c (by omega), hDo c (by omega)]
  refine ⟨by rw [hE68, h1], ?_, ?_, by rw [hE43, h12, b4], by rw [h12]; exact b5, ?_, ?_⟩
  · rw [h1]
    refine ⟨by omega, by omega, fun i hi => ?_⟩
    rw [hlow 2 (by omega) (by omega), hlow (2 + 1) (by omega) (by omega), hlow (2 + 2) (by omega) (by omega), hlow (2 + 3) (by omega) (by omega)]
    by_cases e : i = (s 1 0).toNat
    · subst e; exact hok
    · rw [hBi _ _ e, hBi _ _ e, hBi _ _ e, hBi _ _ e, hAo 2 (by omega) (by omega), hAo (2 + 1) (by omega) (by omega), hAo (2 + 2) (by omega) (by omega), hAo (2 + 3) (by omega) (by omega)]
      exact b2.2.2 i (by omega)
  · rw [h1]
    intro i hi
    rw [hlow 2 (by omega) (by omega), hlow (2 + 1) (by omega) (by omega), hlow (2 + 2) (by omega) (by omega), hlow (2 + 3) (by omega) (by omega), hEo 69 (by omega), hEo (69 + 1) (by omega), hEo (69 + 2) (by omega), hEo (69 + 3) (by omega)]
    by_cases e : i = (s 1 0).toNat
    · subst e; exact hat
    · rw [hDi _ _ e, hDi _ _ e, hDi _ _ e, hDi _ _ e, hBi _ _ e, hBi _ _ e, hBi _ _ e, hBi _ _ e, hBi _ _ e, hBi _ _ e, hBi _ _ e, hBi _ _ e, hAo 2 (by omega) (by omega), hAo (2 + 1) (by omega) (by omega), hAo (2 + 2) (by omega) (by omega), hAo (2 + 3) (by omega) (by omega), hAo 69 (by omega) (by omega), hAo (69 + 1) (by omega) (by omega), hAo (69 + 2) (by omega) (by omega), hAo (69 + 3) (by omega) (by omega)]
      exact b3 i (by omega)
  · rw [h12]
    intro hi
    obtain ⟨g1, g2, g3⟩ := b6 hi
    rw [hfar 174 (by omega), hfar 6 (by omega)]
    refine ⟨g1, ?_, ?_⟩
    · unfold LkOK
      rw [hfar 7 (by omega), hfar (7 + 1) (by omega), hfar (7 + 2) (by omega), hfar (7 + 3) (by omega)]
      exact g2
    · unfold LkEq
      rw [hfar 7 (by omega), hfar (7 + 1) (by omega), hfar (7 + 2) (by omega), hfar (7 + 3) (by omega), hfar 180 (by omega), hfar (180 + 1) (by omega), hfar (180 + 2) (by omega), hfar (180 + 3) (by omega)]
      exact g3
  · unfold ShOK
    intro t ht
    rw [hfar 65 (by omega), hfar 184 (by omega), hfar 66 (by omega), hfar 185 (by omega), hfar 67 (by omega), hfar (187 + t) (by omega)]
    exact b7 t ht
theorem T_line {s : Sg} {x y u v : Int} (hB : Base s) : w_X9_line s x y u v (fun r1 s1 => w_X10_line s1 x y u v (fun r2 s2 => r1 = r2 ∧ Base s2 ∧ Keep s s2)) := by
  have b1 := hB.1
  have hn : 0 ≤ s 1 0 ∧ s 1 0 ≤ 10 := ⟨hB.2.1.1, hB.2.1.2.1⟩
  refine s_X9_line hn ⟨fun hg hl => ?_, fun hg hl => ?_, fun hg => ?_⟩
  · generalize hB' : layS (up (fgt s) 1 0 (s 1 0 + 1)) 2 (s 1 0).toNat x y u v = B
    have e : B 68 0 = s 1 0 := by rw [← hB', layS_ne (by omega), up_ne _ _ _ (by omega), fgt_ne _ (by omega), b1]
    refine s_X10_line (by rw [e]; exact hn) ⟨fun _ _ => ?_, fun _ h10 => by omega, fun h => absurd hg h⟩
    rw [e]
    refine ⟨rfl, ?_, Or.inr ?_⟩
    · rw [← hB']; exact Base_line hB hg hl
    · rw [up_ne _ _ _ (by omega), layS_ne (by omega), ← hB', layS_ne (by omega), up_ne _ _ _ (by omega)]
      exact (fgt_0 s).2
  · exact s_X10_line (by rw [b1]; exact hn) ⟨fun _ h => by omega, fun _ _ => ⟨rfl, hB, Or.inl ⟨fun _ _ => rfl, rfl, rfl, rfl⟩⟩, fun h => absurd hg h⟩
  · exact s_X10_line (by rw [b1]; exact hn) ⟨fun h => absurd h hg, fun h => absurd h hg, fun _ => ⟨rfl, hB, Or.inl ⟨fun _ _ => rfl, rfl, rfl, rfl⟩⟩⟩
