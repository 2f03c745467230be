/-! a row with a line left out -/
def delN (f : Nat → Nat) (p : Nat) : Nat → Nat := fun j => if j < p then f j else f (j + 1)
theorem cntN_congr {th th' : Nat → Bool} {n : Nat} (h : ∀ i, i < n → th i = th' i) : cntN th n = cntN th' n ∧ ∀ gt, rowN gt th n = rowN gt th' n := by
  induction n with
  | zero => exact ⟨rfl, fun _ => rfl⟩
  | succ n ih =>
    obtain ⟨h1, h2⟩ := ih (fun i hi => h i (by omega))
    refine ⟨?_, fun gt => ?_⟩
    · rw [cntN_s, cntN_s, h1, h n (by omega)]
    · rw [rowN_s, rowN_s, h1, h2, h n (by omega)]
theorem there_run {D : Nat → Nat → Int} {n x xd w : Int} (h : LsD D n) (i : Nat) (hi : i < n.toNat) (ht : thereB D x xd w i = true) : D 0 i < D 2 i := by
  unfold thereB at ht
  rw [decide_eq_true_iff] at ht
  have := (h.2 i (by omega)).2
  omega
theorem row_without {D : Nat → Nat → Int} {n x xd : Int} {w : Nat} (h : LsD D n) :
    (cntN (thereB D x xd w) n.toNat = cntN (thereB D x xd (-1)) n.toNat ∧ (∀ j, j < cntN (thereB D x xd (-1)) n.toNat → rowN (gtB D x xd) (thereB D x xd (-1)) n.toNat j ≠ w) ∧ rowN (gtB D x xd) (thereB D x xd w) n.toNat = rowN (gtB D x xd) (thereB D x xd (-1)) n.toNat) ∨
    (∃ p, p < cntN (thereB D x xd (-1)) n.toNat ∧ rowN (gtB D x xd) (thereB D x xd (-1)) n.toNat p = w ∧ (∀ j, j < cntN (thereB D x xd (-1)) n.toNat → j ≠ p → rowN (gtB D x xd) (thereB D x xd (-1)) n.toNat j ≠ w) ∧ cntN (thereB D x xd w) n.toNat + 1 = cntN (thereB D x xd (-1)) n.toNat ∧ ∀ j, j < cntN (thereB D x xd w) n.toNat → rowN (gtB D x xd) (thereB D x xd w) n.toNat j = delN (rowN (gtB D x xd) (thereB D x xd (-1)) n.toNat) p j) := by
  have tw : ∀ i, thereB D x xd w i = true ↔ (i ≠ w ∧ thereB D x xd (-1) i = true) := by
    intro i
    unfold thereB
    rw [decide_eq_true_iff, decide_eq_true_iff]
    omega
  have i1 := rowN_inc (D := D) (x := x) (xd := xd) (th := thereB D x xd (-1)) n.toNat (there_run h)
  have i2 := rowN_inc (D := D) (x := x) (xd := xd) (th := thereB D x xd w) n.toNat (there_run h)
  have l1 := rowN_lt (gtB D x xd) (thereB D x xd (-1)) n.toNat
  have l2 := rowN_lt (gtB D x xd) (thereB D x xd w) n.toNat
  have m1 := rowN_mem (gtB D x xd) (thereB D x xd (-1)) n.toNat
  have m2 := rowN_mem (gtB D x xd) (thereB D x xd w) n.toNat
  by_cases c : w < n.toNat ∧ thereB D x xd (-1) w = true
  · refine Or.inr ?_
    obtain ⟨p, hp, ep⟩ := m1 w c.1 c.2
    generalize rowN (gtB D x xd) (thereB D x xd (-1)) n.toNat = f at *
    generalize rowN (gtB D x xd) (thereB D x xd w) n.toNat = g at *
    generalize cntN (thereB D x xd (-1)) n.toNat = m at *
    generalize cntN (thereB D x xd w) n.toNat = k at *
    have one : ∀ j, j < m → j ≠ p → f j ≠ w := by
      intro j hj hne e
      rcases Nat.lt_or_gt_of_ne hne with d | d
      · have := i1 j p d hp
        rw [e, ep] at this
        exact ltL_irr _ _ _ _ this
      · have := i1 p j d hj
        rw [e, ep] at this
        exact ltL_irr _ _ _ _ this
    have inc : SInc (ltL D x xd) (delN f p) (m - 1) := by
      intro a b hab hb
      unfold delN
      by_cases c1 : a < p
      · rw [if_pos c1]
        by_cases c2 : b < p
        · rw [if_pos c2]; exact i1 a b hab (by omega)
        · rw [if_neg c2]; exact i1 a (b + 1) (by omega) (by omega)
      · rw [if_neg c1, if_neg (by omega)]
        exact i1 (a + 1) (b + 1) (by omega) (by omega)
    have u := seq_unique (ltL_irr D x xd) (ltL_tr D x xd) i2 inc (fun i hi => ?_) (fun j hj => ?_)
    · exact ⟨p, hp, ep, one, by omega, fun j hj => u.2 j hj⟩
    · have q := l2 i hi
      rw [tw] at q
      obtain ⟨j, hj, ej⟩ := m1 (g i) q.1 q.2.2
      have hne : j ≠ p := by
        intro e
        subst e
        exact q.2.1 (ej.symm.trans ep)
      unfold delN
      by_cases d : j < p
      · exact ⟨j, by omega, by rw [if_pos d, ej]⟩
      · refine ⟨j - 1, by omega, ?_⟩
        rw [if_neg (by omega), show j - 1 + 1 = j by omega, ej]
    · have key : ∀ t, t < m → t ≠ p → ∃ i, i < k ∧ f t = g i := by
        intro t ht hne
        have q := l1 t ht
        obtain ⟨i, hi, ei⟩ := m2 (f t) q.1 (by rw [tw]; exact ⟨one t ht hne, q.2⟩)
        exact ⟨i, hi, ei.symm⟩
      unfold delN
      by_cases d : j < p
      · rw [if_pos d]; exact key j (by omega) (by omega)
      · rw [if_neg d]; exact key (j + 1) (by omega) (by omega)
  · refine Or.inl ?_
    have e : ∀ i, i < n.toNat → thereB D x xd w i = thereB D x xd (-1) i := by
      intro i hi
      rw [Bool.eq_iff_iff, tw]
      refine ⟨fun q => q.2, fun q => ⟨?_, q⟩⟩
      intro e
      subst e
      exact c ⟨hi, q⟩
    have hc := cntN_congr e
    refine ⟨hc.1, fun j hj ej => ?_, hc.2 _⟩
    have q := l1 j hj
    rw [ej] at q
    exact c q
/-- the first that is otherwise of a row of m and what is told -/
def FO (f : Nat → Nat) (it : Nat → Int) (m len : Nat) (r : Int) : Prop :=
  (r = -1 ∧ m = len ∧ ∀ j, j < m → (f j : Int) = it j) ∨ ∃ k : Nat, r = (k : Int) ∧ (∀ j, j < k → (f j : Int) = it j) ∧ k ≤ m ∧ k ≤ len ∧ ((k < m ∧ k < len ∧ (f k : Int) ≠ it k) ∨ (k = m ∧ m < len) ∨ (k = len ∧ len < m))
theorem FO_one {f : Nat → Nat} {it : Nat → Int} {m len : Nat} {r r' : Int} (h : FO f it m len r) (h' : FO f it m len r') : r = r' := by
  rcases h with ⟨e, e1, e2⟩ | ⟨k, e, e1, e2, e3, e4⟩
  · rcases h' with ⟨d, d1, d2⟩ | ⟨l, d, d1, d2, d3, d4⟩
    · omega
    · rcases d4 with d4 | d4 | d4
      · exact absurd (e2 l d4.1) d4.2.2
      · omega
      · omega
  · rcases h' with ⟨d, d1, d2⟩ | ⟨l, d, d1, d2, d3, d4⟩
    · rcases e4 with d4 | d4 | d4
      · exact absurd (d2 k d4.1) d4.2.2
      · omega
      · omega
    · rcases Nat.lt_trichotomy k l with c | c | c
      · rcases e4 with e4 | e4 | e4
        · exact absurd (d1 k c) e4.2.2
        · omega
        · omega
      · omega
      · rcases d4 with e4 | e4 | e4
        · exact absurd (e1 l c) e4.2.2
        · omega
        · omega
theorem FO_congr {f g : Nat → Nat} {it it' : Nat → Int} {m len : Nat} {r : Int} (hf : ∀ j, j < m → f j = g j) (hi : ∀ j, j < len → it j = it' j) (h : FO f it m len r) : FO g it' m len r := by
  rcases h with ⟨e, e1, e2⟩ | ⟨k, e, e1, e2, e3, e4⟩
  · exact Or.inl ⟨e, e1, fun j hj => by rw [← hf j hj, e2 j hj, hi j (by omega)]⟩
  · refine Or.inr ⟨k, e, fun j hj => by rw [← hf j (by omega), e1 j hj, hi j (by omega)], e2, e3, ?_⟩
    rcases e4 with e4 | e4 | e4
    · exact Or.inl ⟨e4.1, e4.2.1, by rw [← hf k e4.1, ← hi k e4.2.1]; exact e4.2.2⟩
    · exact Or.inr (Or.inl e4)
    · exact Or.inr (Or.inr e4)
theorem s_X5_first {s : Sg} {a w : Int} {f : Nat → Nat} {m len p : Nat} {post : Int → Prop} (ha : 0 ≤ a ∧ a < 4) (h35 : s 35 0 = (m : Int)) (hm : m ≤ 10) (h36 : ∀ j, j < m → s 36 j = (f j : Int)) (h66 : s 66 a.toNat = (len : Int)) (hlen : len ≤ 40) (hp1 : p < m → (f p : Int) = w) (hp2 : ∀ j, j < m → j ≠ p → (f j : Int) ≠ w) (hp : ∀ r, FO (delN f p) (fun j => s 67 (40 * a.toNat + j)) (if p < m then m - 1 else m) len r → post r) : w_X5_firstOtherwise s a w post := by
  unfold w_X5_firstOtherwise
  rw [h35, h66]
  refine lr_2 (fun at' i => ∃ i' k : Nat, i = (i' : Int) ∧ at' = (k : Int) ∧ k = (if i' ≤ p then i' else i' - 1) ∧ i' ≤ m ∧ k ≤ len ∧ ∀ j, j < k → (delN f p j : Int) = s 67 (40 * a.toNat + j)) (fun _ i => ((m : Int) - i).toNat) ?_ _ _ ⟨0, 0, rfl, rfl, by simp, by omega, by omega, fun j hj => absurd hj (Nat.not_lt_zero _)⟩
  rintro again _ _ ⟨i, k, rfl, rfl, ek, him, hkl, hall⟩ ih
  have b1 : ok32 ((i : Int) + 1) := ⟨by omega, by omega⟩
  have b2 : (i : Int) + 1 = ((i + 1 : Nat) : Int) := by omega
  have c1 : ok32 ((k : Int) + 1) := ⟨by omega, by omega⟩
  have c2 : (k : Int) + 1 = ((k + 1 : Nat) : Int) := by omega
  have a1 : ok32 (a * 40) := ⟨by omega, by omega⟩
  have a2 : ok32 (a * 40 + (k : Int)) := ⟨by omega, by omega⟩
  have a3 : (a * 40 + (k : Int)).toNat = 40 * a.toNat + k := by omega
  unfold jn
  refine ⟨fun c => ⟨ha, ⟨fun q => hp _ (Or.inl ⟨rfl, ?_, fun j hj => hall j ?_⟩), fun q => hp _ (Or.inr ⟨k, rfl, hall, ?_, hkl, Or.inr (Or.inl ⟨?_, ?_⟩)⟩)⟩⟩, fun c => ⟨by omega, ?_⟩⟩
  · split at ek <;> split <;> omega
  · split at ek <;> split at hj <;> omega
  · split at ek <;> split <;> omega
  · split at ek <;> split <;> omega
  · split at ek <;> split <;> omega
  · intro v6 ev6
    rw [Int.toNat_natCast, h36 i (by omega)] at ev6
    have him1 : i < m := by omega
    refine ⟨fun q => ?_, fun q v9 ev9 => ?_⟩
    · have hne : i ≠ p := by
        intro e
        subst e
        exact q (ev6.trans (hp1 him1))
      have hfi : delN f p k = f i := by
        unfold delN
        by_cases d : i ≤ p
        · rw [if_pos d] at ek
          rw [if_pos (by omega), ek]
        · rw [if_neg d] at ek
          rw [if_neg (by omega)]
          congr 1
          omega
      have hkm : k < (if p < m then m - 1 else m) := by
        split at ek <;> split <;> omega
      have fin : ∀ q3 : ((len : Int) ≤ (k : Int) ∨ ¬ s 67 (40 * a.toNat + k) = v6), post (k : Int) := by
        intro q3
        refine hp _ (Or.inr ⟨k, rfl, hall, by omega, hkl, ?_⟩)
        by_cases d : k = len
        · exact Or.inr (Or.inr ⟨d, by omega⟩)
        · refine Or.inl ⟨hkm, by omega, ?_⟩
          rw [hfi, ← ev6]
          rcases q3 with q3 | q3
          · omega
          · exact fun e => q3 e.symm
      refine ⟨ha, ⟨fun q2 => fin (Or.inl q2), fun q2 => ?_⟩⟩
      unfold w_X5_item
      rw [w32_id a1, w32_id a2, a3]
      refine ⟨by omega, ⟨fun q3 v4 ev4 v9 ev9 => ?_, fun q3 => fin (Or.inr q3)⟩⟩
      rw [ev4, ev9, w32_id b1, b2, w32_id c1, c2]
      clear ev4 ev9
      refine ih _ _ ⟨i + 1, k + 1, rfl, rfl, ?_, by omega, by omega, fun j hj => ?_⟩ (by omega)
      · split at ek <;> split <;> omega
      · by_cases d : j = k
        · subst d
          rw [hfi, ← ev6]
          exact q3.symm
        · exact hall j (by omega)
    · have hip : i = p := by
        apply Decidable.byContradiction
        intro d
        exact hp2 i him1 d (ev6.symm.trans q)
      rw [ev9, w32_id b1, b2]
      clear ev9
      refine ih _ _ ⟨i + 1, k, rfl, rfl, ?_, by omega, hkl, hall⟩ (by omega)
      split at ek <;> split <;> omega
theorem s_X10_otherwise {s : Sg} {D : Nat → Nat → Int} {n a x w : Int} {len : Nat} {post : Int → Sg → Prop} (h : LsD D n) (hn : s 68 0 = n) (hat : LnAt s 69 n D) (hx : 0 ≤ x ∧ x ≤ 40) (ha : 0 ≤ a ∧ a < 4) (h185 : s 185 a.toNat = (len : Int)) (hlen : len ≤ 40) (hp : ∀ r t, (∀ c, c ≠ 68 → c ≠ 82 → t c = s c) → (∀ o, o ≠ 20 → t 68 o = s 68 o) → FO (rowN (gtB D x 1) (thereB D x 1 w) n.toNat) (fun j => s (187 + a.toNat) j) (cntN (thereB D x 1 w) n.toNat) len r → post r t) : w_X10_otherwise s a x w post := by
  unfold w_X10_otherwise
  refine s_X10_tellOrder (w := w) h hn hat (x := x) (xd := 1) ⟨by omega, by omega⟩ (by omega) fun t ho ho2 hR => ?_
  obtain ⟨hR1, hR2⟩ := hR
  have hle := cntN_le (thereB D x 1 w) n.toNat
  have hn10 := h.1
  have hp' := fun r => hp r t ho ho2
  have t185 : t 185 a.toNat = (len : Int) := by rw [ho 185 (by omega) (by omega)]; exact h185
  have t187 : t (187 + a.toNat) = s (187 + a.toNat) := ho _ (by omega) (by omega)
  rw [hR1, t185, t187]
  generalize cntN (thereB D x 1 w) n.toNat = m at *
  generalize rowN (gtB D x 1) (thereB D x 1 w) n.toNat = f at *
  refine lr_1 (fun k => ∃ k' : Nat, k = (k' : Int) ∧ k' ≤ m ∧ k' ≤ len ∧ ∀ j, j < k' → (f j : Int) = s (187 + a.toNat) j) (fun k => ((m : Int) - k).toNat) ?_ _ ⟨0, rfl, by omega, by omega, fun j hj => absurd hj (Nat.not_lt_zero _)⟩
  rintro again _ ⟨k, rfl, hkm, hkl, hall⟩ ih
  have b1 : ok32 ((k : Int) + 1) := ⟨by omega, by omega⟩
  have b2 : (k : Int) + 1 = ((k + 1 : Nat) : Int) := by omega
  unfold jn
  refine ⟨ha, ⟨fun q => ⟨ha, ⟨fun q2 => hp' _ (Or.inl ⟨rfl, by omega, fun j hj => hall j (by omega)⟩), fun q2 => ⟨ha, hp' _ (Or.inr ⟨len, rfl, fun j hj => hall j (by omega), by omega, by omega, Or.inr (Or.inr ⟨rfl, by omega⟩)⟩)⟩⟩⟩, fun q => ⟨fun q2 => hp' _ (Or.inr ⟨k, rfl, hall, by omega, by omega, Or.inr (Or.inl ⟨by omega, by omega⟩)⟩), fun q2 => ⟨by omega, ha, by omega, ⟨fun q3 v ev => ?_, fun q3 => ?_⟩⟩⟩⟩⟩
  · rw [Int.toNat_natCast, hR2 k (by omega)] at q3
    rw [ev, w32_id b1, b2]
    clear ev
    refine ih _ ⟨k + 1, rfl, by omega, by omega, fun j hj => ?_⟩ (by omega)
    by_cases d : j = k
    · subst d; exact q3
    · exact hall j (by omega)
  · rw [Int.toNat_natCast, hR2 k (by omega)] at q3
    exact hp' _ (Or.inr ⟨k, rfl, hall, by omega, by omega, Or.inl ⟨by omega, by omega, q3⟩⟩)
