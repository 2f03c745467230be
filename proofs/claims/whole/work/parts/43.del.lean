/-! a row with a line left out -/
def delN (f : Nat → Nat) (p : Nat) : Nat → Nat := fun j => if j < p then f j else f (j + 1)
theorem cntN_congr {th th' : Nat → Bool} {n : Nat} (h : ∀ i, i < n → th i = th' i) : cntN th n = cntN th' n ∧ ∀ gt, rowN gt th n = rowN gt th' n := by
  induction n with
  | zero => exact ⟨rfl, fun _ => rfl⟩
  | succ n ih =>
    obtain ⟨h1, h2⟩ := ih (fun i hi => h i (by omega))
    refine ⟨?_, fun gt => ?_⟩
    · rw [cntN_s, cntN_s, h1, h n (by omega)]
    · rw [rowN_s, rowN_s, h1, h2, h n (by omega)]
theorem there_run {D : Nat → Nat → Int} {n x xd w : Int} (h : LsD D n) (i : Nat) (hi : i < n.toNat) (ht : thereB D x xd w i = true) : D 0 i < D 2 i := by
  unfold thereB at ht
  rw [decide_eq_true_iff] at ht
  have := (h.2 i (by omega)).2
  omega
theorem row_without {D : Nat → Nat → Int} {n x xd : Int} {w : Nat} (h : LsD D n) :
    (cntN (thereB D x xd w) n.toNat = cntN (thereB D x xd (-1)) n.toNat ∧ (∀ j, j < cntN (thereB D x xd (-1)) n.toNat → rowN (gtB D x xd) (thereB D x xd (-1)) n.toNat j ≠ w) ∧ rowN (gtB D x xd) (thereB D x xd w) n.toNat = rowN (gtB D x xd) (thereB D x xd (-1)) n.toNat) ∨
    (∃ p, p < cntN (thereB D x xd (-1)) n.toNat ∧ rowN (gtB D x xd) (thereB D x xd (-1)) n.toNat p = w ∧ (∀ j, j < cntN (thereB D x xd (-1)) n.toNat → j ≠ p → rowN (gtB D x xd) (thereB D x xd (-1)) n.toNat j ≠ w) ∧ cntN (thereB D x xd w) n.toNat + 1 = cntN (thereB D x xd (-1)) n.toNat ∧ ∀ j, j < cntN (thereB D x xd w) n.toNat → rowN (gtB D x xd) (thereB D x xd w) n.toNat j = delN (rowN (gtB D x xd) (thereB D x xd (-1)) n.toNat) p j) := by
  have tw : ∀ i, thereB D x xd w i = true ↔ (i ≠ w ∧ thereB D x xd (-1) i = true) := by
    intro i
    unfold thereB
    rw [decide_eq_true_iff, decide_eq_true_iff]
    omega
  have i1 := rowN_inc (D := D) (x := x) (xd := xd) (th := thereB D x xd (-1)) n.toNat (there_run h)
  have i2 := rowN_inc (D := D) (x := x) (xd := xd) (th := thereB D x xd w) n.toNat (there_run h)
  have l1 := rowN_lt (gtB D x xd) (thereB D x xd (-1)) n.toNat
  have l2 := rowN_lt (gtB D x xd) (thereB D x xd w) n.toNat
  have m1 := rowN_mem (gtB D x xd) (thereB D x xd (-1)) n.toNat
  have m2 := rowN_mem (gtB D x xd) (thereB D x xd w) n.toNat
  by_cases c : w < n.toNat ∧ thereB D x xd (-1) w = true
  · refine Or.inr ?_
    obtain ⟨p, hp, ep⟩ := m1 w c.1 c.2
    generalize rowN (gtB D x xd) (thereB D x xd (-1)) n.toNat = f at *
    generalize rowN (gtB D x xd) (thereB D x xd w) n.toNat = g at *
    generalize cntN (thereB D x xd (-1)) n.toNat = m at *
    generalize cntN (thereB D x xd w) n.toNat = k at *
    have one : ∀ j, j < m → j ≠ p → f j ≠ w := by
      intro j hj hne e
      rcases Nat.lt_or_gt_of_ne hne with d | d
      · have := i1 j p d hp
        rw [e, ep] at this
        exact ltL_irr _ _ _ _ this
      · have := i1 p j d hj
        rw [e, ep] at this
        exact ltL_irr _ _ _ _ this
    have inc : SInc (ltL D x xd) (delN f p) (m - 1) := by
      intro a b hab hb
      unfold delN
      by_cases c1 : a < p
      · rw [if_pos c1]
        by_cases c2 : b < p
        · rw [if_pos c2]; exact i1 a b hab (by omega)
        · rw [if_neg c2]; exact i1 a (b + 1) (by omega) (by omega)
      · rw [if_neg c1, if_neg (by omega)]
        exact i1 (a + 1) (b + 1) (by omega) (by omega)
    have u := seq_unique (ltL_irr D x xd) (ltL_tr D x xd) i2 inc (fun i hi => ?_) (fun j hj => ?_)
    · exact ⟨p, hp, ep, one, by omega, fun j hj => u.2 j hj⟩
    · have q := l2 i hi
      rw [tw] at q
      obtain ⟨j, hj, ej⟩ := m1 (g i) q.1 q.2.2
      have hne : j ≠ p := by
        intro e
        subst e
        exact q.2.1 (ej.symm.trans ep)
      unfold delN
      by_cases d : j < p
      · exact ⟨j, by omega, by rw [if_pos d, ej]⟩
      · refine ⟨j - 1, by omega, ?_⟩
        rw [if_neg (by omega), show j - 1 + 1 = j by omega, ej]
    · have key : ∀ t, t < m → t ≠ p → ∃ i, i < k ∧ f t = g i := by
        intro t ht hne
        have q := l1 t ht
        obtain ⟨i, hi, ei⟩ := m2 (f t) q.1 (by rw [tw]; exact ⟨one t ht hne, q.2⟩)
        exact ⟨i, hi, ei.symm⟩
      unfold delN
      by_cases d : j < p
      · rw [if_pos d]; exact key j (by omega) (by omega)
      · rw [if_neg d]; exact key (j + 1) (by omega) (by omega)
  · refine Or.inl ?_
    have e : ∀ i, i < n.toNat → thereB D x xd w i = thereB D x xd (-1) i := by
      intro i hi
      rw [Bool.eq_iff_iff, tw]
      refine ⟨fun q => q.2, fun q => ⟨?_, q⟩⟩
      intro e
      subst e
      exact c ⟨hi, q⟩
    have hc := cntN_congr e
    refine ⟨hc.1, fun j hj ej => ?_, hc.2 _⟩
    have q := l1 j hj
    rw [ej] at q
    exact c q
/-- the first that is otherwise of a row of m and what is told -/
def foN (f : Nat → Nat) (it : Nat → Int) (m len : Nat) : Nat → Nat → Int
  | 0, _ => -1
  | fuel + 1, k => if k < m ∧ k < len then (if (f k : Int) = it k then foN f it m len fuel (k + 1) else (k : Int)) else if m = len then -1 else (k : Int)
