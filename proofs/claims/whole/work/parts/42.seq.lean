/-! rows that rise: of the same members there is one alone -/
def SInc {A : Type} (lt : A → A → Prop) (f : Nat → A) (m : Nat) : Prop := ∀ i j, i < j → j < m → lt (f i) (f j)
theorem seq_half {A : Type} {lt : A → A → Prop} (irr : ∀ a, ¬ lt a a) (tr : ∀ a b c, lt a b → lt b c → lt a c) {f g : Nat → A} {m k : Nat} (hf : SInc lt f m) (hg : SInc lt g k) (h1 : ∀ i, i < m → ∃ j, j < k ∧ f i = g j) (h2 : ∀ j, j < k → ∃ i, i < m ∧ g j = f i) : ∀ j, j < m → j < k ∧ f j = g j := by
  intro j
  induction j using Nat.strongRecOn with
  | _ j ih =>
    intro hj
    obtain ⟨t, ht, et⟩ := h1 j hj
    rcases Nat.lt_trichotomy t j with c | c | c
    · have := ih t c (by omega)
      have l := hf t j c hj
      rw [this.2, ← et] at l
      exact absurd l (irr _)
    · subst c
      exact ⟨ht, et⟩
    · obtain ⟨u, hu, eu⟩ := h2 j (by omega)
      have l := hg j t c ht
      rw [eu, ← et] at l
      rcases Nat.lt_trichotomy u j with d | d | d
      · have := ih u d hu
        have l2 := hg u j d (by omega)
        rw [← this.2, eu] at l2
        exact absurd l2 (irr _)
      · subst d
        exact absurd l (irr _)
      · exact absurd (tr _ _ _ l (hf j u d hu)) (irr _)
theorem seq_unique {A : Type} {lt : A → A → Prop} (irr : ∀ a, ¬ lt a a) (tr : ∀ a b c, lt a b → lt b c → lt a c) {f g : Nat → A} {m k : Nat} (hf : SInc lt f m) (hg : SInc lt g k) (h1 : ∀ i, i < m → ∃ j, j < k ∧ f i = g j) (h2 : ∀ j, j < k → ∃ i, i < m ∧ g j = f i) : m = k ∧ ∀ j, j < m → f j = g j := by
  have a := seq_half irr tr hf hg h1 h2
  have b := seq_half irr tr hg hf h2 h1
  refine ⟨?_, fun j hj => (a j hj).2⟩
  rcases Nat.lt_trichotomy m k with c | c | c
  · have := (b m c).1
    omega
  · exact c
  · have := (a k c).1
    omega
theorem sgn_iff (x : Int) : (sgn x < 0 ↔ x < 0) ∧ (sgn x = 0 ↔ x = 0) ∧ (0 < sgn x ↔ 0 < x) := by
  unfold sgn
  grind
def crH (D : Nat → Nat → Int) (x xd : Int) (a b : Nat) : Int := hgt D a x xd * (D 2 b - D 0 b) - hgt D b x xd * (D 2 a - D 0 a)
def crR (D : Nat → Nat → Int) (a b : Nat) : Int := (D 3 a - D 1 a) * (D 2 b - D 0 b) - (D 3 b - D 1 b) * (D 2 a - D 0 a)
theorem cmpT_iff (D : Nat → Nat → Int) (x xd : Int) (a b : Nat) : (cmpT D x xd a b < 0 ↔ (crH D x xd a b < 0 ∨ (crH D x xd a b = 0 ∧ crR D a b < 0))) ∧ (cmpT D x xd a b = 0 ↔ (crH D x xd a b = 0 ∧ crR D a b = 0)) ∧ (0 < cmpT D x xd a b ↔ (0 < crH D x xd a b ∨ (crH D x xd a b = 0 ∧ 0 < crR D a b))) := by
  unfold cmpT
  rw [← crH.eq_1, ← crR.eq_1]
  have h1 := sgn_iff (crH D x xd a b)
  have h2 := sgn_iff (crR D a b)
  by_cases c : sgn (crH D x xd a b) = 0
  · rw [if_pos c]
    have := h1.2.1.mp c
    rw [h2.1, h2.2.1, h2.2.2]
    omega
  · rw [if_neg c]
    have : ¬ crH D x xd a b = 0 := fun q => c (h1.2.1.mpr q)
    rw [h1.1, h1.2.1, h1.2.2]
    omega
theorem crH_sw (D : Nat → Nat → Int) (x xd : Int) (a b : Nat) : crH D x xd a b = - crH D x xd b a := by unfold crH; omega
theorem crR_sw (D : Nat → Nat → Int) (a b : Nat) : crR D a b = - crR D b a := by unfold crR; omega
theorem rg2 (ha hb hc ra rb rc : Int) : rb * (ha * rc - hc * ra) = rc * (ha * rb - hb * ra) + ra * (hb * rc - hc * rb) := by grind
/-- two steps that go the same way make one -/
theorem fr_tr {ra rb rc p q z : Int} (ha : 0 < ra) (hb : 0 < rb) (hc : 0 < rc) (e : rb * z = rc * p + ra * q) (hp : p ≤ 0) (hq : q ≤ 0) : z ≤ 0 ∧ (z = 0 → p = 0 ∧ q = 0) ∧ (p = 0 → q = 0 → z = 0) := by
  have h1 : rc * p ≤ 0 := Int.mul_nonpos_of_nonneg_of_nonpos (by omega) hp
  have h2 : ra * q ≤ 0 := Int.mul_nonpos_of_nonneg_of_nonpos (by omega) hq
  have hz : z ≤ 0 := by
    apply Int.not_lt.mp
    intro c
    have := Int.mul_pos hb c
    omega
  refine ⟨hz, fun e0 => ?_, fun e1 e2 => ?_⟩
  · subst e0
    simp only [Int.mul_zero] at e
    refine ⟨?_, ?_⟩
    · apply Decidable.byContradiction
      intro c
      have := Int.mul_neg_of_pos_of_neg hc (show p < 0 by omega)
      omega
    · apply Decidable.byContradiction
      intro c
      have := Int.mul_neg_of_pos_of_neg ha (show q < 0 by omega)
      omega
  · subst e1 e2
    simp only [Int.mul_zero, Int.add_zero] at e
    rcases Int.mul_eq_zero.mp e with c | c
    · omega
    · exact c
def ltL (D : Nat → Nat → Int) (x xd : Int) (a b : Nat) : Prop := (D 0 a < D 2 a ∧ D 0 b < D 2 b) ∧ (cmpT D x xd a b < 0 ∨ (cmpT D x xd a b = 0 ∧ a < b))
theorem ltL_irr (D : Nat → Nat → Int) (x xd : Int) (a : Nat) : ¬ ltL D x xd a a := by
  rintro ⟨-, h⟩
  have h1 := crH_sw D x xd a a
  have h2 := crR_sw D a a
  have h3 := cmpT_iff D x xd a a
  omega
theorem ltL_tr (D : Nat → Nat → Int) (x xd : Int) (a b c : Nat) (h1 : ltL D x xd a b) (h2 : ltL D x xd b c) : ltL D x xd a c := by
  obtain ⟨⟨ra, rb⟩, h1⟩ := h1
  obtain ⟨⟨-, rc⟩, h2⟩ := h2
  refine ⟨⟨ra, rc⟩, ?_⟩
  have i1 := cmpT_iff D x xd a b
  have i2 := cmpT_iff D x xd b c
  have i3 := cmpT_iff D x xd a c
  have eH : (D 2 b - D 0 b) * crH D x xd a c = (D 2 c - D 0 c) * crH D x xd a b + (D 2 a - D 0 a) * crH D x xd b c := rg2 _ _ _ _ _ _
  have eR : (D 2 b - D 0 b) * crR D a c = (D 2 c - D 0 c) * crR D a b + (D 2 a - D 0 a) * crR D b c := rg2 _ _ _ _ _ _
  have fH := fr_tr (show 0 < D 2 a - D 0 a by omega) (show 0 < D 2 b - D 0 b by omega) (show 0 < D 2 c - D 0 c by omega) eH (by omega) (by omega)
  generalize crH D x xd a b = p at *
  generalize crH D x xd b c = q at *
  generalize crH D x xd a c = z at *
  by_cases hz : z = 0
  · have h0 := fH.2.1 hz
    have fR := fr_tr (show 0 < D 2 a - D 0 a by omega) (show 0 < D 2 b - D 0 b by omega) (show 0 < D 2 c - D 0 c by omega) eR (by omega) (by omega)
    omega
  · omega
theorem posN_ge (gt : Nat → Nat → Bool) (r : Nat → Nat) (l k : Nat) : ∀ j, posN gt r l k ≤ j → j < k → gt (r j) l = true := by
  induction k with
  | zero => intro j _ h; exact absurd h (Nat.not_lt_zero _)
  | succ k ih =>
    intro j h1 h2
    by_cases c : gt (r k) l = true
    · rw [posN_go c] at h1
      by_cases e : j = k
      · subst e; exact c
      · exact ih j h1 (by omega)
    · rw [posN_stop c] at h1
      omega
theorem posN_low (gt : Nat → Nat → Bool) (r : Nat → Nat) (l k : Nat) : posN gt r l k = 0 ∨ ¬ gt (r (posN gt r l k - 1)) l = true := by
  induction k with
  | zero => exact Or.inl rfl
  | succ k ih =>
    by_cases c : gt (r k) l = true
    · rw [posN_go c]; exact ih
    · rw [posN_stop c]
      exact Or.inr c
theorem rowN_s (gt : Nat → Nat → Bool) (th : Nat → Bool) (n : Nat) : rowN gt th (n + 1) = if th n = true then insN (rowN gt th n) (posN gt (rowN gt th n) n (cntN th n)) n else rowN gt th n := rfl
theorem cntN_s (th : Nat → Bool) (n : Nat) : cntN th (n + 1) = if th n = true then cntN th n + 1 else cntN th n := rfl
theorem rowN_inc {D : Nat → Nat → Int} {x xd : Int} {th : Nat → Bool} (n : Nat) (hth : ∀ i, i < n → th i = true → D 0 i < D 2 i) : SInc (ltL D x xd) (rowN (gtB D x xd) th n) (cntN th n) := by
  induction n with
  | zero => intro i j h1 h2; exact absurd h2 (Nat.not_lt_zero _)
  | succ n ih =>
    have ih := ih (fun i hi => hth i (by omega))
    rw [rowN_s, cntN_s]
    by_cases c : th n = true
    · rw [if_pos c, if_pos c]
      have hge := posN_ge (gtB D x xd) (rowN (gtB D x xd) th n) n (cntN th n)
      have hlow := posN_low (gtB D x xd) (rowN (gtB D x xd) th n) n (cntN th n)
      have hle := posN_le (gtB D x xd) (rowN (gtB D x xd) th n) n (cntN th n)
      have hmem := rowN_lt (gtB D x xd) th n
      generalize rowN (gtB D x xd) th n = r at *
      generalize posN (gtB D x xd) r n (cntN th n) = p at *
      have hn := hth n (by omega) c
      have up' : ∀ j, p ≤ j → j < cntN th n → ltL D x xd n (r j) := by
        intro j h1 h2
        have g := hge j h1 h2
        unfold gtB at g
        rw [decide_eq_true_iff] at g
        have m := hmem j h2
        refine ⟨⟨hn, hth _ (by omega) m.2⟩, ?_⟩
        have i1 := cmpT_iff D x xd (r j) n
        have i2 := cmpT_iff D x xd n (r j)
        have s1 := crH_sw D x xd (r j) n
        have s2 := crR_sw D (r j) n
        omega
      have lo : ∀ j, j < p → ltL D x xd (r j) n := by
        have last : 0 < p → ltL D x xd (r (p - 1)) n := by
          intro hp
          rcases hlow with e | e
          · omega
          · unfold gtB at e
            rw [decide_eq_true_iff] at e
            have m := hmem (p - 1) (by omega)
            exact ⟨⟨hth _ (by omega) m.2, hn⟩, by omega⟩
        intro j hj
        by_cases e : j = p - 1
        · subst e; exact last (by omega)
        · exact ltL_tr _ _ _ _ _ _ (ih j (p - 1) (by omega) (by omega)) (last (by omega))
      intro i j hij hj
      unfold insN
      by_cases c1 : i < p
      · rw [if_pos c1]
        by_cases c2 : j < p
        · rw [if_pos c2]; exact ih i j hij (by omega)
        · rw [if_neg c2]
          by_cases c3 : j = p
          · rw [if_pos c3]; exact lo i c1
          · rw [if_neg c3]; exact ih i (j - 1) (by omega) (by omega)
      · rw [if_neg c1, if_neg (show ¬ j < p by omega), if_neg (show ¬ j = p by omega)]
        by_cases c3 : i = p
        · rw [if_pos c3]; exact up' _ (by omega) (by omega)
        · rw [if_neg c3]; exact ih (i - 1) (j - 1) (by omega) (by omega)
    · rw [if_neg c, if_neg c]
      exact ih
theorem rowN_mem (gt : Nat → Nat → Bool) (th : Nat → Bool) (n : Nat) : ∀ i, i < n → th i = true → ∃ j, j < cntN th n ∧ rowN gt th n j = i := by
  induction n with
  | zero => intro i h; exact absurd h (Nat.not_lt_zero _)
  | succ n ih =>
    intro i hi ht
    rw [rowN_s, cntN_s]
    by_cases c : th n = true
    · rw [if_pos c, if_pos c]
      have hle := posN_le gt (rowN gt th n) n (cntN th n)
      by_cases e : i = n
      · refine ⟨posN gt (rowN gt th n) n (cntN th n), by omega, ?_⟩
        unfold insN
        rw [if_neg (by omega), if_pos rfl, e]
      · obtain ⟨j, hj, ej⟩ := ih i (by omega) ht
        by_cases d : j < posN gt (rowN gt th n) n (cntN th n)
        · refine ⟨j, by omega, ?_⟩
          unfold insN
          rw [if_pos d, ej]
        · refine ⟨j + 1, by omega, ?_⟩
          unfold insN
          rw [if_neg (by omega), if_neg (by omega)]
          exact ej
    · rw [if_neg c, if_neg c]
      refine ih i ?_ ht
      by_cases e : i = n
      · subst e; exact absurd ht c
      · omega
