/-! hulls: the class's -/
def pM (D : Nat → Nat → Int) (n : Nat) : Nat := (plF D (2 * n)).1
def pX (D : Nat → Nat → Int) (n : Nat) (p : Nat) : Int := ((plF D (2 * n)).2 p).1
def pY (D : Nat → Nat → Int) (n : Nat) (p : Nat) : Int := ((plF D (2 * n)).2 p).2
theorem pl_facts {D : Nat → Nat → Int} {n : Nat} (h : LsD D (n : Int)) : pM D n ≤ 20 ∧ DisP (pX D n) (pY D n) (pM D n) ∧ (∀ p, p < pM D n → (0 ≤ pX D n p ∧ pX D n p ≤ 40) ∧ (0 ≤ pY D n p ∧ pY D n p ≤ 40)) ∧ ∀ i, i < n → (∃ p, p < pM D n ∧ pX D n p = D 0 i ∧ pY D n p = D 1 i) ∧ (∃ p, p < pM D n ∧ pX D n p = D 2 i ∧ pY D n p = D 3 i) := by
  obtain ⟨h1, h2, h3, h4⟩ := plF_ok h (2 * n) (Nat.le_refl _)
  have hn := h.1
  unfold pM pX pY
  refine ⟨by omega, fun i j hi hj e1 e2 => h2 i j hi hj (Prod.ext e1 e2), h3, fun i hi => ⟨?_, ?_⟩⟩
  · obtain ⟨p, hp, e⟩ := h4 (2 * i) (by omega)
    refine ⟨p, hp, ?_⟩
    rw [e]
    unfold enX
    rw [if_pos (by omega), show 2 * i / 2 = i by omega]
    exact ⟨rfl, rfl⟩
  · obtain ⟨p, hp, e⟩ := h4 (2 * i + 1) (by omega)
    refine ⟨p, hp, ?_⟩
    rw [e]
    unfold enX
    rw [if_neg (by omega), show (2 * i + 1) / 2 = i by omega]
    exact ⟨rfl, rfl⟩
theorem s_X1_hullOf {s : Sg} {M : Nat} {x y : Nat → Int} {a b : Int} {post : Int → Prop} (hM : s 60 1 = (M : Int)) (hM2 : M ≤ 20) (hat : ∀ p, p < M → s 61 p = x p ∧ s 62 p = y p) (h1 : ∀ p, p < M → x p = a → y p = b → post (s 63 p)) (h2 : (∀ p, p < M → ¬ (x p = a ∧ y p = b)) → post (-2)) : w_X1_hullOf s a b post := by
  unfold w_X1_hullOf
  rw [hM]
  refine lr_1 (fun v => ∃ k : Nat, v = (k : Int) ∧ k ≤ M ∧ ∀ p, p < k → ¬ (x p = a ∧ y p = b)) (fun v => ((M : Int) - v).toNat) ?_ 0 ⟨0, rfl, Nat.zero_le _, fun p hp => absurd hp (Nat.not_lt_zero _)⟩
  rintro again _ ⟨k, rfl, hk, hno⟩ ih
  refine ⟨fun c => h2 fun p hp => hno p (by omega), fun c => ⟨by omega, ?_⟩⟩
  obtain ⟨e1, e2⟩ := hat k (by omega)
  have b1 : ok32 ((k : Int) + 1) := ⟨by omega, by omega⟩
  have b2 : (k : Int) + 1 = ((k + 1 : Nat) : Int) := by omega
  have go : ¬ (x k = a ∧ y k = b) → ∀ v, v = w32 ((k : Int) + 1) → again v := by
    intro z v ev
    rw [ev, w32_id b1, b2]
    clear ev
    refine ih _ ⟨k + 1, rfl, by omega, fun p hp => ?_⟩ (by omega)
    by_cases e : p = k
    · subst e; exact z
    · exact hno p (by omega)
  unfold jn
  rw [Int.toNat_natCast, e1, e2]
  exact ⟨fun z => go fun w => z w.1, fun z1 => ⟨by omega, fun z => go fun w => z w.2, fun z2 => ⟨by omega, h1 k (by omega) z1 z2⟩⟩⟩
def PlAt (t : Sg) (D : Nat → Nat → Int) (k : Nat) : Prop := t 60 1 = ((plF D k).1 : Int) ∧ ∀ p, p < (plF D k).1 → t 61 p = ((plF D k).2 p).1 ∧ t 62 p = ((plF D k).2 p).2 ∧ t 63 p = -1
theorem s_X1_add {s : Sg} {D : Nat → Nat → Int} {n k : Nat} {a b : Int} {post : Sg → Prop} (h : LsD D (n : Int)) (hk : k < 2 * n) (hP : PlAt s D k) (ea : a = (enX D k).1) (eb : b = (enX D k).2) (hp : ∀ t : Sg, (∀ c, (c < 60 ∨ 63 < c) → t c = s c) → (∀ o, o ≠ 1 → t 60 o = s 60 o) → PlAt t D (k + 1) → post t) : w_X1_add s a b post := by
  unfold w_X1_add
  obtain ⟨h1, h2, -, -⟩ := plF_ok h k (by omega)
  have hn := h.1
  obtain ⟨g1, g2⟩ := hP
  refine s_X1_hullOf (M := (plF D k).1) (x := fun p => ((plF D k).2 p).1) (y := fun p => ((plF D k).2 p).2) g1 (by omega) (fun p hpp => ⟨(g2 p hpp).1, (g2 p hpp).2.1⟩) (fun p hpp e1 e2 => ?_) (fun hno => ?_)
  · have ex : ∃ j, j < (plF D k).1 ∧ (plF D k).2 j = enX D k := ⟨p, hpp, Prod.ext (e1.trans ea) (e2.trans eb)⟩
    rw [(g2 p hpp).2.2]
    unfold jn
    refine ⟨fun _ => hp s (fun _ _ => rfl) (fun _ _ => rfl) ?_, fun z => absurd z (by decide)⟩
    unfold PlAt
    rw [plF_s, if_pos ex]
    exact ⟨g1, g2⟩
  · have nex : ¬ ∃ j, j < (plF D k).1 ∧ (plF D k).2 j = enX D k := by
      rintro ⟨j, hj, e⟩
      exact hno j hj ⟨by rw [e, ea], by rw [e, eb]⟩
    unfold jn
    rw [g1]
    refine ⟨fun z => absurd rfl z, fun _ => ⟨fun z => by omega, fun _ => ⟨by omega, ?_⟩⟩⟩
    rintro _ rfl
    have u1 : (up s 61 ((plF D k).1 : Int).toNat a) 60 = s 60 := up_ne _ _ _ (by omega)
    rw [u1, g1]
    refine ⟨by omega, ?_⟩
    rintro _ rfl
    have u2 : (up (up s 61 ((plF D k).1 : Int).toNat a) 62 ((plF D k).1 : Int).toNat b) 60 = s 60 := by rw [up_ne _ _ _ (by omega), u1]
    rw [u2, g1]
    refine ⟨by omega, ?_⟩
    rintro _ rfl
    have u3 : (up (up (up s 61 ((plF D k).1 : Int).toNat a) 62 ((plF D k).1 : Int).toNat b) 63 ((plF D k).1 : Int).toNat (-1)) 60 = s 60 := by rw [up_ne _ _ _ (by omega), u2]
    rw [u3, g1, w32_id (show ok32 (((plF D k).1 : Int) + 1) from ⟨by omega, by omega⟩)]
    rintro _ rfl
    rw [Int.toNat_natCast]
    refine hp _ (fun c hc => by rw [up_ne _ _ _ (by omega), up_ne _ _ _ (by omega), up_ne _ _ _ (by omega), up_ne _ _ _ (by omega)]) (fun o ho => by rw [up_apply, if_neg (fun z => ho z.2), up_ne _ _ _ (by omega), up_ne _ _ _ (by omega), up_ne _ _ _ (by omega)]) ?_
    unfold PlAt
    rw [plF_s, if_neg nex]
    refine ⟨by rw [up_apply, if_pos ⟨rfl, rfl⟩]; simp, fun p hpp => ?_⟩
    simp only at hpp ⊢
    rw [up_ne _ _ _ (by omega), up_ne _ _ _ (by omega), up_ne _ _ _ (by omega)]
    simp only [up_apply]
    by_cases e : p = (plF D k).1
    · subst e
      simp [ea, eb]
    · have := g2 p (by omega)
      simp [e, this]
theorem s_X1_isLeft {s : Sg} {p : Nat} {h : Int} {post : Int → Prop} (hp : p < 20) (hh : ∀ r, BV r (s 63 p = -1 ∨ s 63 p = h) → post r) : w_X1_isLeft s (p : Int) h post := by
  unfold w_X1_isLeft jn
  rw [Int.toNat_natCast]
  have h1 := hh 1
  have h0 := hh 0
  exact ⟨by omega, fun z => ⟨Or.inr rfl, h1 (Or.inl ⟨rfl, Or.inl z⟩)⟩, fun z => ⟨by omega, fun w => ⟨Or.inl rfl, h0 (Or.inr ⟨rfl, fun q => by rcases q with q | q; exact z q; exact w q⟩)⟩, fun w => ⟨Or.inr rfl, h1 (Or.inl ⟨rfl, Or.inr w⟩)⟩⟩⟩
def LfAt (s : Sg) (M : Nat) (hl : Nat → Int) (h : Int) : Prop := ∀ r, r < M → ((s 63 r = -1 ∨ s 63 r = h) ↔ hl r = -1)
theorem d40 {a b : Int} (ha : 0 ≤ a ∧ a ≤ 40) (hb : 0 ≤ b ∧ b ≤ 40) : w32 (a - b) = a - b ∧ (-40 ≤ a - b ∧ a - b ≤ 40) := ⟨w32_id ⟨by omega, by omega⟩, by omega, by omega⟩
theorem trn_w {x y : Nat → Int} {M p q r : Nat} (hb : ∀ p, p < M → (0 ≤ x p ∧ x p ≤ 40) ∧ (0 ≤ y p ∧ y p ≤ 40)) (hp : p < M) (hq : q < M) (hr : r < M) : w32 (w32 (w32 (x q - x p) * w32 (y r - y p)) - w32 (w32 (y q - y p) * w32 (x r - x p))) = trn x y p q r ∧ (-3200 ≤ trn x y p q r ∧ trn x y p q r ≤ 3200) := by
  obtain ⟨p1, p2⟩ := hb p hp
  obtain ⟨q1, q2⟩ := hb q hq
  obtain ⟨r1, r2⟩ := hb r hr
  rw [(d40 q1 p1).1, (d40 r2 p2).1, (d40 q2 p2).1, (d40 r1 p1).1]
  have m1 := mb (A := 40) (B := 40) (d40 q1 p1).2 (d40 r2 p2).2
  have m2 := mb (A := 40) (B := 40) (d40 q2 p2).2 (d40 r1 p1).2
  rw [w32_b m1 (by decide), w32_b m2 (by decide)]
  unfold trn
  exact ⟨w32_id ⟨by omega, by omega⟩, by omega, by omega⟩
theorem s_X1_noneAtTheLeft {s : Sg} {M p q : Nat} {x y hl : Nat → Int} {h : Int} {post : Int → Prop} (hM : s 60 1 = (M : Int)) (hM2 : M ≤ 20) (hat : ∀ p, p < M → s 61 p = x p ∧ s 62 p = y p) (hb : ∀ p, p < M → (0 ≤ x p ∧ x p ≤ 40) ∧ (0 ≤ y p ∧ y p ≤ 40)) (hL : LfAt s M hl h) (hp : p < M) (hq : q < M) (hh : ∀ r, BV r (noL x y M hl p q = true) → post r) : w_X1_noneAtTheLeft s (p : Int) (q : Int) h post := by
  unfold w_X1_noneAtTheLeft
  rw [hM]
  refine lr_1 (fun v => ∃ k : Nat, v = (k : Int) ∧ k ≤ M ∧ ∀ r, r < k → hl r = -1 → trn x y p q r ≤ 0) (fun v => ((M : Int) - v).toNat) ?_ 0 ⟨0, rfl, Nat.zero_le _, fun p hp => absurd hp (Nat.not_lt_zero _)⟩
  rintro again _ ⟨k, rfl, hk, hno⟩ ih
  refine ⟨fun c => hh 1 (Or.inl ⟨rfl, noL_iff.mpr fun r hr => hno r (by omega)⟩), fun c => ⟨by omega, by omega, by omega, by omega, by omega, by omega, by omega, by omega, ?_⟩⟩
  have hkM : k < M := by omega
  rw [Int.toNat_natCast, Int.toNat_natCast, Int.toNat_natCast, (hat p hp).1, (hat p hp).2, (hat q hq).1, (hat q hq).2, (hat k hkM).1, (hat k hkM).2]
  have tw := trn_w hb hp hq hkM
  rw [tw.1]
  rintro _ rfl
  have b1 : ok32 ((k : Int) + 1) := ⟨by omega, by omega⟩
  have b2 : (k : Int) + 1 = ((k + 1 : Nat) : Int) := by omega
  have go : (hl k = -1 → trn x y p q k ≤ 0) → ∀ v, v = w32 ((k : Int) + 1) → again v := by
    intro z v ev
    rw [ev, w32_id b1, b2]
    clear ev
    refine ih _ ⟨k + 1, rfl, by omega, fun r hr => ?_⟩ (by omega)
    by_cases e : r = k
    · subst e; exact z
    · exact hno r (by omega)
  unfold jn
  refine ⟨fun z => go fun _ => z, fun z => s_X1_isLeft (by omega) fun r e => ?_⟩
  rw [hL k hkM] at e
  refine ⟨fun z2 => go fun w => ?_, fun z2 => hh 0 (Or.inr ⟨rfl, fun w => ?_⟩)⟩
  · rcases e with e | e
    · omega
    · exact absurd w e.2
  · rw [noL_iff] at w
    rcases e with e | e
    · exact z (w k hkM e.2)
    · exact z2 e.1
theorem s_X1_isOnBorder {s : Sg} {M p : Nat} {x y hl : Nat → Int} {h : Int} {post : Int → Prop} (hM : s 60 1 = (M : Int)) (hM2 : M ≤ 20) (hat : ∀ p, p < M → s 61 p = x p ∧ s 62 p = y p) (hb : ∀ p, p < M → (0 ≤ x p ∧ x p ≤ 40) ∧ (0 ≤ y p ∧ y p ≤ 40)) (hL : LfAt s M hl h) (hp : p < M) (hlp : hl p = -1) (hh : ∀ r, BV r (bC x y M hl p = true) → post r) : w_X1_isOnBorder s (p : Int) h post := by
  unfold w_X1_isOnBorder
  rw [hM]
  refine lr_2 (fun a v => ∃ k : Nat, v = (k : Int) ∧ k ≤ M ∧ (∀ q, q < k → hl q = -1 → q ≠ p → ¬ noL x y M hl p q = true) ∧ BV a (∀ q, q < k → hl q = -1 → q = p)) (fun _ v => ((M : Int) - v).toNat) ?_ 1 0 ⟨0, rfl, Nat.zero_le _, fun p hp => absurd hp (Nat.not_lt_zero _), Or.inl ⟨rfl, fun p hp => absurd hp (Nat.not_lt_zero _)⟩⟩
  rintro again a _ ⟨k, rfl, hk, hno, hal⟩ ih
  refine ⟨fun c => ⟨by rcases hal with e | e <;> omega, hh a ?_⟩, fun c => ?_⟩
  · have e : k = M := by omega
    subst e
    rw [bC_iff]
    rcases hal with e | e
    · exact Or.inl ⟨e.1, hlp, Or.inr e.2⟩
    · refine Or.inr ⟨e.1, ?_⟩
      rintro ⟨-, ⟨q, h1, h2, h3, h4⟩ | z⟩
      · exact hno q h1 h2 h3 h4
      · exact e.2 z
  · have hkM : k < M := by omega
    have b1 : ok32 ((k : Int) + 1) := ⟨by omega, by omega⟩
    have b2 : (k : Int) + 1 = ((k + 1 : Nat) : Int) := by omega
    have go : ∀ a', BV a' (∀ q, q < k + 1 → hl q = -1 → q = p) → (hl k = -1 → k ≠ p → ¬ noL x y M hl p k = true) → ∀ v, v = w32 ((k : Int) + 1) → again a' v := by
      intro a' ha z v ev
      rw [ev, w32_id b1, b2]
      clear ev
      refine ih _ _ ⟨k + 1, rfl, by omega, fun q hq => ?_, ha⟩ (by omega)
      by_cases e : q = k
      · subst e; exact z
      · exact hno q (by omega)
    have same : (hl k = -1 → k = p) → BV a (∀ q, q < k + 1 → hl q = -1 → q = p) := by
      intro z
      rcases hal with e | e
      · refine Or.inl ⟨e.1, fun q hq hlq => ?_⟩
        by_cases d : q = k
        · subst d; exact z hlq
        · exact e.2 q (by omega) hlq
      · exact Or.inr ⟨e.1, fun w => e.2 fun q hq => w q (by omega)⟩
    unfold jn
    refine ⟨fun z => ?_, fun z => s_X1_isLeft (by omega) fun r e => ?_⟩
    · have e : k = p := by omega
      exact go a (same fun _ => e) fun _ q => absurd e q
    · rw [hL k hkM] at e
      refine ⟨fun z2 => ?_, fun z2 => s_X1_noneAtTheLeft hM hM2 hat hb hL hp hkM fun r8 e8 => ⟨fun z3 => ?_, fun z3 => ?_⟩⟩
      · have hnk : ¬ hl k = -1 := by rcases e with e | e; omega; exact e.2
        exact go a (same fun w => absurd w hnk) fun w => absurd w hnk
      · have hyk : hl k = -1 := by rcases e with e | e; exact e.2; exact absurd e.1 z2
        refine go 0 (Or.inr ⟨rfl, fun w => ?_⟩) (fun _ _ => by rcases e8 with e | e; omega; exact e.2)
        have := w k (by omega) hyk
        omega
      · have hyk : hl k = -1 := by rcases e with e | e; exact e.2; exact absurd e.1 z2
        have hn8 : noL x y M hl p k = true := by rcases e8 with e | e; exact e.2; exact absurd e.1 z3
        exact hh 1 (Or.inl ⟨rfl, bC_iff.mpr ⟨hlp, Or.inl ⟨k, hkM, hyk, fun q => by omega, hn8⟩⟩⟩)
theorem s_X1_peelOff {s : Sg} {M h : Nat} {x y : Nat → Int} {post : Int → Sg → Prop} (hM : s 60 1 = (M : Int)) (hM2 : M ≤ 20) (hh20 : h ≤ 20) (hat : ∀ p, p < M → s 61 p = x p ∧ s 62 p = y p) (hb : ∀ p, p < M → (0 ≤ x p ∧ x p ≤ 40) ∧ (0 ≤ y p ∧ y p ≤ 40)) (hhl : ∀ p, p < M → s 63 p = hlN x y M h p)
    (hp : ∀ t : Sg, (∀ c, c ≠ 63 → t c = s c) → (∀ p, p < M → t 63 p = hlN x y M (h + 1) p) → post (cntN (bC x y M (hlN x y M h)) M : Int) t) : w_X1_peelOff s (h : Int) post := by
  unfold w_X1_peelOff
  refine lr_2s (fun v w t => ∃ k : Nat, w = (k : Int) ∧ k ≤ M ∧ v = (cntN (bC x y M (hlN x y M h)) k : Int) ∧ (∀ c, c ≠ 63 → t c = s c) ∧ ∀ p, p < M → t 63 p = if p < k then hlN x y M (h + 1) p else hlN x y M h p) (fun _ w _ => ((M : Int) - w).toNat) ?_ 0 0 s ⟨0, rfl, Nat.zero_le _, rfl, fun _ _ => rfl, fun p hp => by rw [if_neg (Nat.not_lt_zero _)]; exact hhl p hp⟩
  rintro again _ _ t ⟨k, rfl, hk, rfl, ho, hv⟩ ih
  rw [ho 60 (by omega), hM]
  refine ⟨fun c => ?_, fun c => ⟨by omega, ?_⟩⟩
  · have e : k = M := by omega
    subst e
    exact hp t ho fun p hpp => by rw [hv p hpp, if_pos hpp]
  · have hkM : k < M := by omega
    have b1 : ok32 ((k : Int) + 1) := ⟨by omega, by omega⟩
    have b2 : (k : Int) + 1 = ((k + 1 : Nat) : Int) := by omega
    have cl := cntN_le (bC x y M (hlN x y M h)) k
    have fin : ∀ (v : Int) (u : Sg), v = (cntN (bC x y M (hlN x y M h)) (k + 1) : Int) → (∀ c, c ≠ 63 → u c = s c) → (∀ p, p < M → u 63 p = if p < k + 1 then hlN x y M (h + 1) p else hlN x y M h p) → ∀ w, w = w32 ((k : Int) + 1) → again v w u := by
      rintro v u rfl k1 k2 w ew
      rw [ew, w32_id b1, b2]
      clear ew
      exact ih _ _ _ ⟨k + 1, rfl, by omega, rfl, k1, k2⟩ (by omega)
    have keep : ¬ bC x y M (hlN x y M h) k = true → ∀ p, p < M → t 63 p = if p < k + 1 then hlN x y M (h + 1) p else hlN x y M h p := by
      intro z p hpp
      rw [hv p hpp]
      by_cases e : p = k
      · subst e
        rw [if_neg (by omega), if_pos (by omega), hlN_s, if_neg z]
      · by_cases e2 : p < k
        · rw [if_pos e2, if_pos (by omega)]
        · rw [if_neg e2, if_neg (by omega)]
    unfold jn
    rw [Int.toNat_natCast, hv k hkM, if_neg (Nat.lt_irrefl _)]
    refine ⟨fun z => ?_, fun z => ?_⟩
    · have nb : ¬ bC x y M (hlN x y M h) k = true := fun w => z (bC_iff.mp w).1
      exact fin _ t (by rw [cntN_s, if_neg nb]) ho (keep nb)
    · have hL : LfAt t M (hlN x y M h) (h : Int) := by
        intro r hr
        rw [hv r hr]
        have hbd := hlN_b x y M h r
        by_cases e : r < k
        · rw [if_pos e, hlN_s]
          by_cases w : bC x y M (hlN x y M h) r = true
          · rw [if_pos w]
            exact ⟨fun _ => (bC_iff.mp w).1, fun _ => Or.inr rfl⟩
          · rw [if_neg w]
            omega
        · rw [if_neg e]
          omega
      refine s_X1_isOnBorder (M := M) (x := x) (y := y) (hl := hlN x y M h) (by rw [ho 60 (by omega)]; exact hM) hM2 (fun p hpp => by rw [ho 61 (by omega), ho 62 (by omega)]; exact hat p hpp) hb hL hkM z fun r e => ⟨fun z2 => ?_, fun z2 => ⟨by omega, ?_⟩⟩
      · have nb : ¬ bC x y M (hlN x y M h) k = true := by rcases e with e | e; omega; exact e.2
        exact fin _ t (by rw [cntN_s, if_neg nb]) ho (keep nb)
      · have nb : bC x y M (hlN x y M h) k = true := by rcases e with e | e; exact e.2; exact absurd e.1 z2
        rintro _ rfl w ew
        rw [ew, w32_id (show ok32 ((cntN (bC x y M (hlN x y M h)) k : Int) + 1) from ⟨by omega, by omega⟩)]
        refine fin _ _ (by rw [cntN_s, if_pos nb]; omega) (fun c hc => by rw [up_ne _ _ _ hc, ho c hc]) fun p hpp => ?_
        rw [up_apply]
        by_cases d : p = k
        · subst d
          rw [if_pos ⟨rfl, rfl⟩, if_pos (by omega), hlN_s, if_pos nb]
        · rw [if_neg (fun q => d q.2), hv p hpp]
          by_cases e2 : p < k
          · rw [if_pos e2, if_pos (by omega)]
          · rw [if_neg e2, if_neg (by omega)]
def HInv (t : Sg) (D : Nat → Nat → Int) (n : Nat) : Prop := ∃ H : Nat, HlE (pX D n) (pY D n) (pM D n) H ∧ t 60 0 = (H : Int) ∧ t 60 1 = (pM D n : Int) ∧ ∀ p, p < pM D n → t 61 p = pX D n p ∧ t 62 p = pY D n p ∧ t 63 p = hlN (pX D n) (pY D n) (pM D n) H p
theorem s_X1_peel {s : Sg} {D : Nat → Nat → Int} {n : Nat} {post : Sg → Prop} (h : LsD D (n : Int)) (hn : s 1 0 = (n : Int)) (hat : LnAt s 2 (n : Int) D) (hp : ∀ t : Sg, (∀ c, (c < 60 ∨ 63 < c) → t c = s c) → HInv t D n → post t) : w_X1_peel s post := by
  unfold w_X1_peel
  rintro _ rfl
  have hn10 := h.1
  refine lr_1s (fun v t => ∃ i : Nat, v = (i : Int) ∧ i ≤ n ∧ (∀ c, (c < 60 ∨ 63 < c) → t c = s c) ∧ PlAt t D (2 * i)) (fun v _ => ((n : Int) - v).toNat) ?_ 0 _ ⟨0, rfl, Nat.zero_le _, fun c hc => up_ne _ _ _ (by omega), ⟨by rw [up_apply, if_pos ⟨rfl, rfl⟩]; rfl, fun p hpp => absurd hpp (Nat.not_lt_zero _)⟩⟩
  rintro again _ t ⟨i, rfl, hi, ho, hP⟩ ih
  have kn : t 1 0 = (n : Int) := by rw [ho 1 (by omega)]; exact hn
  have kat : ∀ u : Sg, (∀ c, (c < 60 ∨ 63 < c) → u c = s c) → LnAt u 2 (n : Int) D := fun u uo x hx => by
    rw [uo 2 (by omega), uo (2 + 1) (by omega), uo (2 + 2) (by omega), uo (2 + 3) (by omega)]
    exact hat x hx
  rw [kn]
  refine ⟨fun c => ?_, fun c => ?_⟩
  · have e : i = n := by omega
    subst e
    rintro _ rfl v2 ev2
    obtain ⟨f1, f2, f3, -⟩ := pl_facts h
    have g1 := hP.1
    have g2 := hP.2
    rw [up_apply, if_neg (by omega), g1] at ev2
    have eM : (plF D (2 * i)).1 = pM D i := rfl
    rw [eM] at g1 g2 ev2
    clear ih
    refine lr_2s (fun v w t => ∃ k : Nat, w = (k : Int) ∧ k ≤ pM D i ∧ v = (lfN (pM D i) (hlN (pX D i) (pY D i) (pM D i) k) : Int) ∧ (∀ j, j < k → lfN (pM D i) (hlN (pX D i) (pY D i) (pM D i) j) ≠ 0) ∧ (∀ c, (c < 60 ∨ 63 < c) → t c = s c) ∧ t 60 0 = (k : Int) ∧ t 60 1 = (pM D i : Int) ∧ ∀ p, p < pM D i → t 61 p = pX D i p ∧ t 62 p = pY D i p ∧ t 63 p = hlN (pX D i) (pY D i) (pM D i) k p) (fun _ w _ => ((pM D i : Int) - w).toNat) ?_ v2 0 _ ⟨0, rfl, Nat.zero_le _, by rw [lf_0, ev2], fun j hj => absurd hj (Nat.not_lt_zero _), fun c hc => by rw [up_ne _ _ _ (by omega), ho c hc], by rw [up_apply, if_pos ⟨rfl, rfl⟩]; rfl, by rw [up_apply, if_neg (by omega)]; exact g1, fun p hpp => by
      rw [up_ne _ _ _ (by omega), up_ne _ _ _ (by omega), up_ne _ _ _ (by omega)]
      exact g2 p hpp⟩
    rintro again2 _ _ u ⟨k, rfl, hk, rfl, hnz, uo, u0, u1, u2⟩ ih2
    have ld := lf_dec f2 k
    have fin : lfN (pM D i) (hlN (pX D i) (pY D i) (pM D i) k) = 0 → post u := fun z => hp u uo ⟨k, ⟨z, hnz⟩, u0, u1, u2⟩
    unfold jn
    rw [u1]
    refine ⟨fun z => fin (by omega), fun z1 => ⟨fun z => fin (by omega), fun z2 => ?_⟩⟩
    have lw := lf_step (x := pX D i) (y := pY D i) (M := pM D i) (h := k)
    refine s_X1_peelOff (M := pM D i) (x := pX D i) (y := pY D i) u1 f1 (by omega) (fun p hpp => ⟨(u2 p hpp).1, (u2 p hpp).2.1⟩) f3 (fun p hpp => (u2 p hpp).2.2) fun w wo w63 v14 e14 s15 e15 v16 e16 => ?_
    have w60 : w 60 = u 60 := wo 60 (by omega)
    have cl := cntN_le (bC (pX D i) (pY D i) (pM D i) (hlN (pX D i) (pY D i) (pM D i) k)) (pM D i)
    have ll : lfN (pM D i) (hlN (pX D i) (pY D i) (pM D i) k) ≤ pM D i := cntN_le _ _
    rw [w60, u0, w32_id (show ok32 ((k : Int) + 1) from ⟨by omega, by omega⟩)] at e15
    rw [w32_id (show ok32 ((lfN (pM D i) (hlN (pX D i) (pY D i) (pM D i) k) : Int) - (cntN (bC (pX D i) (pY D i) (pM D i) (hlN (pX D i) (pY D i) (pM D i) k)) (pM D i) : Int)) from ⟨by omega, by omega⟩)] at e14
    rw [w32_id (show ok32 ((k : Int) + 1) from ⟨by omega, by omega⟩), show (k : Int) + 1 = ((k + 1 : Nat) : Int) by omega] at e16
    rw [e16, e15]
    clear e16 e15
    refine ih2 _ _ _ ⟨k + 1, rfl, by omega, by omega, fun j hj => ?_, fun c hc => by rw [up_ne _ _ _ (by omega), wo c (by omega), uo c hc], by rw [up_apply, if_pos ⟨rfl, rfl⟩]; omega, by rw [up_apply, if_neg (by omega), w60]; exact u1, fun p hpp => ?_⟩ (by omega)
    · by_cases e : j = k
      · subst e; omega
      · exact hnz j (by omega)
    · rw [up_ne _ _ _ (by omega), up_ne _ _ _ (by omega), up_ne _ _ _ (by omega), wo 61 (by omega), wo 62 (by omega)]
      exact ⟨(u2 p hpp).1, (u2 p hpp).2.1, w63 p hpp⟩
  · have hi2 : i < n := by omega
    have b1 : ok32 ((i : Int) + 1) := ⟨by omega, by omega⟩
    have b2 : (i : Int) + 1 = ((i + 1 : Nat) : Int) := by omega
    obtain ⟨a1, a2, a3, a4⟩ := kat t ho i (by omega)
    simp only [Nat.reduceAdd] at a1 a2 a3 a4
    have eA : enX D (2 * i) = (D 0 i, D 1 i) := by unfold enX; rw [if_pos (by omega), show 2 * i / 2 = i by omega]
    have eB : enX D (2 * i + 1) = (D 2 i, D 3 i) := by unfold enX; rw [if_neg (by omega), show (2 * i + 1) / 2 = i by omega]
    rw [Int.toNat_natCast, a1, a2]
    refine ⟨by omega, by omega, s_X1_add h (k := 2 * i) (by omega) hP (by rw [eA]) (by rw [eA]) fun u uo uo2 uP => ⟨by omega, by omega, ?_⟩⟩
    have uo3 : ∀ c, (c < 60 ∨ 63 < c) → u c = s c := fun c hc => by rw [uo c hc, ho c hc]
    obtain ⟨d1, d2, d3, d4⟩ := kat u uo3 i (by omega)
    simp only [Nat.reduceAdd] at d1 d2 d3 d4
    rw [d3, d4]
    refine s_X1_add h (k := 2 * i + 1) (by omega) uP (by rw [eB]) (by rw [eB]) fun w wo wo2 wP v ev => ?_
    rw [ev, w32_id b1, b2]
    clear ev
    exact ih _ _ ⟨i + 1, rfl, by omega, fun c hc => by rw [wo c hc, uo3 c hc], wP⟩ (by omega)
theorem HInv_fr {s t : Sg} {n : Nat} {D : Nat → Nat → Int} (h : HInv s D n) (ho : ∀ c, 60 ≤ c → c ≤ 63 → t c = s c) : HInv t D n := by
  obtain ⟨H, h1, h2, h3, h4⟩ := h
  refine ⟨H, h1, by rw [ho 60 (by omega) (by omega)]; exact h2, by rw [ho 60 (by omega) (by omega)]; exact h3, fun p hp => ?_⟩
  rw [ho 61 (by omega) (by omega), ho 62 (by omega) (by omega), ho 63 (by omega) (by omega)]
  exact h4 p hp
theorem s_X9_knowHulls {s : Sg} {n : Nat} {D : Nat → Nat → Int} {post : Sg → Prop} (h : LsD D (n : Int)) (hn : s 1 0 = (n : Int)) (hat : LnAt s 2 (n : Int) D) (hP : s 0 15 = 0 ∨ HInv s D n)
    (hp : ∀ t : Sg, (∀ c, c ≠ 0 → (c < 60 ∨ 63 < c) → t c = s c) → (∀ o, o ≠ 15 → t 0 o = s 0 o) → HInv t D n → post t) : w_X9_knowHulls s post := by
  unfold w_X9_knowHulls jn
  refine ⟨fun c => ?_, fun c => s_X1_peel h hn hat fun t to tP u eu => ?_⟩
  · rcases hP with e | hPI
    · exact absurd e c
    · exact hp s (fun _ _ _ => rfl) (fun _ _ => rfl) hPI
  · subst eu
    exact hp _ (fun c h1 h2 => by rw [up_ne _ _ _ h1, to c (by omega)]) (fun o h1 => by rw [up_apply, if_neg (fun z => h1 z.2), to 0 (by omega)]) (HInv_fr tP fun c h1 h2 => up_ne _ _ _ (by omega))
