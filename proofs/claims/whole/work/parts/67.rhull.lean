/-! hulls: the reference's -/
def RlAt (t : Sg) (D : Nat → Nat → Int) (k : Nat) : Prop := t 68 15 = ((plF D k).1 : Int) ∧ ∀ p, p < (plF D k).1 → t 78 p = ((plF D k).2 p).1 ∧ t 79 p = ((plF D k).2 p).2 ∧ t 80 p = -1
theorem s_X10_placeAt {s : Sg} {M : Nat} {x y : Nat → Int} {a b : Int} {post : Int → Sg → Prop} (hM : s 68 15 = (M : Int)) (hM2 : M ≤ 20) (hat : ∀ p, p < M → s 78 p = x p ∧ s 79 p = y p) (h1 : ∀ p : Nat, p < M → x p = a → y p = b → post (p : Int) s) (h2 : (∀ p, p < M → ¬ (x p = a ∧ y p = b)) → M < 20 ∧ post (M : Int) (up (up (up (up s 78 M a) 79 M b) 80 M (-1)) 68 15 ((M : Int) + 1))) : w_X10_placeAt s a b post := by
  unfold w_X10_placeAt
  rw [hM]
  refine lr_1 (fun v => ∃ k : Nat, v = (k : Int) ∧ k ≤ M ∧ ∀ p, p < k → ¬ (x p = a ∧ y p = b)) (fun v => ((M : Int) - v).toNat) ?_ 0 ⟨0, rfl, Nat.zero_le _, fun p hp => absurd hp (Nat.not_lt_zero _)⟩
  rintro again _ ⟨k, rfl, hk, hno⟩ ih
  have b1 : ok32 ((k : Int) + 1) := ⟨by omega, by omega⟩
  have b2 : (k : Int) + 1 = ((k + 1 : Nat) : Int) := by omega
  have go : ¬ (x k = a ∧ y k = b) → ∀ v, v = w32 ((k : Int) + 1) → k < M → again v := by
    intro z v ev hkM
    rw [ev, w32_id b1, b2]
    clear ev
    refine ih _ ⟨k + 1, rfl, by omega, fun p hp => ?_⟩ (by omega)
    by_cases e : p = k
    · subst e; exact z
    · exact hno p (by omega)
  unfold jn
  rw [Int.toNat_natCast]
  refine ⟨fun c => ⟨fun z => by omega, fun z => ?_⟩, fun c => ⟨by omega, ?_⟩⟩
  · have e : k = M := by omega
    subst e
    obtain ⟨g1, g2⟩ := h2 hno
    refine ⟨by omega, ?_⟩
    rintro _ rfl
    refine ⟨by omega, ?_⟩
    rintro _ rfl
    refine ⟨by omega, ?_⟩
    rintro _ rfl s12 e12
    rw [up_ne _ _ _ (show (68 : Nat) ≠ 80 by omega), up_ne _ _ _ (show (68 : Nat) ≠ 79 by omega), up_ne _ _ _ (show (68 : Nat) ≠ 78 by omega), hM, w32_id b1] at e12
    rw [e12]
    exact g2
  · obtain ⟨e1, e2⟩ := hat k (by omega)
    rw [e1, e2]
    refine ⟨fun z v ev => go (fun w => z w.1) v ev (by omega), fun z1 => ⟨by omega, fun z2 => ⟨fun _ => h1 k (by omega) z1 z2, fun z => by omega⟩, fun z v ev => go (fun w => z w.2) v ev (by omega)⟩⟩
theorem s_X10_place {s : Sg} {D : Nat → Nat → Int} {n k : Nat} {a b : Int} {post : Int → Sg → Prop} (h : LsD D (n : Int)) (hk : k < 2 * n) (hP : RlAt s D k) (ea : a = (enX D k).1) (eb : b = (enX D k).2) (hp : ∀ (r : Int) (t : Sg), (∀ c, c ≠ 68 → (c < 78 ∨ 80 < c) → t c = s c) → (∀ o, o ≠ 15 → t 68 o = s 68 o) → RlAt t D (k + 1) → post r t) : w_X10_placeAt s a b post := by
  obtain ⟨h1, h2, -, -⟩ := plF_ok h k (by omega)
  have hn := h.1
  obtain ⟨g1, g2⟩ := hP
  refine s_X10_placeAt (M := (plF D k).1) (x := fun p => ((plF D k).2 p).1) (y := fun p => ((plF D k).2 p).2) g1 (by omega) (fun p hpp => ⟨(g2 p hpp).1, (g2 p hpp).2.1⟩) (fun p hpp e1 e2 => ?_) (fun hno => ⟨by omega, ?_⟩)
  · have ex : ∃ j, j < (plF D k).1 ∧ (plF D k).2 j = enX D k := ⟨p, hpp, Prod.ext (e1.trans ea) (e2.trans eb)⟩
    refine hp _ s (fun _ _ _ => rfl) (fun _ _ => rfl) ?_
    unfold RlAt
    rw [plF_s, if_pos ex]
    exact ⟨g1, g2⟩
  · have nex : ¬ ∃ j, j < (plF D k).1 ∧ (plF D k).2 j = enX D k := by
      rintro ⟨j, hj, e⟩
      exact hno j hj ⟨by rw [e, ea], by rw [e, eb]⟩
    refine hp _ _ (fun c hc1 hc => by rw [up_ne _ _ _ (by omega), up_ne _ _ _ (by omega), up_ne _ _ _ (by omega), up_ne _ _ _ (by omega)]) (fun o ho => by rw [up_apply, if_neg (fun z => ho z.2), up_ne _ _ _ (by omega), up_ne _ _ _ (by omega), up_ne _ _ _ (by omega)]) ?_
    unfold RlAt
    rw [plF_s, if_neg nex]
    refine ⟨by rw [up_apply, if_pos ⟨rfl, rfl⟩]; simp, fun p hpp => ?_⟩
    simp only at hpp ⊢
    rw [up_ne _ _ _ (by omega), up_ne _ _ _ (by omega), up_ne _ _ _ (by omega)]
    simp only [up_apply]
    by_cases e : p = (plF D k).1
    · subst e
      simp [ea, eb]
    · have := g2 p (by omega)
      simp [e, this]
theorem ior_01 : ∀ a : Bool, ∀ b : Bool, ior (if a = true then 1 else 0) (if b = true then 1 else 0) = if (a || b) = true then 1 else 0 := by decide +kernel
def b01 (p : Bool) : Int := if p = true then 1 else 0
theorem b01_or (a b : Bool) : ior (b01 a) (b01 b) = b01 (a || b) := ior_01 a b
theorem b01_c (a : Bool) : b01 a = 0 ∨ b01 a = 1 := by unfold b01; split <;> simp
theorem b01_0 {a : Bool} : b01 a = 0 ↔ ¬ a = true := by unfold b01; split <;> simp_all
theorem s_X10_isSide {s : Sg} {M i j : Nat} {x y hl : Nat → Int} {post : Int → Prop} (hM : s 68 15 = (M : Int)) (hM2 : M ≤ 20) (hat : ∀ p, p < M → s 78 p = x p ∧ s 79 p = y p ∧ s 80 p = hl p) (hb : ∀ p, p < M → (0 ≤ x p ∧ x p ≤ 40) ∧ (0 ≤ y p ∧ y p ≤ 40)) (hi : i < M) (hj : j < M) (hh : ∀ r, BV r (sdB x y M hl i j = true) → post r) : w_X10_isSide s (i : Int) (j : Int) post := by
  unfold w_X10_isSide
  rw [hM]
  refine lr_3 (fun a b v => ∃ k : Nat, v = (k : Int) ∧ k ≤ M ∧ a = b01 (decide (∃ r, r < k ∧ hl r = -1 ∧ 0 < trn x y i j r)) ∧ b = b01 (decide (∃ r, r < k ∧ hl r = -1 ∧ trn x y i j r < 0))) (fun _ _ v => ((M : Int) - v).toNat) ?_ 0 0 0 ⟨0, rfl, Nat.zero_le _, rfl, rfl⟩
  rintro again _ _ _ ⟨k, rfl, hk, rfl, rfl⟩ ih
  refine ⟨fun c => ?_, fun c => ⟨by omega, ?_⟩⟩
  · have e : k = M := by omega
    subst e
    unfold jn
    rw [b01_0, b01_0, decide_eq_true_iff, decide_eq_true_iff]
    have y1 : sdB x y k hl i j = true → ((1 : Int) = 0 ∨ (1 : Int) = 1) ∧ post 1 := fun z => ⟨Or.inr rfl, hh 1 (Or.inl ⟨rfl, z⟩)⟩
    refine ⟨fun z => y1 (sdB_iff.mpr (Or.inl fun r hr hlr => ?_)), fun z1 => ⟨fun z2 => ⟨Or.inl rfl, hh 0 (Or.inr ⟨rfl, fun w => ?_⟩)⟩, fun z2 => y1 (sdB_iff.mpr (Or.inr fun r hr hlr => ?_))⟩⟩
    · apply Decidable.byContradiction
      intro w
      exact z ⟨r, hr, hlr, by omega⟩
    · rw [sdB_iff] at w
      rcases w with w | w
      · refine z1 fun ⟨r, h1, h2, h3⟩ => ?_
        have := w r h1 h2
        omega
      · refine z2 fun ⟨r, h1, h2, h3⟩ => ?_
        have := w r h1 h2
        omega
    · apply Decidable.byContradiction
      intro w
      exact z2 ⟨r, hr, hlr, by omega⟩
  · have hkM : k < M := by omega
    have b1 : ok32 ((k : Int) + 1) := ⟨by omega, by omega⟩
    have b2 : (k : Int) + 1 = ((k + 1 : Nat) : Int) := by omega
    have go : ∀ a b, a = b01 (decide (∃ r, r < k + 1 ∧ hl r = -1 ∧ 0 < trn x y i j r)) → b = b01 (decide (∃ r, r < k + 1 ∧ hl r = -1 ∧ trn x y i j r < 0)) → ∀ v, v = w32 ((k : Int) + 1) → again a b v := by
      intro a b ea eb v ev
      rw [ev, w32_id b1, b2]
      clear ev
      exact ih _ _ _ ⟨k + 1, rfl, by omega, ea, eb⟩ (by omega)
    have ex1 : ∀ P : Nat → Prop, (∃ r, r < k + 1 ∧ hl r = -1 ∧ P r) ↔ ((∃ r, r < k ∧ hl r = -1 ∧ P r) ∨ (hl k = -1 ∧ P k)) := by
      intro P
      constructor
      · rintro ⟨r, h1, h2, h3⟩
        by_cases e : r = k
        · subst e; exact Or.inr ⟨h2, h3⟩
        · exact Or.inl ⟨r, by omega, h2, h3⟩
      · rintro (⟨r, h1, h2, h3⟩ | ⟨h2, h3⟩)
        · exact ⟨r, by omega, h2, h3⟩
        · exact ⟨k, by omega, h2, h3⟩
    unfold jn
    rw [Int.toNat_natCast, (hat k hkM).2.2]
    refine ⟨fun z => ⟨by omega, by omega, by omega, by omega, by omega, by omega, by omega, by omega, ?_⟩, fun z => go _ _ ?_ ?_⟩
    · rw [Int.toNat_natCast, Int.toNat_natCast, (hat i hi).1, (hat i hi).2.1, (hat j hj).1, (hat j hj).2.1, (hat k hkM).1, (hat k hkM).2.1]
      unfold w_X10_turn
      have tw := trn_w hb hi hj hkM
      rw [tw.1]
      have s1 : ∀ t : Int, t = b01 (decide (0 < trn x y i j k)) → ior (b01 (decide (∃ r, r < k ∧ hl r = -1 ∧ 0 < trn x y i j r))) t = b01 (decide (∃ r, r < k + 1 ∧ hl r = -1 ∧ 0 < trn x y i j r)) := by
        rintro _ rfl
        rw [b01_or]
        congr 1
        rw [Bool.eq_iff_iff, Bool.or_eq_true, decide_eq_true_iff, decide_eq_true_iff, decide_eq_true_iff, ex1]
        exact or_congr Iff.rfl ⟨fun w => ⟨z, w⟩, fun w => w.2⟩
      have s2 : ∀ t : Int, t = b01 (decide (trn x y i j k < 0)) → ior (b01 (decide (∃ r, r < k ∧ hl r = -1 ∧ trn x y i j r < 0))) t = b01 (decide (∃ r, r < k + 1 ∧ hl r = -1 ∧ trn x y i j r < 0)) := by
        rintro _ rfl
        rw [b01_or]
        congr 1
        rw [Bool.eq_iff_iff, Bool.or_eq_true, decide_eq_true_iff, decide_eq_true_iff, decide_eq_true_iff, ex1]
        exact or_congr Iff.rfl ⟨fun w => ⟨z, w⟩, fun w => w.2⟩
      have nxt : ∀ a, a = b01 (decide (∃ r, r < k + 1 ∧ hl r = -1 ∧ 0 < trn x y i j r)) → (0 ≤ trn x y i j k → ∀ v4_27, v4_27 = ior (b01 (decide (∃ r, r < k ∧ hl r = -1 ∧ trn x y i j r < 0))) 0 → ∀ v5_12, v5_12 = w32 ((k : Int) + 1) → again a v4_27 v5_12) ∧ (¬ 0 ≤ trn x y i j k → ∀ v4_27, v4_27 = ior (b01 (decide (∃ r, r < k ∧ hl r = -1 ∧ trn x y i j r < 0))) 1 → ∀ v5_12, v5_12 = w32 ((k : Int) + 1) → again a v4_27 v5_12) := by
        intro a ea
        refine ⟨fun w v ev => go _ _ ea ?_, fun w v ev => go _ _ ea ?_⟩
        · rw [ev]; exact s2 0 (by rw [decide_eq_false (by omega)]; rfl)
        · rw [ev]; exact s2 1 (by rw [decide_eq_true (by omega)]; rfl)
      refine ⟨fun w v ev => nxt _ ?_, fun w v ev => nxt _ ?_⟩
      · rw [ev]; exact s1 0 (by rw [decide_eq_false (by omega)]; rfl)
      · rw [ev]; exact s1 1 (by rw [decide_eq_true (by omega)]; rfl)
    · congr 1
      rw [Bool.eq_iff_iff, decide_eq_true_iff, decide_eq_true_iff, ex1]
      exact ⟨Or.inl, fun w => by rcases w with w | w; exact w; exact absurd w.1 z⟩
    · congr 1
      rw [Bool.eq_iff_iff, decide_eq_true_iff, decide_eq_true_iff, ex1]
      exact ⟨Or.inl, fun w => by rcases w with w | w; exact w; exact absurd w.1 z⟩
def RhAt (t : Sg) (M : Nat) (x y hl : Nat → Int) : Prop := t 68 15 = (M : Int) ∧ ∀ p, p < M → t 78 p = x p ∧ t 79 p = y p ∧ t 80 p = hl p
theorem RhAt_fr {s t : Sg} {M : Nat} {x y hl : Nat → Int} (h : RhAt s M x y hl) (ho : ∀ c, c ≠ 81 → t c = s c) : RhAt t M x y hl := by
  refine ⟨by rw [ho 68 (by omega)]; exact h.1, fun p hp => ?_⟩
  rw [ho 78 (by omega), ho 79 (by omega), ho 80 (by omega)]
  exact h.2 p hp
def LsAt (t : Sg) (D : Nat → Nat → Int) (n : Nat) : Prop := t 68 0 = (n : Int) ∧ LnAt t 69 (n : Int) D
/-- only what the reference keeps for hulls has changed -/
def FrH (s t : Sg) : Prop := (∀ c, c ≠ 68 → (c < 78 ∨ 81 < c) → t c = s c) ∧ ∀ o, o ≠ 15 → t 68 o = s 68 o
theorem bRs_0 {x y : Nat → Int} {M : Nat} {hl : Nat → Int} {k : Nat} : bRs x y M hl 0 0 k = decide (hl k = -1 ∧ lfN M hl = 1) := by
  rw [Bool.eq_iff_iff, bRs_iff, decide_eq_true_iff]
  refine and_congr Iff.rfl ⟨fun z => ?_, Or.inl⟩
  rcases z with z | ⟨i, _, j, _, z, _⟩
  · exact z
  · omega
theorem bRs_j {x y : Nat → Int} {M : Nat} {hl : Nat → Int} {i j k : Nat} (hi : i < M) (hj : j < i) : bRs x y M hl i (j + 1) k = (bRs x y M hl i j k || decide (hl k = -1 ∧ hl i = -1 ∧ hl j = -1 ∧ sdB x y M hl i j = true ∧ trn x y i j k = 0)) := by
  rw [Bool.eq_iff_iff, Bool.or_eq_true, bRs_iff, bRs_iff, decide_eq_true_iff]
  constructor
  · rintro ⟨h0, h | ⟨a, ha, b, hb, hc, hd⟩⟩
    · exact Or.inl ⟨h0, Or.inl h⟩
    · by_cases e : a = i ∧ b = j
      · obtain ⟨rfl, rfl⟩ := e
        exact Or.inr ⟨h0, hd⟩
      · exact Or.inl ⟨h0, Or.inr ⟨a, ha, b, hb, by omega, hd⟩⟩
  · rintro (⟨h0, h | ⟨a, ha, b, hb, hc, hd⟩⟩ | ⟨h0, hd⟩)
    · exact ⟨h0, Or.inl h⟩
    · exact ⟨h0, Or.inr ⟨a, ha, b, hb, by omega, hd⟩⟩
    · exact ⟨h0, Or.inr ⟨i, hi, j, hj, Or.inr ⟨rfl, by omega⟩, hd⟩⟩
theorem bRs_i {x y : Nat → Int} {M : Nat} {hl : Nat → Int} {i k : Nat} : bRs x y M hl i i k = bRs x y M hl (i + 1) 0 k := by
  rw [Bool.eq_iff_iff, bRs_iff, bRs_iff]
  refine and_congr Iff.rfl (or_congr Iff.rfl ⟨?_, ?_⟩)
  · rintro ⟨a, ha, b, hb, hc, hd⟩
    exact ⟨a, ha, b, hb, by omega, hd⟩
  · rintro ⟨a, ha, b, hb, hc, hd⟩
    exact ⟨a, ha, b, hb, by omega, hd⟩
theorem s_X10_tellHulls {s : Sg} {D : Nat → Nat → Int} {n : Nat} {post : Int → Sg → Prop} (h : LsD D (n : Int)) (hn : s 68 0 = (n : Int)) (hat : LnAt s 69 (n : Int) D) (hp : ∀ (t : Sg) (H : Nat), FrH s t → HlE (pX D n) (pY D n) (pM D n) H → RhAt t (pM D n) (pX D n) (pY D n) (hlN (pX D n) (pY D n) (pM D n) H) → post (H : Int) t) : w_X10_tellHulls s post := by
  unfold w_X10_tellHulls
  rintro _ rfl
  have hn10 := h.1
  refine lr_1s (fun v t => ∃ i : Nat, v = (i : Int) ∧ i ≤ n ∧ FrH s t ∧ RlAt t D (2 * i)) (fun v _ => ((n : Int) - v).toNat) ?_ 0 _ ⟨0, rfl, Nat.zero_le _, ⟨fun c hc _ => up_ne _ _ _ hc, fun o ho => by rw [up_apply, if_neg (fun z => ho z.2)]⟩, ⟨by rw [up_apply, if_pos ⟨rfl, rfl⟩]; rfl, fun p hpp => absurd hpp (Nat.not_lt_zero _)⟩⟩
  rintro again _ t ⟨i, rfl, hi, ho, hP⟩ ih
  have kn : t 68 0 = (n : Int) := by rw [ho.2 0 (by omega)]; exact hn
  have kat : ∀ u : Sg, FrH s u → LnAt u 69 (n : Int) D := fun u uo x hx => by
    rw [uo.1 69 (by omega) (by omega), uo.1 (69 + 1) (by omega) (by omega), uo.1 (69 + 2) (by omega) (by omega), uo.1 (69 + 3) (by omega) (by omega)]
    exact hat x hx
  rw [kn]
  refine ⟨fun c => ?_, fun c => ?_⟩
  · have e : i = n := by omega
    subst e
    intro v2 ev2
    obtain ⟨f1, f2, f3, -⟩ := pl_facts h
    have g1 := hP.1
    have g2 := hP.2
    rw [g1] at ev2
    have eM : (plF D (2 * i)).1 = pM D i := rfl
    rw [eM] at g1 g2 ev2
    have hR0 : RhAt t (pM D i) (pX D i) (pY D i) (hlN (pX D i) (pY D i) (pM D i) 0) := ⟨g1, g2⟩
    clear ih g1 g2 hP kat
    generalize pM D i = M at *
    generalize pX D i = x at *
    generalize pY D i = y at *
    refine lr_2s (fun v w u => ∃ k : Nat, v = (k : Int) ∧ w = (lfN M (hlN x y M k) : Int) ∧ (∀ j, j < k → lfN M (hlN x y M j) ≠ 0) ∧ FrH s u ∧ RhAt u M x y (hlN x y M k)) (fun _ w _ => w.toNat) ?_ 0 v2 t ⟨0, rfl, by rw [lf_0, ev2], fun j hj => absurd hj (Nat.not_lt_zero _), ho, hR0⟩
    rintro again2 _ _ u ⟨k, rfl, rfl, hnz, uo, uR⟩ ih2
    refine ⟨fun z => hp u k uo ⟨by omega, hnz⟩ uR, fun z => ?_⟩
    have ld := lf_dec f2 k
    have kM : k < M := by
      rcases ld with q | q <;> omega
    refine lr_1s (fun v w => ∃ q : Nat, v = (q : Int) ∧ q ≤ M ∧ (∀ c, c ≠ 81 → w c = u c) ∧ ∀ p, p < q → w 81 p = b01 (bRs x y M (hlN x y M k) 0 0 p)) (fun v _ => ((M : Int) - v).toNat) ?_ 0 u ⟨0, rfl, Nat.zero_le _, fun _ _ => rfl, fun p hpp => absurd hpp (Nat.not_lt_zero _)⟩
    rintro again3 _ w ⟨q, rfl, hq, wo, w81⟩ ih3
    have wR := RhAt_fr uR wo
    rw [wR.1]
    refine ⟨fun z3 => ?_, fun z3 => ?_⟩
    · have e : q = M := by omega
      subst e
      clear ih3
      refine lr_1s (fun v a => ∃ i : Nat, v = (i : Int) ∧ i ≤ q ∧ (∀ c, c ≠ 81 → a c = u c) ∧ ∀ p, p < q → a 81 p = b01 (bRs x y q (hlN x y q k) i 0 p)) (fun v _ => ((q : Int) - v).toNat) ?_ 0 w ⟨0, rfl, Nat.zero_le _, wo, w81⟩
      rintro again4 _ a ⟨i2, rfl, hi2, ao, a81⟩ ih4
      have aR := RhAt_fr uR ao
      rw [aR.1]
      refine ⟨fun z4 => ?_, fun z4 => ?_⟩
      · have e : i2 = q := by omega
        subst e
        clear ih4
        have lw := lf_step (x := x) (y := y) (M := i2) (h := k)
        have bp := bC_pos (x := x) (y := y) f2 (show 0 < lfN i2 (hlN x y i2 k) by omega)
        refine lr_2s (fun v w b => ∃ r : Nat, w = (r : Int) ∧ r ≤ i2 ∧ v = ((lfN i2 (hlN x y i2 k) : Int) - (cntN (bC x y i2 (hlN x y i2 k)) r : Int)) ∧ (∀ c, c ≠ 80 → b c = a c) ∧ ∀ p, p < i2 → b 80 p = if p < r then hlN x y i2 (k + 1) p else hlN x y i2 k p) (fun _ w _ => ((i2 : Int) - w).toNat) ?_ _ 0 a ⟨0, rfl, Nat.zero_le _, by show _ = _ - ((0 : Nat) : Int); omega, fun _ _ => rfl, fun p hpp => by rw [if_neg (Nat.not_lt_zero _)]; exact (aR.2 p hpp).2.2⟩
        rintro again5 _ _ b ⟨r, rfl, hr, rfl, bo, b80⟩ ih5
        rw [bo 68 (by omega), aR.1]
        refine ⟨fun z5 v1 ev1 => ?_, fun z5 => ⟨by omega, ?_⟩⟩
        · have e : r = i2 := by omega
          subst e
          rw [ev1, w32_id (show ok32 ((k : Int) + 1) from ⟨by omega, by omega⟩)]
          clear ev1
          refine ih2 _ _ _ ⟨k + 1, by omega, by omega, fun j hj => ?_, ⟨fun c c1 c2 => by rw [bo c (by omega), ao c (by omega), uo.1 c c1 c2], fun o o1 => by rw [bo 68 (by omega), ao 68 (by omega), uo.2 o o1]⟩, ⟨by rw [bo 68 (by omega)]; exact aR.1, fun p hpp => ?_⟩⟩ (by omega)
          · by_cases e : j = k
            · subst e; omega
            · exact hnz j (by omega)
          · rw [bo 78 (by omega), bo 79 (by omega), b80 p hpp, if_pos hpp]
            exact ⟨(aR.2 p hpp).1, (aR.2 p hpp).2.1, rfl⟩
        · have hrM : r < i2 := by omega
          have b1 : ok32 ((r : Int) + 1) := ⟨by omega, by omega⟩
          have b2 : (r : Int) + 1 = ((r + 1 : Nat) : Int) := by omega
          have cl := cntN_le (bC x y i2 (hlN x y i2 k)) r
          have ll : lfN i2 (hlN x y i2 k) ≤ i2 := cntN_le _ _
          have fin : ∀ (v : Int) (c : Sg), v = ((lfN i2 (hlN x y i2 k) : Int) - (cntN (bC x y i2 (hlN x y i2 k)) (r + 1) : Int)) → (∀ c', c' ≠ 80 → c c' = a c') → (∀ p, p < i2 → c 80 p = if p < r + 1 then hlN x y i2 (k + 1) p else hlN x y i2 k p) → ∀ w, w = w32 ((r : Int) + 1) → again5 v w c := by
            rintro v c rfl k1 k2 w ew
            rw [ew, w32_id b1, b2]
            clear ew
            exact ih5 _ _ _ ⟨r + 1, rfl, by omega, rfl, k1, k2⟩ (by omega)
          unfold jn
          rw [Int.toNat_natCast, bo 81 (by omega), a81 r hrM, b01_0, brd_eq f2 hrM]
          refine ⟨fun z6 => ⟨by omega, ?_⟩, fun z6 => fin _ b (by rw [cntN_s, if_neg z6]) bo fun p hpp => ?_⟩
          · have z7 : bC x y i2 (hlN x y i2 k) r = true := Decidable.byContradiction z6
            rintro _ rfl v ev
            rw [ev, w32_id (show ok32 ((lfN i2 (hlN x y i2 k) : Int) - (cntN (bC x y i2 (hlN x y i2 k)) r : Int) + (-1)) from ⟨by omega, by omega⟩)]
            refine fin _ _ (by rw [cntN_s, if_pos z7]; omega) (fun c' hc' => by rw [up_ne _ _ _ hc', bo c' hc']) fun p hpp => ?_
            rw [up_apply]
            by_cases d : p = r
            · subst d
              rw [if_pos ⟨rfl, rfl⟩, if_pos (by omega), hlN_s, if_pos z7]
            · rw [if_neg (fun y => d y.2), b80 p hpp]
              by_cases e2 : p < r
              · rw [if_pos e2, if_pos (by omega)]
              · rw [if_neg e2, if_neg (by omega)]
          · rw [b80 p hpp]
            by_cases d : p = r
            · subst d
              rw [if_neg (by omega), if_pos (by omega), hlN_s, if_neg z6]
            · by_cases e2 : p < r
              · rw [if_pos e2, if_pos (by omega)]
              · rw [if_neg e2, if_neg (by omega)]
      · have hi3 : i2 < q := by omega
        have b1 : ok32 ((i2 : Int) + 1) := ⟨by omega, by omega⟩
        have b2 : (i2 : Int) + 1 = ((i2 + 1 : Nat) : Int) := by omega
        refine lr_1s (fun v b => ∃ j : Nat, v = (j : Int) ∧ j ≤ i2 ∧ (∀ c, c ≠ 81 → b c = u c) ∧ ∀ p, p < q → b 81 p = b01 (bRs x y q (hlN x y q k) i2 j p)) (fun v _ => ((i2 : Int) - v).toNat) ?_ 0 a ⟨0, rfl, Nat.zero_le _, ao, a81⟩
        rintro again5 _ b ⟨j, rfl, hj, bo, b81⟩ ih5
        have bR := RhAt_fr uR bo
        refine ⟨fun z5 v ev => ?_, fun z5 => ⟨by omega, ?_⟩⟩
        · have e : j = i2 := by omega
          subst e
          rw [ev, w32_id b1, b2]
          clear ev
          exact ih4 _ _ ⟨j + 1, rfl, by omega, bo, fun p hpp => by rw [b81 p hpp, bRs_i]⟩ (by omega)
        · have hji : j < i2 := by omega
          have b3 : ok32 ((j : Int) + 1) := ⟨by omega, by omega⟩
          have b4 : (j : Int) + 1 = ((j + 1 : Nat) : Int) := by omega
          have fin : ∀ c : Sg, (∀ c', c' ≠ 81 → c c' = u c') → (∀ p, p < q → c 81 p = b01 (bRs x y q (hlN x y q k) i2 (j + 1) p)) → ∀ w, w = w32 ((j : Int) + 1) → again5 w c := by
            intro c k1 k2 w ew
            rw [ew, w32_id b3, b4]
            clear ew
            exact ih5 _ _ ⟨j + 1, rfl, by omega, k1, k2⟩ (by omega)
          have keep : ¬ (hlN x y q k i2 = -1 ∧ hlN x y q k j = -1 ∧ sdB x y q (hlN x y q k) i2 j = true) → ∀ w, w = w32 ((j : Int) + 1) → again5 w b := by
            intro z
            refine fin b bo fun p hpp => ?_
            rw [b81 p hpp, bRs_j hi3 hji]
            have : decide (hlN x y q k p = -1 ∧ hlN x y q k i2 = -1 ∧ hlN x y q k j = -1 ∧ sdB x y q (hlN x y q k) i2 j = true ∧ trn x y i2 j p = 0) = false := decide_eq_false fun w => z ⟨w.2.1, w.2.2.1, w.2.2.2.1⟩
            rw [this, Bool.or_false]
          unfold jn
          rw [Int.toNat_natCast, Int.toNat_natCast, (bR.2 i2 hi3).2.2, (bR.2 j (by omega)).2.2]
          refine ⟨fun z6 => keep fun w => z6 w.1, fun z6 => ⟨by omega, fun z7 => keep fun w => z7 w.2.1, fun z7 => ?_⟩⟩
          refine s_X10_isSide bR.1 f1 bR.2 f3 hi3 (by omega) fun r38 e38 => ⟨fun z8 => keep fun w => ?_, fun z8 => ?_⟩
          · rcases e38 with e | e
            · omega
            · exact e.2 w.2.2
          · have hsd : sdB x y q (hlN x y q k) i2 j = true := by rcases e38 with e | e; exact e.2; exact absurd e.1 z8
            refine lr_1s (fun v c => ∃ r : Nat, v = (r : Int) ∧ r ≤ q ∧ (∀ c', c' ≠ 81 → c c' = u c') ∧ ∀ p, p < q → c 81 p = if p < r then b01 (bRs x y q (hlN x y q k) i2 (j + 1) p) else b01 (bRs x y q (hlN x y q k) i2 j p)) (fun v _ => ((q : Int) - v).toNat) ?_ 0 b ⟨0, rfl, Nat.zero_le _, bo, fun p hpp => by rw [if_neg (Nat.not_lt_zero _)]; exact b81 p hpp⟩
            rintro again6 _ c ⟨r, rfl, hr, co, c81⟩ ih6
            have cR := RhAt_fr uR co
            rw [cR.1]
            refine ⟨fun z9 => fin c co fun p hpp => by rw [c81 p hpp, if_pos (by omega)], fun z9 => ⟨by omega, by omega, ?_⟩⟩
            have hrq : r < q := by omega
            have tw := trn_w f3 hi3 (show j < q by omega) hrq
            have b5 : ok32 ((r : Int) + 1) := ⟨by omega, by omega⟩
            have b6 : (r : Int) + 1 = ((r + 1 : Nat) : Int) := by omega
            have stp : ∀ v : Int, v = b01 (decide (hlN x y q k r = -1 ∧ trn x y i2 j r = 0)) → (0 ≤ (r : Int) ∧ (r : Int) < 20) ∧ ((ior (c 81 (r : Int).toNat) v = 0 ∨ ior (c 81 (r : Int).toNat) v = 1) ∧ (∀ s_47, s_47 = up c 81 ((r : Int).toNat) (ior (c 81 (r : Int).toNat) v) → (∀ v5_48, v5_48 = w32 ((r : Int) + 1) → (again6 v5_48 s_47)))) := by
              rintro _ rfl
              rw [Int.toNat_natCast, c81 r hrq, if_neg (Nat.lt_irrefl _), b01_or]
              refine ⟨by omega, b01_c _, ?_⟩
              rintro _ rfl v ev
              rw [ev, w32_id b5, b6]
              clear ev
              refine ih6 _ _ ⟨r + 1, rfl, by omega, fun c' hc' => by rw [up_ne _ _ _ hc', co c' hc'], fun p hpp => ?_⟩ (by omega)
              rw [up_apply]
              by_cases d : p = r
              · subst d
                rw [if_pos ⟨rfl, rfl⟩, if_pos (by omega), bRs_j hi3 hji]
                congr 2
                exact decide_eq_decide.mpr ⟨fun w => ⟨w.1, z6, z7, hsd, w.2⟩, fun w => ⟨w.1, w.2.2.2.2⟩⟩
              · rw [if_neg (fun y => d y.2), c81 p hpp]
                by_cases e2 : p < r
                · rw [if_pos e2, if_pos (by omega)]
                · rw [if_neg e2, if_neg (by omega)]
            rw [Int.toNat_natCast] at stp
            rw [Int.toNat_natCast, (cR.2 r hrq).2.2]
            refine ⟨fun z10 => stp 0 ?_, fun z10 => ⟨by omega, by omega, by omega, by omega, by omega, by omega, by omega, by omega, ?_⟩⟩
            · rw [decide_eq_false (fun w => z10 w.1)]; rfl
            · rw [(cR.2 r hrq).1, (cR.2 r hrq).2.1, (cR.2 i2 hi3).1, (cR.2 i2 hi3).2.1, (cR.2 j (by omega)).1, (cR.2 j (by omega)).2.1]
              unfold w_X10_turn
              rw [tw.1]
              refine ⟨fun z11 => stp 0 ?_, fun z11 => stp 1 ?_⟩
              · rw [decide_eq_false (fun w => z11 w.2)]; rfl
              · rw [decide_eq_true ⟨z10, z11⟩]; rfl
    · have hqM : q < M := by omega
      have b1 : ok32 ((q : Int) + 1) := ⟨by omega, by omega⟩
      have b2 : (q : Int) + 1 = ((q + 1 : Nat) : Int) := by omega
      have fin : ∀ v : Int, v = b01 (bRs x y M (hlN x y M k) 0 0 q) → (0 ≤ (q : Int) ∧ (q : Int) < 20) ∧ ((v = 0 ∨ v = 1) ∧ (∀ s_63, s_63 = up w 81 ((q : Int).toNat) v → (∀ v3_64, v3_64 = w32 ((q : Int) + 1) → (again3 v3_64 s_63)))) := by
        rintro v ev
        refine ⟨by omega, by rw [ev]; exact b01_c _, ?_⟩
        rintro _ rfl v3 e3
        rw [e3, w32_id b1, b2, Int.toNat_natCast]
        clear e3
        refine ih3 _ _ ⟨q + 1, rfl, by omega, fun c' hc' => by rw [up_ne _ _ _ hc', wo c' hc'], fun p hpp => ?_⟩ (by omega)
        rw [up_apply]
        by_cases d : p = q
        · subst d
          rw [if_pos ⟨rfl, rfl⟩, ev]
        · rw [if_neg (fun y => d y.2)]
          exact w81 p (by omega)
      refine ⟨by omega, ?_⟩
      rw [Int.toNat_natCast] at fin
      unfold jn
      rw [Int.toNat_natCast, (wR.2 q hqM).2.2]
      have eb : bRs x y M (hlN x y M k) 0 0 q = decide (hlN x y M k q = -1 ∧ lfN M (hlN x y M k) = 1) := bRs_0
      rw [eb] at fin
      refine ⟨fun z4 => fin 0 ?_, fun z4 => ⟨fun z5 => fin 0 ?_, fun z5 => fin 1 ?_⟩⟩
      · rw [decide_eq_false (fun w => z4 w.1)]; rfl
      · rw [decide_eq_false (fun w => z5 (by omega))]; rfl
      · rw [decide_eq_true ⟨z4, by omega⟩]; rfl
  · have hi2 : i < n := by omega
    have b1 : ok32 ((i : Int) + 1) := ⟨by omega, by omega⟩
    have b2 : (i : Int) + 1 = ((i + 1 : Nat) : Int) := by omega
    obtain ⟨a1, a2, a3, a4⟩ := kat t ho i (by omega)
    simp only [Nat.reduceAdd] at a1 a2 a3 a4
    have eA : enX D (2 * i) = (D 0 i, D 1 i) := by unfold enX; rw [if_pos (by omega), show 2 * i / 2 = i by omega]
    have eB : enX D (2 * i + 1) = (D 2 i, D 3 i) := by unfold enX; rw [if_neg (by omega), show (2 * i + 1) / 2 = i by omega]
    rw [Int.toNat_natCast, a1, a2]
    refine ⟨by omega, by omega, s_X10_place h (k := 2 * i) (by omega) hP (by rw [eA]) (by rw [eA]) fun r u uo uo2 uP => ⟨by omega, by omega, ?_⟩⟩
    have uF : FrH s u := ⟨fun c c1 c2 => by rw [uo c c1 (by omega), ho.1 c c1 c2], fun o o1 => by rw [uo2 o o1, ho.2 o o1]⟩
    obtain ⟨d1, d2, d3, d4⟩ := kat u uF i (by omega)
    simp only [Nat.reduceAdd] at d1 d2 d3 d4
    rw [d3, d4]
    refine s_X10_place h (k := 2 * i + 1) (by omega) uP (by rw [eB]) (by rw [eB]) fun r2 w wo wo2 wP v ev => ?_
    rw [ev, w32_id b1, b2]
    clear ev
    exact ih _ _ ⟨i + 1, rfl, by omega, ⟨fun c c1 c2 => by rw [wo c c1 (by omega), uF.1 c c1 c2], fun o o1 => by rw [wo2 o o1, uF.2 o o1]⟩, wP⟩ (by omega)
