/-! the two insertions in the heap -/
def gtB (D : Nat → Nat → Int) (x xd : Int) (a b : Nat) : Bool := decide (0 < cmpT D x xd a b)
theorem posN_go {gt : Nat → Nat → Bool} {r : Nat → Nat} {l k : Nat} (h : gt (r k) l = true) : posN gt r l (k + 1) = posN gt r l k := by
  show (if gt (r k) l = true then posN gt r l k else k + 1) = _
  rw [if_pos h]
theorem posN_stop {gt : Nat → Nat → Bool} {r : Nat → Nat} {l k : Nat} (h : ¬ gt (r k) l = true) : posN gt r l (k + 1) = k + 1 := by
  show (if gt (r k) l = true then posN gt r l k else k + 1) = _
  rw [if_neg h]
/-- the place at which the insertion stands, in a row in one cell -/
def InsI (c : Nat) (s t : Sg) (gt : Nat → Nat → Bool) (r : Nat → Nat) (l k at' : Nat) : Prop :=
  at' ≤ k ∧ posN gt r l at' = posN gt r l k ∧ (∀ c', c' ≠ c → t c' = s c') ∧ (∀ j, j < at' → t c j = (r j : Int)) ∧ (∀ j, at' < j → j ≤ k → t c j = (r (j - 1) : Int))
theorem InsI_go {c : Nat} {s t : Sg} {gt : Nat → Nat → Bool} {r : Nat → Nat} {l k a : Nat} (h : InsI c s t gt r l k (a + 1)) (hg : gt (r a) l = true) : InsI c s (up t c (a + 1) (t c a)) gt r l k a := by
  obtain ⟨h1, h2, h3, h4, h5⟩ := h
  refine ⟨by omega, by rw [← h2, posN_go hg], fun c' hc => by rw [up_ne _ _ _ hc, h3 c' hc], fun j hj => ?_, fun j hj hk => ?_⟩
  · rw [up_apply]
    rw [if_neg (by omega)]
    exact h4 j (by omega)
  · rw [up_apply]
    by_cases e : j = a + 1
    · subst e
      simp
      exact h4 a (by omega)
    · rw [if_neg (by omega)]
      exact h5 j (by omega) hk
theorem InsI_end {c : Nat} {s t : Sg} {gt : Nat → Nat → Bool} {r : Nat → Nat} {l k a : Nat} (h : InsI c s t gt r l k a) (hp : posN gt r l a = a) : (∀ c', c' ≠ c → up t c a l c' = s c') ∧ ∀ j, j ≤ k → up t c a l c j = (insN r (posN gt r l k) l j : Int) := by
  obtain ⟨h1, h2, h3, h4, h5⟩ := h
  refine ⟨fun c' hc => by rw [up_ne _ _ _ hc, h3 c' hc], fun j hj => ?_⟩
  rw [up_apply, ← h2, hp]
  unfold insN
  by_cases e : j = a
  · subst e
    simp
  · rw [if_neg (by omega)]
    by_cases e2 : j < a
    · rw [if_pos e2]
      exact h4 j e2
    · rw [if_neg e2, if_neg e]
      exact h5 j (by omega) hj
theorem s_X7_let {s : Sg} {D : Nat → Nat → Int} {n x xd : Int} {l k : Nat} {r : Nat → Nat} {post : Sg → Prop} (h : LsD D n) (hat : LnAt s 2 n D) (hl : (l : Int) < n) (hk : k ≤ l) (hx : FrB x xd) (hz : s 35 0 = (k : Int)) (hr : ∀ j, j < k → s 36 j = (r j : Int) ∧ r j < l ∧ s 37 (r j) = hgt D (r j) x xd) (hhl : s 37 l = hgt D l x xd)
    (hp : ∀ t, (∀ c, c ≠ 35 → c ≠ 36 → t c = s c) → t 35 0 = (k : Int) + 1 → (∀ j, j ≤ k → t 36 j = (insN r (posN (gtB D x xd) r l k) l j : Int)) → post t) : w_X7_let s (l : Int) post := by
  unfold w_X7_let jn
  rintro _ rfl _ rfl
  have hl10 : (l : Int) < 10 := by have := h.1; omega
  rw [hz, w32_id (show ok32 ((k : Int) - 1) from ⟨by omega, by omega⟩)]
  refine lr_2s (fun a i t => ∃ a' : Nat, a = (a' : Int) ∧ i = (a' : Int) - 1 ∧ InsI 36 s t (gtB D x xd) r l k a') (fun a _ _ => a.toNat) ?_ _ _ _ ⟨k, rfl, rfl, Nat.le_refl _, rfl, fun _ _ => rfl, fun j hj => (hr j hj).1, fun j h1 h2 => by omega⟩
  rintro again _ _ t ⟨a, rfl, rfl, hI⟩ ih
  have hI1 := hI.1
  have fin : ∀ hq : posN (gtB D x xd) r l a = a, (0 ≤ (a : Int) ∧ (a : Int) < 10) ∧ ∀ s_9, s_9 = up t 36 (a : Int).toNat (l : Int) → ∀ s_10, s_10 = up s_9 35 0 (w32 (s_9 35 0 + 1)) → post s_10 := by
    intro hq
    refine ⟨by omega, ?_⟩
    rintro _ rfl _ rfl
    obtain ⟨g1, g2⟩ := InsI_end hI hq
    have e35 : up t 36 (a : Int).toNat (l : Int) 35 0 = (k : Int) := by
      rw [Int.toNat_natCast, g1 35 (by omega)]; exact hz
    rw [e35, w32_id (show ok32 ((k : Int) + 1) from ⟨by omega, by omega⟩)]
    refine hp _ (fun c c1 c2 => by rw [up_ne _ _ _ c1, Int.toNat_natCast, g1 c c2]) (by rw [up_apply]; simp) (fun j hj => ?_)
    rw [up_ne _ _ _ (by omega), Int.toNat_natCast]
    exact g2 j hj
  refine ⟨fun c => ?_, fun c => ?_⟩
  · refine fin ?_
    have : a = 0 := by omega
    subst this
    rfl
  · obtain ⟨a, rfl⟩ : ∃ b, a = b + 1 := ⟨a - 1, by omega⟩
    have ea : ((a + 1 : Nat) : Int) - 1 = (a : Int) := by omega
    rw [ea]
    obtain ⟨q1, q2, q3⟩ := hr a (by omega)
    have ht36 : t 36 a = (r a : Int) := hI.2.2.2.1 a (by omega)
    have ht37 : t 37 = s 37 := hI.2.2.1 37 (by omega)
    refine ⟨by omega, ?_⟩
    rw [Int.toNat_natCast, ht36]
    refine s_X7_compareTwo (n := n) (x := x) (xd := xd) h (fun i hi => ?_) (by omega) (by omega) hx (by rw [ht37]; exact q3) (by rw [ht37]; exact hhl) ?_
    · rw [hI.2.2.1 2 (by omega), hI.2.2.1 (2 + 1) (by omega), hI.2.2.1 (2 + 2) (by omega), hI.2.2.1 (2 + 3) (by omega)]
      exact hat i hi
    · rw [Int.toNat_natCast, Int.toNat_natCast]
      have b1 : 0 ≤ (a : Int) ∧ (a : Int) < 10 := by omega
      have b6 : 0 ≤ ((a + 1 : Nat) : Int) ∧ ((a + 1 : Nat) : Int) < 10 := by omega
      have b7 : (a : Int) + 1 = ((a + 1 : Nat) : Int) := by omega
      have b8 : ok32 ((a : Int) + 1) := ⟨by omega, by omega⟩
      have b3 : ok32 ((a : Int) + (-1)) := ⟨by omega, by omega⟩
      have b4 : (a : Int) + (-1) = (a : Int) - 1 := by omega
      have b5 : (a : Int).toNat < ((a + 1 : Nat) : Int).toNat := by omega
      have hw : w32 ((a : Int) + 1) = ((a + 1 : Nat) : Int) := by rw [w32_id b8]; exact b7
      have b2 : 0 ≤ w32 ((a : Int) + 1) ∧ w32 ((a : Int) + 1) < 10 := by rw [hw]; exact b6
      refine ⟨fun c2 => fin (posN_stop ?_), fun c2 => ⟨b1, b2, ?_⟩⟩
      · unfold gtB
        rw [decide_eq_true_iff]
        omega
      · rintro _ rfl _ rfl
        rw [hw, Int.toNat_natCast, w32_id b3]
        refine ih _ _ _ ⟨a, rfl, b4, ?_⟩ b5
        have g := InsI_go hI (by unfold gtB; rw [decide_eq_true_iff]; omega)
        rw [ht36] at g
        exact g
/-- the row of lines at an x, as it lies in two cells -/
def RowAt (t : Sg) (cs co cr : Nat) (D : Nat → Nat → Int) (x xd w : Int) (n : Nat) : Prop := t cs co = (cntN (thereB D x xd w) n : Int) ∧ ∀ j, j < cntN (thereB D x xd w) n → t cr j = (rowN (gtB D x xd) (thereB D x xd w) n j : Int)
theorem s_X7_stand {s : Sg} {D : Nat → Nat → Int} {n x xd : Int} {post : Sg → Prop} (h : LsD D n) (hn : s 1 0 = n) (hat : LnAt s 2 n D) (hx : FrB x xd) (hp : ∀ t, (∀ c, c ≠ 35 → c ≠ 36 → c ≠ 37 → t c = s c) → RowAt t 35 0 36 D x xd (-1) n.toNat → (∀ i, i < n.toNat → thereB D x xd (-1) i = true → t 37 i = hgt D i x xd) → post t) : w_X7_stand s x xd post := by
  unfold w_X7_stand
  rintro _ rfl
  have hn10 := h.1
  refine lr_1s (fun i t => ∃ i' : Nat, i = (i' : Int) ∧ (i' : Int) ≤ n ∧ (∀ c, c ≠ 35 → c ≠ 36 → c ≠ 37 → t c = s c) ∧ RowAt t 35 0 36 D x xd (-1) i' ∧ ∀ j, j < i' → thereB D x xd (-1) j = true → t 37 j = hgt D j x xd) (fun i _ => (n - i).toNat) ?_ _ _ ⟨0, rfl, by omega, fun c c1 _ _ => up_ne _ _ _ c1, ⟨by rw [up_apply]; rfl, fun j hj => absurd hj (Nat.not_lt_zero _)⟩, fun j hj => absurd hj (Nat.not_lt_zero _)⟩
  rintro again _ t ⟨i, rfl, hi, ho, hR, hH⟩ ih
  have e1 : t 1 0 = n := by rw [ho 1 (by omega) (by omega) (by omega), hn]
  have hat' : LnAt t 2 n D := fun i hi => by
    rw [ho 2 (by omega) (by omega) (by omega), ho (2 + 1) (by omega) (by omega) (by omega), ho (2 + 2) (by omega) (by omega) (by omega), ho (2 + 3) (by omega) (by omega) (by omega)]
    exact hat i hi
  refine ⟨fun c => ?_, fun c => ?_⟩
  · have : n.toNat = i := by omega
    rw [e1] at c
    refine hp t ho (by rw [this]; exact hR) (by rw [this]; exact hH)
  · rw [e1] at c
    have hw : w32 ((i : Int) + 1) = ((i + 1 : Nat) : Int) := by rw [w32_id (show ok32 ((i : Int) + 1) from ⟨by omega, by omega⟩)]; omega
    obtain ⟨d1, d2, d3, d4⟩ := hat' i (by omega)
    simp only [Nat.reduceAdd] at d1 d2 d3 d4
    obtain ⟨⟨ha, hb, hu, hv⟩, hlx⟩ := h.2 i (by omega)
    have go : ∀ t2, ((thereB D x xd (-1) i = true → (∀ c, c ≠ 35 → c ≠ 36 → t2 c = (up t 37 i (hgt D i x xd)) c) ∧ t2 35 0 = (cntN (thereB D x xd (-1)) i : Int) + 1 ∧ ∀ j, j ≤ cntN (thereB D x xd (-1)) i → t2 36 j = (insN (rowN (gtB D x xd) (thereB D x xd (-1)) i) (posN (gtB D x xd) (rowN (gtB D x xd) (thereB D x xd (-1)) i) i (cntN (thereB D x xd (-1)) i)) i j : Int)) ∧ (¬ thereB D x xd (-1) i = true → t2 = t)) → ∀ v, v = w32 ((i : Int) + 1) → again v t2 := by
      intro t2 g v ev
      obtain ⟨g1, g2⟩ := g
      rw [ev, hw]
      refine ih _ _ ⟨i + 1, rfl, by omega, ?_⟩ (by omega)
      by_cases q : thereB D x xd (-1) i = true
      · obtain ⟨k1, k2, k3⟩ := g1 q
        refine ⟨fun c c1 c2 c3 => by rw [k1 c c1 c2, up_ne _ _ _ c3, ho c c1 c2 c3], ⟨?_, fun j hj => ?_⟩, fun j hj hj2 => ?_⟩
        · rw [k2]
          show _ = ((if thereB D x xd (-1) i = true then _ else _ : Nat) : Int)
          rw [if_pos q]
          omega
        · have hj' : j ≤ cntN (thereB D x xd (-1)) i := by
            have : cntN (thereB D x xd (-1)) (i + 1) = cntN (thereB D x xd (-1)) i + 1 := if_pos q
            omega
          rw [k3 j hj']
          show _ = ((if thereB D x xd (-1) i = true then _ else _ : Nat → Nat) j : Int)
          rw [if_pos q]
        · rw [k1 37 (by omega) (by omega), up_apply]
          by_cases e : j = i
          · subst e
            simp
          · rw [if_neg (by omega)]
            exact hH j (by omega) hj2
      · have := g2 q
        subst this
        refine ⟨ho, ⟨?_, fun j hj => ?_⟩, fun j hj hj2 => ?_⟩
        · rw [hR.1]
          show _ = ((if thereB D x xd (-1) i = true then _ else _ : Nat) : Int)
          rw [if_neg q]
        · have e : cntN (thereB D x xd (-1)) (i + 1) = cntN (thereB D x xd (-1)) i := if_neg q
          rw [e] at hj
          rw [hR.2 j hj]
          show _ = ((if thereB D x xd (-1) i = true then _ else _ : Nat → Nat) j : Int)
          rw [if_neg q]
        · by_cases e : j = i
          · subst e
            exact absurd hj2 q
          · exact hH j (by omega) hj2
    have hth : thereB D x xd (-1) i = true ↔ (D 0 i ≠ D 2 i ∧ D 0 i * xd ≤ x ∧ x ≤ D 2 i * xd) := by
      unfold thereB
      rw [decide_eq_true_iff]
      exact ⟨fun q => q.2, fun q => ⟨by omega, q⟩⟩
    refine s_X2_isUpright (by omega) fun r5 e5 => ?_
    rw [Int.toNat_natCast, d1, d3] at e5
    unfold jn
    refine ⟨fun c1 => go t ⟨fun q => ?_, fun _ => rfl⟩, fun c1 => ?_⟩
    · rw [hth] at q
      rcases e5 with e | e
      · exact absurd e.2 q.1
      · exact absurd e.1 c1
    · refine s_X2_reaches (c0 := 1) (by omega) (by rw [Int.toNat_natCast]; simp only [Nat.reduceAdd]; rw [d1]; exact ha) (by rw [Int.toNat_natCast]; simp only [Nat.reduceAdd]; rw [d3]; exact hu) hx.2 fun r9 e9 => ?_
      rw [Int.toNat_natCast] at e9
      simp only [Nat.reduceAdd] at e9
      rw [d1, d3] at e9
      refine ⟨fun c2 => go t ⟨fun q => ?_, fun _ => rfl⟩, fun c2 => ?_⟩
      · rw [hth] at q
        rcases e9 with e | e
        · omega
        · exact absurd q.2 e.2
      · refine s_X2_height h hat' (by omega) hx ⟨by omega, ?_⟩
        rintro _ rfl
        rw [Int.toNat_natCast]
        have hthi : thereB D x xd (-1) i = true := by
          rw [hth]
          refine ⟨?_, ?_⟩
          · rcases e5 with e | e
            · omega
            · exact e.2
          · rcases e9 with e | e
            · exact e.2
            · omega
        refine s_X7_let (r := rowN (gtB D x xd) (thereB D x xd (-1)) i) (k := cntN (thereB D x xd (-1)) i) h (fun j hj => by rw [up_ne _ _ _ (by omega), up_ne _ _ _ (by omega), up_ne _ _ _ (by omega), up_ne _ _ _ (by omega)]; exact hat' j hj) (by omega) (cntN_le _ _) hx (by rw [up_ne _ _ _ (by omega)]; exact hR.1) (fun j hj => ?_) (by rw [up_apply]; simp) (fun t2 k1 k2 k3 => go t2 ⟨fun _ => ⟨k1, k2, k3⟩, fun q => absurd hthi q⟩)
        obtain ⟨m1, m2⟩ := rowN_lt (gtB D x xd) (thereB D x xd (-1)) i j hj
        refine ⟨by rw [up_ne _ _ _ (by omega)]; exact hR.2 j hj, m1, ?_⟩
        rw [up_apply, if_neg (by omega)]
        exact hH _ m1 m2
