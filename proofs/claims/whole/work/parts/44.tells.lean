/-! tells -/
/-- only what is worked out at every call has changed -/
def ScS (s u : Sg) : Prop := (∀ c, c ≠ 35 → c ≠ 36 → c ≠ 37 → c ≠ 68 → c ≠ 82 → u c = s c) ∧ ∀ o, o ≠ 20 → u 68 o = s 68 o
theorem ScS_rfl (s : Sg) : ScS s s := ⟨fun _ _ _ _ _ _ => rfl, fun _ _ => rfl⟩
theorem ScS_end {s u : Sg} (hB : Base s) (h : ScS s u) : Base u ∧ Keep s u := by
  obtain ⟨h1, h2⟩ := h
  refine ⟨Base_scr hB (fun c hc => by unfold bc at hc; exact h1 c (by omega) (by omega) (by omega) (by omega) (by omega)) (by rw [h1 0 (by omega) (by omega) (by omega) (by omega) (by omega)]) (h2 0 (by omega)) (h2 43 (by omega)), Or.inl ⟨fun c hc => by unfold kc at hc; exact h1 c (by omega) (by omega) (by omega) (by omega) (by omega), ?_, ?_, ?_⟩⟩
  all_goals rw [h1 0 (by omega) (by omega) (by omega) (by omega) (by omega)]
theorem ScS_st {s t u : Sg} (h : ScS s t) (g : ∀ c, c ≠ 35 → c ≠ 36 → c ≠ 37 → u c = t c) : ScS s u :=
  ⟨fun c c1 c2 c3 c4 c5 => by rw [g c c1 c2 c3, h.1 c c1 c2 c3 c4 c5], fun o ho => by rw [g 68 (by omega) (by omega) (by omega), h.2 o ho]⟩
theorem ScS_to {s t u : Sg} (h : ScS s t) (g : ∀ c, c ≠ 68 → c ≠ 82 → u c = t c) (g2 : ∀ o, o ≠ 20 → u 68 o = t 68 o) : ScS s u :=
  ⟨fun c c1 c2 c3 c4 c5 => by rw [g c c4 c5, h.1 c c1 c2 c3 c4 c5], fun o ho => by rw [g2 o ho, h.2 o ho]⟩
theorem ScS_1 {s t : Sg} (h : ScS s t) : t 1 = s 1 := h.1 1 (by omega) (by omega) (by omega) (by omega) (by omega)
theorem ScS_at {s t : Sg} (h : ScS s t) : LnAt t 2 (s 1 0) (lD s) := fun i hi => by
  rw [h.1 2 (by omega) (by omega) (by omega) (by omega) (by omega), h.1 (2 + 1) (by omega) (by omega) (by omega) (by omega) (by omega), h.1 (2 + 2) (by omega) (by omega) (by omega) (by omega) (by omega), h.1 (2 + 3) (by omega) (by omega) (by omega) (by omega) (by omega)]
  exact Base_At i hi
theorem ScS_at2 {s t : Sg} (hB : Base s) (h : ScS s t) : LnAt t 69 (s 1 0) (lD s) := fun i hi => by
  rw [h.1 69 (by omega) (by omega) (by omega) (by omega) (by omega), h.1 (69 + 1) (by omega) (by omega) (by omega) (by omega) (by omega), h.1 (69 + 2) (by omega) (by omega) (by omega) (by omega) (by omega), h.1 (69 + 3) (by omega) (by omega) (by omega) (by omega) (by omega)]
  exact Base_At2 hB i hi
def foB (f : Nat → Nat) (it : Nat → Int) (m len : Nat) : Bool := decide (m = len ∧ ∀ j, j < m → (f j : Int) = it j)
theorem FO_B {f : Nat → Nat} {it : Nat → Int} {m len : Nat} {r : Int} (h : FO f it m len r) : r = -1 ↔ foB f it m len = true := by
  unfold foB
  rw [decide_eq_true_iff]
  rcases h with ⟨e, e1, e2⟩ | ⟨k, e, e1, e2, e3, e4⟩
  · exact ⟨fun _ => ⟨e1, e2⟩, fun _ => e⟩
  · refine ⟨fun q => by omega, fun q => ?_⟩
    rcases e4 with e4 | e4 | e4
    · exact absurd (q.2 k e4.1) e4.2.2
    · omega
    · omega
/-- what a sheet tells of the order at an x, a line left out -/
def tlB (s : Sg) (a x w : Int) : Bool := foB (rowN (gtB (lD s) x 1) (thereB (lD s) x 1 w) (s 1 0).toNat) (fun j => s 67 (40 * a.toNat + j)) (cntN (thereB (lD s) x 1 w) (s 1 0).toNat) (s 66 a.toNat).toNat
def tlF (s : Sg) (a x w r : Int) : Prop := FO (rowN (gtB (lD s) x 1) (thereB (lD s) x 1 w) (s 1 0).toNat) (fun j => s 67 (40 * a.toNat + j)) (cntN (thereB (lD s) x 1 w) (s 1 0).toNat) (s 66 a.toNat).toNat r
theorem t_stand {s t : Sg} {a x : Int} {post : Sg → Prop} (hB : Base s) (ha : 0 ≤ a ∧ a < 4) (hS : ScS s t) (hx : 0 ≤ x ∧ x ≤ 40) (h : ∀ u, ScS s u → (∀ w : Int, -1 ≤ w → ∀ post : Int → Prop, (∀ r, tlF s a x w r → post r) → w_X5_firstOtherwise u a w post) → post u) : w_X7_stand t x 1 post := by
  have hLs := Base_LsD hB
  have hn := hLs.1
  refine s_X7_stand hLs (by rw [ScS_1 hS]) (ScS_at hS) ⟨by omega, by omega⟩ fun u ho hR _ => ?_
  have hSu := ScS_st hS ho
  refine h u hSu (fun w hw post hp => ?_)
  have hsh := hB.2.2.2.2.2.2 a.toNat (by omega)
  have u66 : u 66 a.toNat = ((s 66 a.toNat).toNat : Int) := by
    rw [hSu.1 66 (by omega) (by omega) (by omega) (by omega) (by omega)]
    omega
  have u67 : u 67 = s 67 := hSu.1 67 (by omega) (by omega) (by omega) (by omega) (by omega)
  have hle := cntN_le (thereB (lD s) x 1 (-1)) (s 1 0).toNat
  rcases Int.lt_or_le w 0 with c | c
  · have hw1 : w = -1 := by omega
    subst hw1
    refine s_X5_first (p := cntN (thereB (lD s) x 1 (-1)) (s 1 0).toNat) ha hR.1 (by omega) hR.2 u66 (by omega) (fun q => by omega) (fun j hj _ => by omega) fun r hr => hp r ?_
    rw [u67, if_neg (by omega)] at hr
    refine FO_congr (fun j hj => ?_) (fun _ _ => rfl) hr
    unfold delN
    rw [if_pos hj]
  · have ew : ((w.toNat : Nat) : Int) = w := by omega
    rcases row_without (x := x) (xd := 1) (w := w.toNat) hLs with ⟨k1, k2, k3⟩ | ⟨p, k1, k2, k3, k4, k5⟩
    · rw [ew] at k1 k3
      refine s_X5_first (p := cntN (thereB (lD s) x 1 (-1)) (s 1 0).toNat) ha hR.1 (by omega) hR.2 u66 (by omega) (fun q => by omega) (fun j hj _ => by have := k2 j hj; omega) fun r hr => hp r ?_
      rw [u67, if_neg (by omega)] at hr
      unfold tlF
      rw [k1, k3]
      refine FO_congr (fun j hj => ?_) (fun _ _ => rfl) hr
      unfold delN
      rw [if_pos hj]
    · rw [ew] at k4 k5
      refine s_X5_first (p := p) ha hR.1 (by omega) hR.2 u66 (by omega) (fun q => by omega) (fun j hj hne => by have := k3 j hj hne; omega) fun r hr => hp r ?_
      rw [u67, if_pos k1] at hr
      unfold tlF
      have ek : cntN (thereB (lD s) x 1 (-1)) (s 1 0).toNat - 1 = cntN (thereB (lD s) x 1 w) (s 1 0).toNat := by omega
      rw [ek] at hr
      exact FO_congr (fun j hj => (k5 j hj).symm) (fun _ _ => rfl) hr
theorem t_otherwise {s t : Sg} {a x w : Int} {post : Int → Sg → Prop} (hB : Base s) (ha : 0 ≤ a ∧ a < 4) (hS : ScS s t) (hx : 0 ≤ x ∧ x ≤ 40) (h : ∀ r u, ScS s u → tlF s a x w r → post r u) : w_X10_otherwise t a x w post := by
  have hLs := Base_LsD hB
  have hsh := hB.2.2.2.2.2.2 a.toNat (by omega)
  refine s_X10_otherwise (len := (s 66 a.toNat).toNat) hLs (by rw [hS.2 0 (by omega)]; exact hB.1) (ScS_at2 hB hS) hx ha ?_ (by omega) fun r u h1 h2 h3 => h r u (ScS_to hS h1 h2) ?_
  · rw [hS.1 185 (by omega) (by omega) (by omega) (by omega) (by omega), ← hsh.2.2.1]
    omega
  · refine FO_congr (fun _ _ => rfl) (fun j hj => ?_) h3
    rw [hS.1 (187 + a.toNat) (by omega) (by omega) (by omega) (by omega) (by omega)]
    exact (hsh.2.2.2.2 j (by omega)).symm
def FstX (B : Nat → Bool) (n : Nat) (r : Int) : Prop := (r = -1 ∧ ∀ x, x < n → ¬ B x = true) ∨ ∃ k : Nat, k < n ∧ r = (k : Int) ∧ B k = true ∧ ∀ x, x < k → ¬ B x = true
theorem FstX_one {B : Nat → Bool} {n : Nat} {r r' : Int} (h : FstX B n r) (h' : FstX B n r') : r = r' := by
  rcases h with ⟨e, e1⟩ | ⟨k, e, e1, e2, e3⟩
  · rcases h' with ⟨d, d1⟩ | ⟨l, d, d1, d2, d3⟩
    · omega
    · exact absurd d2 (e1 l d)
  · rcases h' with ⟨d, d1⟩ | ⟨l, d, d1, d2, d3⟩
    · exact absurd e2 (d1 k e)
    · rcases Nat.lt_trichotomy k l with c | c | c
      · exact absurd e2 (d3 k c)
      · omega
      · exact absurd d2 (e3 l c)
theorem cntN_0 {B : Nat → Bool} {n : Nat} : cntN B n = 0 ↔ ∀ x, x < n → ¬ B x = true := by
  induction n with
  | zero => exact ⟨fun _ x hx => absurd hx (Nat.not_lt_zero _), fun _ => rfl⟩
  | succ n ih =>
    rw [cntN_s]
    by_cases c : B n = true
    · rw [if_pos c]
      exact ⟨fun q => by omega, fun q => absurd c (q n (by omega))⟩
    · rw [if_neg c, ih]
      refine ⟨fun q x hx => ?_, fun q x hx => q x (by omega)⟩
      by_cases e : x = n
      · subst e; exact c
      · exact q x (by omega)
theorem s_X9_toldXs {s : Sg} {a b : Int} {post : Int → Sg → Prop} (hB : Base s) (ha : 0 ≤ a ∧ a < 4) (hp : ∀ r u, ScS s u → (b ≠ 0 → r = (cntN (fun x => tlB s a (x : Int) (-1)) 41 : Int)) → (b = 0 → FstX (fun x => tlB s a (x : Int) (-1)) 41 r) → post r u) : w_X9_toldXs s a b post := by
  unfold w_X9_toldXs
  refine lr_2s (fun v x t => ∃ x' : Nat, x = (x' : Int) ∧ x' ≤ 41 ∧ ScS s t ∧ (b ≠ 0 → v = (cntN (fun x => tlB s a (x : Int) (-1)) x' : Int)) ∧ (b = 0 → ∀ y, y < x' → ¬ tlB s a (y : Int) (-1) = true)) (fun _ x _ => (41 - x).toNat) ?_ _ _ _ ⟨0, rfl, by omega, ScS_rfl s, fun _ => rfl, fun _ y hy => absurd hy (Nat.not_lt_zero _)⟩
  rintro again v _ t ⟨x, rfl, hx, hS, h1, h2⟩ ih
  have b1 : ok32 ((x : Int) + 1) := ⟨by omega, by omega⟩
  have b2 : (x : Int) + 1 = ((x + 1 : Nat) : Int) := by omega
  have hcl := cntN_le (fun x => tlB s a (x : Int) (-1)) x
  unfold jn
  refine ⟨fun c => ?_, fun c => ?_⟩
  · have e : x = 41 := by omega
    subst e
    exact ⟨fun q => hp _ t hS (fun n => absurd q n) (fun _ => Or.inl ⟨rfl, h2 q⟩), fun q => hp _ t hS h1 (fun n => absurd n q)⟩
  · refine t_stand hB ha hS (by omega) fun u hSu hfo => hfo (-1) (by omega) _ fun r hr => ?_
    have hrB := FO_B hr
    have hB1 : tlB s a (x : Int) (-1) = true ↔ r = -1 := hrB.symm
    refine ⟨fun q w ew => ?_, fun q => ⟨fun q2 w ew w2 ew2 => ?_, fun q2 => hp _ u hSu (fun n => absurd q2 n) (fun _ => Or.inr ⟨x, by omega, rfl, hB1.mpr q, h2 q2⟩)⟩⟩
    · rw [ew, w32_id b1, b2]
      clear ew
      refine ih _ _ _ ⟨x + 1, rfl, by omega, hSu, fun n => ?_, fun n y hy => ?_⟩ (by omega)
      · rw [cntN_s, if_neg (fun z => q (hB1.mp z))]
        exact h1 n
      · by_cases e : y = x
        · subst e; exact fun z => q (hB1.mp z)
        · exact h2 n y (by omega)
    · have hv := h1 q2
      have c1 : ok32 (v + 1) := ⟨by omega, by omega⟩
      rw [ew2, ew, w32_id b1, b2, w32_id c1]
      clear ew ew2
      refine ih _ _ _ ⟨x + 1, rfl, by omega, hSu, fun n => ?_, fun n => absurd n q2⟩ (by omega)
      rw [cntN_s, if_pos (hB1.mpr q), hv]
      omega
theorem s_X9_toldWithout {s : Sg} {a x : Int} {post : Int → Sg → Prop} (hB : Base s) (ha : 0 ≤ a ∧ a < 4) (hx : 0 ≤ x ∧ x ≤ 40) (hp : ∀ u, ScS s u → post (bitsOf (fun i => tlB s a x (i : Int)) (s 1 0).toNat) u) : w_X9_toldWithout s a x post := by
  unfold w_X9_toldWithout
  have hn := (Base_LsD hB).1
  refine t_stand hB ha (ScS_rfl s) hx fun u hSu hfo => ?_
  rw [ScS_1 hSu]
  refine lr_2 (fun v i => ∃ i' : Nat, i = (i' : Int) ∧ i' ≤ (s 1 0).toNat ∧ v = bitsOf (fun i => tlB s a x (i : Int)) i') (fun _ i => (s 1 0 - i).toNat) ?_ _ _ ⟨0, rfl, by omega, rfl⟩
  rintro again _ _ ⟨i, rfl, hi, rfl⟩ ih
  have b1 : ok32 ((i : Int) + 1) := ⟨by omega, by omega⟩
  have b2 : (i : Int) + 1 = ((i + 1 : Nat) : Int) := by omega
  refine ⟨fun c => ?_, fun c => hfo _ (by omega) _ fun r hr => ?_⟩
  · have e : i = (s 1 0).toNat := by omega
    subst e
    exact hp u hSu
  · have hB1 : tlB s a x (i : Int) = true ↔ r = -1 := (FO_B hr).symm
    unfold jn
    refine ⟨fun q w ew => ?_, fun q w ew w2 ew2 => ?_⟩
    · rw [ew, w32_id b1, b2]
      clear ew
      refine ih _ _ ⟨i + 1, rfl, by omega, ?_⟩ (by omega)
      rw [bitsOf_s, if_neg (fun z => q (hB1.mp z))]
    · rw [ew2, ew, w32_id b1, b2]
      clear ew ew2
      refine ih _ _ ⟨i + 1, rfl, by omega, ?_⟩ (by omega)
      rw [bitsOf_s, if_pos (hB1.mpr q)]
