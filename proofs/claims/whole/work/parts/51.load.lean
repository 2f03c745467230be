/-! load -/
def put4 (D : Nat → Nat → Int) (i : Nat) (x y u v : Int) : Nat → Nat → Int := fun f j => if j = i then (if x < u ∨ (x = u ∧ y < v) then (if f = 0 then x else if f = 1 then y else if f = 2 then u else v) else (if f = 0 then u else if f = 1 then v else if f = 2 then x else y)) else D f j
def okE (x y u v : Int) : Bool := decide ((0 ≤ x ∧ x ≤ 40) ∧ (0 ≤ y ∧ y ≤ 40) ∧ (0 ≤ u ∧ u ≤ 40) ∧ (0 ≤ v ∧ v ≤ 40) ∧ ¬ (x = u ∧ y = v))
theorem layS_put {s : Sg} {c i : Nat} {D : Nat → Nat → Int} {x y u v : Int} (h : LnAt s c (i : Int) D) : LnAt (layS s c i x y u v) c ((i : Int) + 1) (put4 D i x y u v) := by
  intro k hk
  by_cases e : k = i
  · subst e
    unfold layS put4
    by_cases q : x < u ∨ (x = u ∧ y < v)
    · simp [q, up_apply]
    · simp [q, up_apply]
  · rw [layS_i e, layS_i e, layS_i e, layS_i e]
    unfold put4
    simp only [if_neg e]
    exact h k (by omega)
theorem put4_ok {D : Nat → Nat → Int} {i : Nat} {x y u v : Int} (h : LsD D (i : Int)) (hi : i < 10) (he : okE x y u v = true) : LsD (put4 D i x y u v) ((i : Int) + 1) := by
  unfold okE at he
  rw [decide_eq_true_iff] at he
  refine ⟨by omega, fun k hk => ?_⟩
  unfold put4
  by_cases e : k = i
  · subst e
    by_cases q : x < u ∨ (x = u ∧ y < v)
    · simp [q]
      unfold LnB
      omega
    · simp [q]
      unfold LnB
      omega
  · simp only [if_neg e]
    exact h.2 k (by omega)
theorem LsD_congr {D E : Nat → Nat → Int} {n : Int} (h : LsD D n) (e : ∀ i : Nat, (i : Int) < n → ∀ f, E f i = D f i) : LsD E n := by
  refine ⟨h.1, fun i hi => ?_⟩
  rw [e i hi 0, e i hi 1, e i hi 2, e i hi 3]
  exact h.2 i hi
/-- how many lines, which, and how many came, after k of a row of items -/
def stL (n0 : Nat) (D0 : Nat → Nat → Int) (it : Nat → Int) : Nat → Nat × (Nat → Nat → Int) × Nat
  | 0 => (n0, D0, 0)
  | k + 1 => if okE (it (4 * k)) (it (4 * k + 1)) (it (4 * k + 2)) (it (4 * k + 3)) = true ∧ (stL n0 D0 it k).1 < 10 then ((stL n0 D0 it k).1 + 1, put4 (stL n0 D0 it k).2.1 (stL n0 D0 it k).1 (it (4 * k)) (it (4 * k + 1)) (it (4 * k + 2)) (it (4 * k + 3)), (stL n0 D0 it k).2.2 + 1) else stL n0 D0 it k
theorem stL_s (n0 : Nat) (D0 : Nat → Nat → Int) (it : Nat → Int) (k : Nat) : stL n0 D0 it (k + 1) = if okE (it (4 * k)) (it (4 * k + 1)) (it (4 * k + 2)) (it (4 * k + 3)) = true ∧ (stL n0 D0 it k).1 < 10 then ((stL n0 D0 it k).1 + 1, put4 (stL n0 D0 it k).2.1 (stL n0 D0 it k).1 (it (4 * k)) (it (4 * k + 1)) (it (4 * k + 2)) (it (4 * k + 3)), (stL n0 D0 it k).2.2 + 1) else stL n0 D0 it k := rfl
/-- one line of a load, on the side of the class -/
theorem s_X9_lineP {s : Sg} {n : Nat} {D : Nat → Nat → Int} {x y u v : Int} {post : Int → Sg → Prop} (h : LsD D (n : Int)) (hn : s 1 0 = (n : Int)) (hat : LnAt s 2 (n : Int) D)
    (h1 : okE x y u v = true → n < 10 → ∀ t, t 1 0 = (n : Int) + 1 → LnAt t 2 ((n : Int) + 1) (put4 D n x y u v) → (∀ c, 6 ≤ c → t c = s c) → t 0 12 = s 0 12 → (t 0 13 = 0 ∧ t 0 14 = 0 ∧ t 0 15 = 0) → post (n : Int) t)
    (h2 : ¬ (okE x y u v = true ∧ n < 10) → ∀ r, r < 0 → post r s) : w_X9_line s x y u v post := by
  have hb := h.1
  have ho : okE x y u v = true ↔ ((0 ≤ x ∧ x ≤ 40) ∧ (0 ≤ y ∧ y ≤ 40) ∧ (0 ≤ u ∧ u ≤ 40) ∧ (0 ≤ v ∧ v ≤ 40) ∧ ¬ (x = u ∧ y = v)) := by unfold okE; exact decide_eq_true_iff
  refine s_X9_line (by omega) ⟨fun g gn => ?_, fun g gn => h2 (fun z => by omega) _ (by omega), fun g => h2 (fun z => g (ho.mp z.1)) _ (by omega)⟩
  rw [hn, Int.toNat_natCast]
  have e1 : (up (fgt s) 1 0 ((n : Int) + 1)) 1 0 = (n : Int) + 1 := by rw [up_apply]; simp
  refine h1 (ho.mpr g) (by omega) _ (by rw [layS_ne (by omega)]; exact e1) (layS_put (fun k hk => ?_)) (fun c hc => by rw [layS_ne (by omega), up_ne _ _ _ (by omega), fgt_ne _ (by omega)]) ?_ ?_
  · rw [up_ne _ _ _ (by omega), up_ne _ _ _ (by omega), up_ne _ _ _ (by omega), up_ne _ _ _ (by omega), fgt_ne _ (by omega), fgt_ne _ (by omega), fgt_ne _ (by omega), fgt_ne _ (by omega)]
    exact hat k hk
  · rw [layS_ne (by omega), up_ne _ _ _ (by omega)]; exact (fgt_0 s).1
  · rw [layS_ne (by omega), up_ne _ _ _ (by omega)]; exact (fgt_0 s).2
theorem s_X10_lineP {s : Sg} {n : Nat} {D : Nat → Nat → Int} {x y u v : Int} {post : Int → Sg → Prop} (h : LsD D (n : Int)) (hn : s 68 0 = (n : Int)) (hat : LnAt s 69 (n : Int) D)
    (h1 : okE x y u v = true → n < 10 → ∀ t, t 68 0 = (n : Int) + 1 → LnAt t 69 ((n : Int) + 1) (put4 D n x y u v) → (∀ c, (c < 68 ∨ 73 ≤ c) → t c = s c) → (∀ o, o ≠ 0 → t 68 o = s 68 o) → post (n : Int) t)
    (h2 : ¬ (okE x y u v = true ∧ n < 10) → ∀ r, r < 0 → post r s) : w_X10_line s x y u v post := by
  have hb := h.1
  have ho : okE x y u v = true ↔ ((0 ≤ x ∧ x ≤ 40) ∧ (0 ≤ y ∧ y ≤ 40) ∧ (0 ≤ u ∧ u ≤ 40) ∧ (0 ≤ v ∧ v ≤ 40) ∧ ¬ (x = u ∧ y = v)) := by unfold okE; exact decide_eq_true_iff
  refine s_X10_line (by omega) ⟨fun g gn => ?_, fun g gn => h2 (fun z => by omega) _ (by omega), fun g => h2 (fun z => g (ho.mp z.1)) _ (by omega)⟩
  rw [hn, Int.toNat_natCast]
  refine h1 (ho.mpr g) (by omega) _ (by rw [up_apply]; simp) (fun k hk => ?_) (fun c hc => by rw [up_ne _ _ _ (by omega), layS_ne (by omega)]) (fun o ho => by rw [up_apply, layS_ne (by omega)]; simp [ho])
  rw [up_ne _ _ _ (by omega), up_ne _ _ _ (by omega), up_ne _ _ _ (by omega), up_ne _ _ _ (by omega)]
  exact layS_put hat k hk
theorem s_item {s : Sg} {a i : Int} {post : Int → Prop} (ha : 0 ≤ a ∧ a < 4) (hi : 0 ≤ i ∧ i < 40) (h : post (s 67 (40 * a.toNat + i.toNat))) : w_X5_item s a i post := by
  unfold w_X5_item
  rw [w32_id (show ok32 (a * 40) from ⟨by omega, by omega⟩), w32_id (show ok32 (a * 40 + i) from ⟨by omega, by omega⟩)]
  have e : (a * 40 + i).toNat = 40 * a.toNat + i.toNat := by omega
  rw [e]
  exact ⟨by omega, h⟩
theorem T_load {s : Sg} {a q f m : Int} (hB : Base s) (of : ok32 f) : w_X9_load s a q f m (fun r1 s1 => w_X10_load s1 a q f m (fun r2 s2 => r1 = r2 ∧ Base s2 ∧ Keep s s2)) := by
  have fin : ∀ r : Int, r = r ∧ Base s ∧ Keep s s := fun r => ⟨rfl, hB, Keep_rfl s⟩
  have bad : ¬ ((0 ≤ a ∧ a < 4) ∧ (q = 0 ∨ q = 1) ∧ (0 ≤ m ∧ m ≤ 5)) → w_X10_load s a q f m (fun r2 s2 => -2 = r2 ∧ Base s2 ∧ Keep s s2) := by
    intro hno
    unfold w_X10_load jn
    refine s_X10_isSheet fun r1 e1 => ⟨fun _ => fin _, fun q1 => s_X10_in fun r3 e3 => ⟨fun _ => fin _, fun q3 => s_X10_in fun r4 e4 => ⟨fun q4 => absurd ⟨?_, ?_, ?_⟩ hno, fun _ => fin _⟩⟩⟩
    · rcases e1 with e | e <;> omega
    · rcases e3 with e | e <;> omega
    · rcases e4 with e | e <;> omega
  unfold w_X9_load jn
  refine s_X5_isOne fun r1 e1 => ⟨fun z => bad (by rcases e1 with e | e <;> omega), fun z1 => s_X5_isSort fun r3 e3 => ⟨fun z => bad (by rcases e3 with e | e <;> omega), fun z3 => ⟨fun z => bad (by omega), fun z4 => ⟨fun z5 => ?_, fun z => bad (by omega)⟩⟩⟩⟩
  have ha : 0 ≤ a ∧ a < 4 := by rcases e1 with e | e <;> omega
  have hq : q = 0 ∨ q = 1 := by rcases e3 with e | e <;> omega
  have hm : 0 ≤ m ∧ m ≤ 5 := by omega
  have hsh := hB.2.2.2.2.2.2 a.toNat (by omega)
  -- the reference's way to its loop
  have ref : ∀ r1 t, (∀ c, 6 ≤ c → t c = s c) → (s 65 a.toNat = -1 → r1 = -11 ∧ t = s) → (s 65 a.toNat ≠ -1 → s 65 a.toNat ≠ q → r1 = -13 ∧ t = s) →
      (s 65 a.toNat = q → lp_2s (fun (again_11 : Int → Int → Sg → Prop) (v5_8 v6_9 : Int) (s_10 : Sg) => (m ≤ v6_9 → r1 = v5_8 ∧ Base s_10 ∧ Keep s s_10) ∧ (¬ m ≤ v6_9 → ∀ v7_12, v7_12 = w32 (f + (w32 (4 * v6_9))) → ((0 ≤ a ∧ a < 4) ∧ (w_X10_in v7_12 0 (w32 ((s_10 185 a.toNat) - 4)) (fun r_14 => (¬ r_14 = 0 → (0 ≤ a ∧ a < 4) ∧ ((0 ≤ v7_12 ∧ v7_12 < 40) ∧ ((0 ≤ a ∧ a < 4) ∧ ((0 ≤ w32 (v7_12 + 1) ∧ w32 (v7_12 + 1) < 40) ∧ ((0 ≤ a ∧ a < 4) ∧ ((0 ≤ w32 (v7_12 + 2) ∧ w32 (v7_12 + 2) < 40) ∧ ((0 ≤ a ∧ a < 4) ∧ ((0 ≤ w32 (v7_12 + 3) ∧ w32 (v7_12 + 3) < 40) ∧ (w_X10_line s_10 (s_10 (187 + a.toNat) v7_12.toNat) (s_10 (187 + a.toNat) (w32 (v7_12 + 1)).toNat) (s_10 (187 + a.toNat) (w32 (v7_12 + 2)).toNat) (s_10 (187 + a.toNat) (w32 (v7_12 + 3)).toNat) (fun r_23 s_24 => (r_23 < 0 → ∀ v6_27, v6_27 = w32 (v6_9 + 1) → (again_11 v5_8 v6_27 s_24)) ∧ (¬ r_23 < 0 → ∀ v5_28, v5_28 = w32 (v5_8 + 1) → ∀ v6_27, v6_27 = w32 (v6_9 + 1) → (again_11 v5_28 v6_27 s_24)))))))))))) ∧ (r_14 = 0 → r1 = -12 ∧ Base s_10 ∧ Keep s s_10)))))) 0 0 t) → w_X10_load t a q f m (fun r2 s2 => r1 = r2 ∧ Base s2 ∧ Keep s s2) := by
    intro r1 t hf g1 g2 g3
    unfold w_X10_load jn
    refine s_X10_isSheet fun p1 e1 => ⟨fun z => by rcases e1 with e | e <;> omega, fun _ => s_X10_in fun p3 e3 => ⟨fun z => by rcases e3 with e | e <;> omega, fun _ => s_X10_in fun p4 e4 => ⟨fun _ => ⟨ha, ?_⟩, fun z => by rcases e4 with e | e <;> omega⟩⟩⟩
    rw [hf 184 (by omega), ← hsh.1]
    refine ⟨fun z => ⟨ha, ⟨fun z2 => by omega, fun z2 => ?_⟩⟩, fun z => ⟨ha, ⟨fun z2 => ⟨ha, ⟨fun _ => g3 z2, fun z3 => absurd (by omega) z⟩⟩, fun z2 => ?_⟩⟩⟩
    · obtain ⟨x1, x2⟩ := g1 (by omega)
      rw [x1, x2]
      exact fin _
    · obtain ⟨x1, x2⟩ := g2 (by omega) z2
      rw [x1, x2]
      exact fin _
  refine s_X5_isMissing ha fun r4 e4 => ⟨fun z6 => ⟨ha, ⟨fun z7 => ?_, fun z7 => ref _ s (fun _ _ => rfl) (fun z => by rcases e4 with e | e <;> omega) (fun _ _ => ⟨rfl, rfl⟩) (fun z => absurd z z7)⟩⟩, fun z6 => ref _ s (fun _ _ => rfl) (fun _ => ⟨rfl, rfl⟩) (fun z => by rcases e4 with e | e <;> omega) (fun z => by rcases e4 with e | e <;> omega)⟩
  have hLs := Base_LsD hB
  generalize hit : (fun j : Nat => s 67 (40 * a.toNat + (f.toNat + j))) = it
  generalize hS : stL (s 1 0).toNat (lD s) it = S
  have en : (((s 1 0).toNat : Nat) : Int) = s 1 0 := by have := hLs.1; omega
  have hL0 : ∀ k, LsD (S k).2.1 ((S k).1 : Int) ∧ (S k).2.2 ≤ k := by
    intro k
    induction k with
    | zero =>
      rw [← hS]
      refine ⟨?_, Nat.le_refl _⟩
      show LsD (lD s) (((s 1 0).toNat : Nat) : Int)
      rw [en]
      exact hLs
    | succ k ih =>
      rw [← hS] at ih ⊢
      rw [stL_s]
      by_cases c : okE (it (4 * k)) (it (4 * k + 1)) (it (4 * k + 2)) (it (4 * k + 3)) = true ∧ (stL (s 1 0).toNat (lD s) it k).1 < 10
      · rw [if_pos c]
        refine ⟨?_, by dsimp only; omega⟩
        have := put4_ok ih.1 c.2 c.1
        show LsD _ (((stL (s 1 0).toNat (lD s) it k).1 + 1 : Nat) : Int)
        rw [Int.natCast_add]
        exact this
      · rw [if_neg c]
        exact ⟨ih.1, by omega⟩
  have hS0 : S 0 = ((s 1 0).toNat, lD s, 0) := by rw [← hS]; rfl
  have hSs : ∀ k, (okE (it (4 * k)) (it (4 * k + 1)) (it (4 * k + 2)) (it (4 * k + 3)) = true → (S k).1 < 10 → S (k + 1) = ((S k).1 + 1, put4 (S k).2.1 (S k).1 (it (4 * k)) (it (4 * k + 1)) (it (4 * k + 2)) (it (4 * k + 3)), (S k).2.2 + 1)) ∧ (¬ (okE (it (4 * k)) (it (4 * k + 1)) (it (4 * k + 2)) (it (4 * k + 3)) = true ∧ (S k).1 < 10) → S (k + 1) = S k) := by
    intro k
    rw [← hS]
    exact ⟨fun c1 c2 => if_pos ⟨c1, c2⟩, fun c => if_neg c⟩
  clear hS
  have h65 : s 65 a.toNat ≠ -1 := by rcases e4 with e | e <;> omega
  have hs66 := hsh.2.2.2.1
  have hitv : ∀ k i : Nat, 0 ≤ f → s 67 (40 * a.toNat + (f + 4 * (k : Int) + (i : Int)).toNat) = it (4 * k + i) := by
    intro k i hf
    rw [← hit]
    dsimp only
    congr 1
    omega
  have hitm : ∀ k i : Nat, 0 ≤ f → f + 4 * (k : Int) + (i : Int) < s 66 a.toNat → s (187 + a.toNat) (f + 4 * (k : Int) + (i : Int)).toNat = it (4 * k + i) := by
    intro k i hf hl
    rw [← hitv k i hf]
    exact (hsh.2.2.2.2 _ (by omega)).symm
  -- both loops, one after the other
  have refL : ∀ (K : Nat) (t : Sg) (r1 : Int), (K : Int) ≤ m → t 1 0 = ((S K).1 : Int) → LnAt t 2 ((S K).1 : Int) (S K).2.1 → (∀ c, 6 ≤ c → t c = s c) → t 0 12 = s 0 12 → Keep s t → (∀ j : Nat, j < K → 0 ≤ f ∧ f + 4 * ((j : Int) + 1) ≤ s 66 a.toNat) → ((K : Int) = m → r1 = ((S K).2.2 : Int)) → ((K : Int) < m → ¬ (0 ≤ f ∧ f + 4 * ((K : Int) + 1) ≤ s 66 a.toNat) ∧ r1 = -12) → w_X10_load t a q f m (fun r2 s2 => r1 = r2 ∧ Base s2 ∧ Keep s s2) := by
    intro K t r1 hK t1 t2 t6 t12 tK tc g1 g2
    refine ref r1 t t6 (fun z => absurd z h65) (fun _ z => absurd z7 z) (fun _ => ?_)
    refine lr_2s (fun v i u => ∃ k : Nat, i = (k : Int) ∧ k ≤ K ∧ v = ((S k).2.2 : Int) ∧ u 68 0 = ((S k).1 : Int) ∧ LnAt u 69 ((S k).1 : Int) (S k).2.1 ∧ (∀ c, (c < 68 ∨ 73 ≤ c) → u c = t c) ∧ ∀ o, o ≠ 0 → u 68 o = t 68 o) (fun _ i _ => ((K : Int) - i).toNat) ?_ _ _ _ ⟨0, rfl, Nat.zero_le _, by rw [hS0]; rfl, ?_, ?_, fun _ _ => rfl, fun _ _ => rfl⟩
    · rintro again _ _ u ⟨k, rfl, hk, rfl, u0, u1, u2, u3⟩ ih
      have hend : k = K → Base u ∧ Keep s u := by
        intro e
        subst e
        have u10 : u 1 0 = ((S k).1 : Int) := by rw [u2 1 (by omega), t1]
        refine ⟨Base_far hB (fun c hc => by rw [u2 c (by omega), t6 c (by omega)]) (by rw [u2 0 (by omega), t12]) (by rw [u3 43 (by omega), t6 68 (by omega)]) (by rw [u0, u10]) ?_ ?_, ?_⟩
        · rw [u10]
          have hl := (hL0 k).1
          refine ⟨hl.1.1, hl.1.2, fun j hj => ?_⟩
          obtain ⟨⟨l1, l2, l3, l4⟩, l5⟩ := hl.2 j hj
          obtain ⟨d1, d2, d3, d4⟩ := t2 j hj
          rw [u2 2 (by omega), u2 (2 + 1) (by omega), u2 (2 + 2) (by omega), u2 (2 + 3) (by omega), d1, d2, d3, d4]
          exact ⟨l1, l2, l3, l4, l5⟩
        · rw [u10]
          intro j hj
          obtain ⟨d1, d2, d3, d4⟩ := t2 j hj
          obtain ⟨f1, f2, f3, f4⟩ := u1 j hj
          rw [u2 2 (by omega), u2 (2 + 1) (by omega), u2 (2 + 2) (by omega), u2 (2 + 3) (by omega), d1, d2, d3, d4, f1, f2, f3, f4]
          exact ⟨rfl, rfl, rfl, rfl⟩
        · rcases tK with ⟨k1, k2, k3, k4⟩ | ⟨k1, k2, k3⟩
          · exact Or.inl ⟨fun c hc => by rw [u2 c (by unfold kc at hc; omega), k1 c hc], by rw [u2 0 (by omega), k2], by rw [u2 0 (by omega), k3], by rw [u2 0 (by omega), k4]⟩
          · exact Or.inr ⟨by rw [u2 0 (by omega), k1], by rw [u2 0 (by omega), k2], by rw [u2 0 (by omega), k3]⟩
      have u185 : u 185 a.toNat = s 66 a.toNat := by rw [u2 185 (by omega), t6 185 (by omega)]; exact hsh.2.2.1.symm
      have u187 : u (187 + a.toNat) = s (187 + a.toNat) := by rw [u2 _ (by omega), t6 _ (by omega)]
      rw [u185, u187]
      refine ⟨fun z => ?_, fun z v7 ev7 => ⟨ha, ?_⟩⟩
      · have e : k = K := by omega
        subst e
        exact ⟨g1 (by omega), hend rfl⟩
      · rw [w32_id (show ok32 (4 * (k : Int)) from ⟨by omega, by omega⟩)] at ev7
        rw [w32_id (show ok32 (s 66 a.toNat - 4) from ⟨by omega, by omega⟩)]
        by_cases hkK : k < K
        · have hc := tc k hkK
          rw [w32_id (show ok32 (f + 4 * (k : Int)) from ⟨by omega, by omega⟩)] at ev7
          have i0 := hitm k 0 hc.1 (by omega)
          have i1 := hitm k 1 hc.1 (by omega)
          have i2 := hitm k 2 hc.1 (by omega)
          have i3 := hitm k 3 hc.1 (by omega)
          have c0 : f + 4 * (k : Int) + ((0 : Nat) : Int) = f + 4 * (k : Int) := by omega
          rw [c0] at i0
          subst ev7
          refine s_X10_in fun r14 e14 => ⟨fun _ => ?_, fun y => by rcases e14 with e | e <;> omega⟩
          have n1 : w32 (f + 4 * (k : Int) + 1) = f + 4 * (k : Int) + ((1 : Nat) : Int) := w32_id ⟨by omega, by omega⟩
          have n2 : w32 (f + 4 * (k : Int) + 2) = f + 4 * (k : Int) + ((2 : Nat) : Int) := w32_id ⟨by omega, by omega⟩
          have n3 : w32 (f + 4 * (k : Int) + 3) = f + 4 * (k : Int) + ((3 : Nat) : Int) := w32_id ⟨by omega, by omega⟩
          rw [n1, n2, n3, i0, i1, i2, i3]
          have b1 : ok32 ((k : Int) + 1) := ⟨by omega, by omega⟩
          have b2 : (k : Int) + 1 = ((k + 1 : Nat) : Int) := by omega
          have b3 : ((K : Int) - ((k + 1 : Nat) : Int)).toNat < ((K : Int) - (k : Int)).toNat := by omega
          have hcb := (hL0 k).2
          have b4 : ok32 (((S k).2.2 : Int) + 1) := ⟨by omega, by omega⟩
          refine ⟨ha, by omega, ha, by omega, ha, by omega, ha, by omega, ?_⟩
          refine s_X10_lineP (hL0 k).1 u0 u1 (fun c1 c2 t' q1 q2 q3 q4 => ⟨fun y => by omega, fun _ v5 ev5 v6 ev6 => ?_⟩) (fun c r hr => ⟨fun _ v6 ev6 => ?_, fun y => absurd hr y⟩)
          · rw [ev5, ev6, w32_id b1, b2, w32_id b4]
            have es := (hSs k).1 c1 c2
            refine ih _ _ _ ⟨k + 1, rfl, by omega, by rw [es]; rfl, by rw [q1, es]; rfl, by rw [es]; exact q2, fun c hcc => by rw [q3 c hcc, u2 c hcc], fun o ho => by rw [q4 o ho, u3 o ho]⟩ b3
          · rw [ev6, w32_id b1, b2]
            have es := (hSs k).2 c
            refine ih _ _ _ ⟨k + 1, rfl, by omega, by rw [es], by rw [es]; exact u0, by rw [es]; exact u1, u2, u3⟩ b3
        · have e : k = K := by omega
          subst e
          obtain ⟨g3, g4⟩ := g2 (by omega)
          have hout : ¬ (0 ≤ v7 ∧ v7 ≤ s 66 a.toNat - 4) := by
            intro y
            by_cases kz : k = 0
            · subst kz
              rw [w32_id (show ok32 (f + 4 * ((0 : Nat) : Int)) from ⟨by have := of.1; omega, by have := of.2; omega⟩)] at ev7
              omega
            · have := tc (k - 1) (by omega)
              rw [w32_id (show ok32 (f + 4 * (k : Int)) from ⟨by omega, by omega⟩)] at ev7
              omega
          clear ev7
          exact s_X10_in fun r14 e14 => ⟨fun y => by rcases e14 with e | e; exact absurd e.2 hout; exact absurd e.1 y, fun _ => ⟨g4, hend rfl⟩⟩
    · rw [hS0, t6 68 (by omega), hB.1]; exact en.symm
    · rw [hS0]
      intro j hj
      rw [t6 69 (by omega), t6 (69 + 1) (by omega), t6 (69 + 2) (by omega), t6 (69 + 3) (by omega)]
      have hj' : (j : Int) < (((s 1 0).toNat : Nat) : Int) := hj
      exact Base_At2 hB j (by omega)
  refine lr_2s (fun v i t => ∃ k : Nat, i = (k : Int) ∧ (k : Int) ≤ m ∧ v = ((S k).2.2 : Int) ∧ t 1 0 = ((S k).1 : Int) ∧ LnAt t 2 ((S k).1 : Int) (S k).2.1 ∧ (∀ c, 6 ≤ c → t c = s c) ∧ t 0 12 = s 0 12 ∧ Keep s t ∧ (∀ j : Nat, j < k → 0 ≤ f ∧ f + 4 * ((j : Int) + 1) ≤ s 66 a.toNat)) (fun _ i _ => (m - i).toNat) ?_ _ _ _ ⟨0, rfl, by omega, by rw [hS0]; rfl, by rw [hS0]; exact en.symm, ?_, fun _ _ => rfl, rfl, Keep_rfl s, fun j hj => absurd hj (Nat.not_lt_zero _)⟩
  · rintro again _ _ t ⟨k, rfl, hk, rfl, t1, t2, t6, t12, tK, tc⟩ ih
    refine ⟨fun z => refL k t _ hk t1 t2 t6 t12 tK tc (fun _ => rfl) (fun z2 => by omega), fun z => ?_⟩
    have b1 : ok32 ((k : Int) + 1) := ⟨by omega, by omega⟩
    have b2 : (k : Int) + 1 = ((k + 1 : Nat) : Int) := by omega
    have b3 : (m - ((k + 1 : Nat) : Int)).toNat < (m - (k : Int)).toNat := by omega
    have hcb := (hL0 k).2
    have b4 : ok32 (((S k).2.2 : Int) + 1) := ⟨by omega, by omega⟩
    have b5 : ok32 (4 * ((k : Int) + 1)) := ⟨by omega, by omega⟩
    have b6 : ok32 (4 * (k : Int)) := ⟨by omega, by omega⟩
    rw [w32_id b1, w32_id b5, w32_id b6]
    have t66 : t 66 a.toNat = s 66 a.toNat := by rw [t6 66 (by omega)]
    refine s_X5_hasRow ha (by rw [t66]; exact hs66) (by omega) fun r10 e10 => ⟨fun y v7 ev7 => ?_, fun y => refL k t _ hk t1 t2 t6 t12 tK tc (fun z2 => by omega) (fun _ => ⟨fun w => ?_, rfl⟩)⟩
    · have hc : 0 ≤ f ∧ f + 4 * ((k : Int) + 1) ≤ s 66 a.toNat := by
        rw [t66] at e10
        rcases e10 with e | e
        · omega
        · exact absurd e.1 y
      rw [w32_id (show ok32 (f + 4 * (k : Int)) from ⟨by omega, by omega⟩)] at ev7
      subst ev7
      have i0 := hitv k 0 hc.1
      have i1 := hitv k 1 hc.1
      have i2 := hitv k 2 hc.1
      have i3 := hitv k 3 hc.1
      have c0 : f + 4 * (k : Int) + ((0 : Nat) : Int) = f + 4 * (k : Int) := by omega
      rw [c0] at i0
      have n1 : w32 (f + 4 * (k : Int) + 1) = f + 4 * (k : Int) + ((1 : Nat) : Int) := w32_id ⟨by omega, by omega⟩
      have n2 : w32 (f + 4 * (k : Int) + 2) = f + 4 * (k : Int) + ((2 : Nat) : Int) := w32_id ⟨by omega, by omega⟩
      have n3 : w32 (f + 4 * (k : Int) + 3) = f + 4 * (k : Int) + ((3 : Nat) : Int) := w32_id ⟨by omega, by omega⟩
      rw [n1, n2, n3]
      refine s_item ha (by omega) (s_item ha (by omega) (s_item ha (by omega) (s_item ha (by omega) ?_)))
      rw [t6 67 (by omega), i0, i1, i2, i3]
      refine s_X9_lineP (hL0 k).1 t1 t2 (fun c1 c2 t' q1 q2 q3 q4 q5 => ⟨fun y => by omega, fun _ v5 ev5 v6 ev6 => ?_⟩) (fun c r hr => ⟨fun _ v6 ev6 => ?_, fun y => absurd hr y⟩)
      · rw [ev5, ev6, b2, w32_id b4]
        have es := (hSs k).1 c1 c2
        refine ih _ _ _ ⟨k + 1, rfl, by omega, by rw [es]; rfl, by rw [q1, es]; rfl, by rw [es]; exact q2, fun c hcc => by rw [q3 c hcc, t6 c hcc], by rw [q4, t12], Or.inr q5, fun j hj => ?_⟩ b3
        by_cases e : j = k
        · subst e; exact hc
        · exact tc j (by omega)
      · rw [ev6, b2]
        have es := (hSs k).2 c
        refine ih _ _ _ ⟨k + 1, rfl, by omega, by rw [es], by rw [es]; exact t1, by rw [es]; exact t2, t6, t12, tK, fun j hj => ?_⟩ b3
        by_cases e : j = k
        · subst e; exact hc
        · exact tc j (by omega)
    · rw [t66] at e10
      rcases e10 with e | e
      · exact absurd y (by omega)
      · exact e.2 ⟨w.1, by omega⟩
  · rw [hS0]
    intro j hj
    have hj' : (j : Int) < (((s 1 0).toNat : Nat) : Int) := hj
    exact Base_At j (by omega)
