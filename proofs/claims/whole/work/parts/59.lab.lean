/-! what is joined: the least of each class -/
def LabOf (R : Nat → Nat → Prop) (m : Nat) (lab : Nat → Nat) : Prop :=
  (∀ i, i < m → lab i ≤ i) ∧ (∀ a b, a < m → b < m → R a b → lab a = lab b) ∧ ∀ f : Nat → Nat, (∀ a b, a < m → b < m → R a b → f a = f b) → ∀ i, i < m → f (lab i) = f i
theorem Lab_one {R : Nat → Nat → Prop} {m : Nat} {l1 l2 : Nat → Nat} (h1 : LabOf R m l1) (h2 : LabOf R m l2) : ∀ i, i < m → l1 i = l2 i := by
  intro i hi
  have a1 := h1.2.2 l2 h2.2.1 i hi
  have a2 := h2.2.2 l1 h1.2.1 i hi
  have b1 := h1.1 i hi
  have b2 := h2.1 i hi
  have c1 := h2.1 (l1 i) (by omega)
  have c2 := h1.1 (l2 i) (by omega)
  omega
theorem Lab_congr {R R' : Nat → Nat → Prop} {m : Nat} {lab lab' : Nat → Nat} (h : LabOf R m lab) (hR : ∀ a b, a < m → b < m → (R a b ↔ R' a b)) (hl : ∀ i, i < m → lab' i = lab i) : LabOf R' m lab' := by
  refine ⟨fun i hi => by rw [hl i hi]; exact h.1 i hi, fun a b ha hb r => by rw [hl a ha, hl b hb]; exact h.2.1 a b ha hb ((hR a b ha hb).mpr r), fun f hf i hi => ?_⟩
  rw [hl i hi]
  exact h.2.2 f (fun a b ha hb r => hf a b ha hb ((hR a b ha hb).mp r)) i hi
theorem Lab_id {R : Nat → Nat → Prop} {m : Nat} {lab : Nat → Nat} (hR : ∀ a b, a < m → b < m → ¬ R a b) (hl : ∀ i, i < m → lab i = i) : LabOf R m lab :=
  ⟨fun i hi => by rw [hl i hi]; exact Nat.le_refl _, fun a b ha hb r => absurd r (hR a b ha hb), fun f _ i hi => by rw [hl i hi]⟩
theorem Lab_root {R : Nat → Nat → Prop} {m : Nat} {lab : Nat → Nat} (h : LabOf R m lab) {i : Nat} (hi : i < m) : lab (lab i) = lab i := h.2.2 lab h.2.1 i hi
def mrg (lab : Nat → Nat) (a b : Nat) : Nat → Nat := fun i => if lab i = max (lab a) (lab b) then min (lab a) (lab b) else lab i
theorem Lab_mrg {R : Nat → Nat → Prop} {m : Nat} {lab : Nat → Nat} {a b : Nat} (h : LabOf R m lab) (ha : a < m) (hb : b < m) : LabOf (fun x y => R x y ∨ (x = a ∧ y = b)) m (mrg lab a b) := by
  obtain ⟨h1, h2, h3⟩ := h
  refine ⟨fun i hi => ?_, fun x y hx hy r => ?_, fun f hf i hi => ?_⟩
  · have := h1 i hi
    unfold mrg
    split <;> omega
  · rcases r with r | ⟨rfl, rfl⟩
    · unfold mrg
      rw [h2 x y hx hy r]
    · unfold mrg
      split <;> split <;> omega
  · have f1 := h3 f (fun x y hx hy r => hf x y hx hy (Or.inl r))
    have fab := hf a b ha hb (Or.inr ⟨rfl, rfl⟩)
    have fa := f1 a ha
    have fb := f1 b hb
    have fi := f1 i hi
    unfold mrg
    split
    · rename_i c
      rcases Nat.le_total (lab a) (lab b) with q | q
      · rw [Nat.min_eq_left q, fa, fab, ← fb, ← fi, c, Nat.max_eq_right q]
      · rw [Nat.min_eq_right q, fb, ← fab, ← fa, ← fi, c, Nat.max_eq_left q]
    · exact fi
theorem Lab_cnt {R : Nat → Nat → Prop} {m : Nat} {lab : Nat → Nat} {a b : Nat} (h : LabOf R m lab) (ha : a < m) (hb : b < m) : cntN (fun i => mrg lab a b i == i) m + (if lab a = lab b then 0 else 1) = cntN (fun i => lab i == i) m := by
  by_cases c : lab a = lab b
  · rw [if_pos c, Nat.add_zero]
    refine cnt_congr (fun i _ => ?_)
    unfold mrg
    rw [c, Nat.max_self, Nat.min_self]
    split
    · rename_i e; rw [e]
    · rfl
  · rw [if_neg c]
    have ra := Lab_root h ha
    have rb := Lab_root h hb
    have la := h.1 a ha
    have lb := h.1 b hb
    have e : cntN (fun i => lab i == i) m = cntN (fun i => (mrg lab a b i == i) || (i == max (lab a) (lab b))) m := by
      refine cnt_congr (fun i hi => ?_)
      rw [Bool.eq_iff_iff, Bool.or_eq_true, beq_iff_eq, beq_iff_eq, beq_iff_eq]
      have li := h.1 i hi
      unfold mrg
      refine ⟨fun q => ?_, fun q => ?_⟩
      · by_cases d : lab i = max (lab a) (lab b)
        · exact Or.inr (by omega)
        · rw [if_neg d]; exact Or.inl q
      · rcases q with q | q
        · split at q <;> omega
        · rcases Nat.le_total (lab a) (lab b) with z | z
          · rw [Nat.max_eq_right z] at q
            rw [q, rb]
          · rw [Nat.max_eq_left z] at q
            rw [q, ra]
    rw [e, cnt_or]
    · congr 1
      rw [cnt_sm, sm_one (k := max (lab a) (lab b)) (by omega) (fun i _ hne => ind_f (by simp [hne]))]
      simp [ind]
    · intro i hi q1 q2
      rw [beq_iff_eq] at q1 q2
      have li := h.1 i hi
      unfold mrg at q1
      split at q1
      · omega
      · rename_i d
        apply d
        rcases Nat.le_total (lab a) (lab b) with z | z
        · rw [Nat.max_eq_right z] at q2 ⊢
          rw [q2, rb]
        · rw [Nat.max_eq_left z] at q2 ⊢
          rw [q2, ra]
/-- as many classes here as there, among what is present there -/
theorem Lab_cls {R1 R2 : Nat → Nat → Prop} {m1 m2 : Nat} {l1 l2 : Nat → Nat} {P : Nat → Bool} (F G : Nat → Nat) (h1 : LabOf R1 m1 l1) (h2 : LabOf R2 m2 l2) (hP : ∀ a b, a < m2 → b < m2 → R2 a b → P a = P b)
    (hF : ∀ a, a < m1 → F a < m2 ∧ P (F a) = true) (hG : ∀ b, b < m2 → P b = true → G b < m1)
    (hR1 : ∀ a b, a < m1 → b < m1 → R1 a b → l2 (F a) = l2 (F b)) (hR2 : ∀ a b, a < m2 → b < m2 → R2 a b → P a = true → P b = true → l1 (G a) = l1 (G b))
    (hGF : ∀ a, a < m1 → l1 (G (F a)) = l1 a) (hFG : ∀ b, b < m2 → P b = true → l2 (F (G b)) = l2 b) : cntN (fun i => l1 i == i) m1 = cntN (fun j => P j && l2 j == j) m2 := by
  have kF := h1.2.2 (fun i => l2 (F i)) hR1
  have kP : ∀ j, j < m2 → P (l2 j) = P j := by
    intro j hj
    have := h2.2.2 (fun j => if P j = true then 1 else 0) (fun a b ha hb r => by rw [hP a b ha hb r]) j hj
    try dsimp only at this
    cases c1 : P (l2 j) <;> cases c2 : P j <;> simp [c1, c2] at this ⊢
  have kG : ∀ j, j < m2 → P j = true → l1 (G (l2 j)) = l1 (G j) := by
    intro j hj pj
    have := h2.2.2 (fun j => if P j = true then l1 (G j) else 0) (fun a b ha hb r => by
      try dsimp only
      have e := hP a b ha hb r
      by_cases c : P a = true
      · rw [if_pos c, if_pos (e ▸ c)]
        exact hR2 a b ha hb r c (e ▸ c)
      · rw [if_neg c, if_neg (e ▸ c)]) j hj
    try dsimp only at this
    rw [kP j hj, if_pos pj, if_pos pj] at this
    exact this
  refine cnt_bij (fun i => l2 (F i)) (fun i hi c => ?_) (fun i j hi hj ci cj e => ?_) (fun j hj c => ?_)
  · have f := hF i hi
    have := h2.1 (F i) f.1
    refine ⟨by omega, ?_⟩
    rw [Bool.and_eq_true, beq_iff_eq, kP _ f.1]
    exact ⟨f.2, Lab_root h2 f.1⟩
  · rw [beq_iff_eq] at ci cj
    have fi := hF i hi
    have fj := hF j hj
    have e1 := kG _ fi.1 fi.2
    have e2 := kG _ fj.1 fj.2
    try dsimp only at e
    rw [hGF i hi] at e1
    rw [hGF j hj, ← e, e1] at e2
    omega
  · rw [Bool.and_eq_true, beq_iff_eq] at c
    have g := hG j hj c.1
    have lg := h1.1 _ g
    refine ⟨l1 (G j), by omega, ?_, ?_⟩
    · rw [beq_iff_eq]; exact Lab_root h1 g
    · have := kF (G j) g
      try dsimp only at this ⊢
      rw [this, hFG j hj c.1]
      exact c.2
/-- the root, from one to the next -/
def rtN (p : Nat → Nat) : Nat → Nat → Nat
  | 0, i => i
  | k + 1, i => if p i = i then i else rtN p k (p i)
def rt (p : Nat → Nat) (i : Nat) : Nat := rtN p i i
theorem rtN_s (p : Nat → Nat) (k i : Nat) : rtN p (k + 1) i = if p i = i then i else rtN p k (p i) := rfl
theorem rtN_eq {p : Nat → Nat} {m : Nat} (hp : ∀ i, i < m → p i ≤ i) : ∀ i, i < m → ∀ k, i ≤ k → rtN p k i = rt p i := by
  intro i
  induction i using Nat.strongRecOn with
  | _ i ih =>
    intro hi k hk
    unfold rt
    rcases Nat.eq_zero_or_pos i with z | z
    · subst z
      have h0 : p 0 = 0 := by have := hp 0 hi; omega
      cases k with
      | zero => rfl
      | succ k => rw [rtN_s, if_pos h0]; rfl
    · obtain ⟨i', rfl⟩ : ∃ b, i = b + 1 := ⟨i - 1, by omega⟩
      obtain ⟨k', rfl⟩ : ∃ b, k = b + 1 := ⟨k - 1, by omega⟩
      rw [rtN_s, rtN_s]
      by_cases c : p (i' + 1) = i' + 1
      · rw [if_pos c, if_pos c]
      · rw [if_neg c, if_neg c]
        have := hp (i' + 1) hi
        rw [ih (p (i' + 1)) (by omega) (by omega) k' (by omega), ih (p (i' + 1)) (by omega) (by omega) i' (by omega)]
theorem rt_step {p : Nat → Nat} {m : Nat} (hp : ∀ i, i < m → p i ≤ i) {i : Nat} (hi : i < m) : rt p i = if p i = i then i else rt p (p i) := by
  rw [← rtN_eq hp i hi (i + 1) (by omega), rtN_s]
  by_cases c : p i = i
  · rw [if_pos c, if_pos c]
  · rw [if_neg c, if_neg c]
    have := hp i hi
    exact rtN_eq hp _ (by omega) _ (by omega)
theorem rt_ok {p : Nat → Nat} {m : Nat} (hp : ∀ i, i < m → p i ≤ i) : ∀ i, i < m → rt p i ≤ i ∧ p (rt p i) = rt p i := by
  intro i
  induction i using Nat.strongRecOn with
  | _ i ih =>
    intro hi
    rw [rt_step hp hi]
    by_cases c : p i = i
    · rw [if_pos c]; exact ⟨Nat.le_refl _, c⟩
    · rw [if_neg c]
      have := hp i hi
      have := ih (p i) (by omega) (by omega)
      exact ⟨by omega, this.2⟩
theorem rt_fix {p : Nat → Nat} {m : Nat} (hp : ∀ i, i < m → p i ≤ i) {i : Nat} (hi : i < m) (h : p i = i) : rt p i = i := by
  rw [rt_step hp hi, if_pos h]
theorem rt_rt {p : Nat → Nat} {m : Nat} (hp : ∀ i, i < m → p i ≤ i) {i : Nat} (hi : i < m) : rt p (p i) = rt p i := by
  rw [rt_step hp hi]
  by_cases c : p i = i
  · rw [if_pos c, c, rt_fix hp hi c]
  · rw [if_neg c]
theorem rt_congr {p q : Nat → Nat} {m : Nat} (hp : ∀ i, i < m → p i ≤ i) (h : ∀ i, i < m → q i = p i) : ∀ i, i < m → rt q i = rt p i := by
  have hq : ∀ i, i < m → q i ≤ i := fun i hi => by rw [h i hi]; exact hp i hi
  intro i
  induction i using Nat.strongRecOn with
  | _ i ih =>
    intro hi
    rw [rt_step hp hi, rt_step hq hi, h i hi]
    by_cases c : p i = i
    · rw [if_pos c, if_pos c]
    · rw [if_neg c, if_neg c]
      have := hp i hi
      exact ih _ (by omega) (by omega)
def unP (p : Nat → Nat) (a b : Nat) : Nat → Nat := fun i => if i = max (rt p a) (rt p b) then min (rt p a) (rt p b) else p i
theorem unP_le {p : Nat → Nat} {m a b : Nat} (hp : ∀ i, i < m → p i ≤ i) : ∀ i, i < m → unP p a b i ≤ i := by
  intro i hi
  have := hp i hi
  unfold unP
  split <;> omega
theorem unP_rt {p : Nat → Nat} {m a b : Nat} (hp : ∀ i, i < m → p i ≤ i) (ha : a < m) (hb : b < m) : ∀ i, i < m → rt (unP p a b) i = mrg (rt p) a b i := by
  have hq := unP_le (a := a) (b := b) hp
  have ra := rt_ok hp a ha
  have rb := rt_ok hp b hb
  have hM : p (max (rt p a) (rt p b)) = max (rt p a) (rt p b) := by
    rcases Nat.le_total (rt p a) (rt p b) with z | z
    · rw [Nat.max_eq_right z]; exact rb.2
    · rw [Nat.max_eq_left z]; exact ra.2
  have hm : p (min (rt p a) (rt p b)) = min (rt p a) (rt p b) := by
    rcases Nat.le_total (rt p a) (rt p b) with z | z
    · rw [Nat.min_eq_left z]; exact ra.2
    · rw [Nat.min_eq_right z]; exact rb.2
  have hMl : max (rt p a) (rt p b) < m := by omega
  have hmle : min (rt p a) (rt p b) ≤ max (rt p a) (rt p b) := by omega
  unfold mrg
  intro i
  induction i using Nat.strongRecOn with
  | _ i ih =>
    intro hi
    rw [rt_step hq hi]
    have eq : unP p a b i = if i = max (rt p a) (rt p b) then min (rt p a) (rt p b) else p i := rfl
    rw [eq]
    generalize max (rt p a) (rt p b) = M at *
    generalize min (rt p a) (rt p b) = N at *
    by_cases c : i = M
    · subst c
      rw [if_pos rfl, rt_fix hp hi hM, if_pos rfl]
      by_cases d : N = i
      · rw [if_pos d, d]
      · rw [if_neg d, ih N (by omega) (by omega), rt_fix hp (by omega) hm, if_neg (by omega)]
    · rw [if_neg c]
      by_cases d : p i = i
      · rw [if_pos d, rt_fix hp hi d, if_neg c]
      · have := hp i hi
        rw [if_neg d, ih (p i) (by omega) (by omega), rt_rt hp hi]
theorem s_X4_rootOf {s : Sg} {c0 : Nat} {m i : Nat} {p : Nat → Nat} {post : Int → Prop} (hm : s c0 0 = (m : Int)) (hm65 : m ≤ 65) (hp : ∀ i, i < m → p i ≤ i) (hat : ∀ i, i < m → s (c0 + 6) i = (p i : Int)) (hi : i < m) (h : post (rt p i : Int)) : w_X4_rootOf s c0 (i : Int) post := by
  unfold w_X4_rootOf
  rw [hm]
  refine lr_2 (fun a b => ∃ x y : Nat, a = (x : Int) ∧ b = (y : Int) ∧ x < m ∧ x + y ≤ i ∧ rt p x = rt p i) (fun a _ => a.toNat) ?_ (i : Int) 0 ⟨i, 0, rfl, rfl, hi, by omega, rfl⟩
  rintro again _ _ ⟨x, y, rfl, rfl, hx, hxy, hr⟩ ih
  unfold jn
  rw [Int.toNat_natCast, hat x hx]
  have hpx := hp x hx
  refine ⟨fun c => by omega, fun _ => ⟨by omega, fun c => ?_, fun c => ⟨by omega, fun v ev w ew => ?_⟩⟩⟩
  · have e : p x = x := by omega
    rw [rt_fix hp hx e] at hr
    rw [hr]
    exact h
  · have b1 : ok32 ((y : Int) + 1) := ⟨by omega, by omega⟩
    have b2 : (y : Int) + 1 = ((y + 1 : Nat) : Int) := by omega
    rw [ev, ew, w32_id b1, b2]
    clear ev ew
    exact ih _ _ ⟨p x, y + 1, rfl, rfl, by omega, by omega, by rw [rt_rt hp hx, hr]⟩ (by omega)
theorem s_X4_unite {s : Sg} {c0 : Nat} {m a b : Nat} {p : Nat → Nat} {post : Sg → Prop} (hm : s c0 0 = (m : Int)) (hm65 : m ≤ 65) (hp : ∀ i, i < m → p i ≤ i) (hat : ∀ i, i < m → s (c0 + 6) i = (p i : Int)) (ha : a < m) (hb : b < m) (h : ∀ t, (∀ c, c ≠ c0 + 6 → t c = s c) → (∀ i, i < m → t (c0 + 6) i = (unP p a b i : Int)) → post t) : w_X4_unite s c0 (a : Int) (b : Int) post := by
  unfold w_X4_unite
  refine s_X4_rootOf hm hm65 hp hat ha (s_X4_rootOf hm hm65 hp hat hb ?_)
  have ra := rt_ok hp a ha
  have rb := rt_ok hp b hb
  have e1 : (if (rt p a : Int) < (rt p b : Int) then (rt p b : Int) else (rt p a : Int)) = ((max (rt p a) (rt p b) : Nat) : Int) := by split <;> omega
  have e2 : (if (rt p b : Int) < (rt p a : Int) then (rt p b : Int) else (rt p a : Int)) = ((min (rt p a) (rt p b) : Nat) : Int) := by split <;> omega
  rw [e1, e2]
  refine ⟨by omega, ?_⟩
  rintro _ rfl
  refine h _ (fun c hc => up_ne _ _ _ hc) (fun i hi => ?_)
  rw [up_apply, Int.toNat_natCast]
  unfold unP
  by_cases c : i = max (rt p a) (rt p b)
  · rw [if_pos ⟨rfl, c⟩, if_pos c]
  · rw [if_neg (fun z => c z.2), if_neg c]
    exact hat i hi
theorem s_X0_rootOf {s : Sg} {m i : Nat} {p : Nat → Nat} {post : Int → Prop} (hm65 : m ≤ 726) (hp : ∀ i, i < m → p i ≤ i) (hat : ∀ i, i < m → s 54 i = (p i : Int)) (hi : i < m) (h : post (rt p i : Int)) : w_X0_rootOf s (i : Int) post := by
  unfold w_X0_rootOf
  refine lr_2 (fun a b => ∃ x y : Nat, a = (x : Int) ∧ b = (y : Int) ∧ x < m ∧ x + y ≤ i ∧ rt p x = rt p i) (fun a _ => a.toNat) ?_ (i : Int) 0 ⟨i, 0, rfl, rfl, hi, by omega, rfl⟩
  rintro again _ _ ⟨x, y, rfl, rfl, hx, hxy, hr⟩ ih
  unfold jn
  rw [Int.toNat_natCast, hat x hx]
  have hpx := hp x hx
  refine ⟨fun c => by omega, fun _ => ⟨by omega, fun c => ?_, fun c => ⟨by omega, fun v ev w ew => ?_⟩⟩⟩
  · have e : p x = x := by omega
    rw [rt_fix hp hx e] at hr
    rw [hr]
    exact h
  · have b1 : ok32 ((y : Int) + 1) := ⟨by omega, by omega⟩
    have b2 : (y : Int) + 1 = ((y + 1 : Nat) : Int) := by omega
    rw [ev, ew, w32_id b1, b2]
    clear ev ew
    exact ih _ _ ⟨p x, y + 1, rfl, rfl, by omega, by omega, by rw [rt_rt hp hx, hr]⟩ (by omega)
theorem s_X0_unite {s : Sg} {m a b : Nat} {p : Nat → Nat} {post : Sg → Prop} (hm65 : m ≤ 726) (hp : ∀ i, i < m → p i ≤ i) (hat : ∀ i, i < m → s 54 i = (p i : Int)) (ha : a < m) (hb : b < m) (h : ∀ t, (∀ c, c ≠ 54 → t c = s c) → (∀ i, i < m → t 54 i = (unP p a b i : Int)) → post t) : w_X0_unite s (a : Int) (b : Int) post := by
  unfold w_X0_unite
  refine s_X0_rootOf hm65 hp hat ha (s_X0_rootOf hm65 hp hat hb ?_)
  have ra := rt_ok hp a ha
  have rb := rt_ok hp b hb
  have e1 : (if (rt p a : Int) < (rt p b : Int) then (rt p b : Int) else (rt p a : Int)) = ((max (rt p a) (rt p b) : Nat) : Int) := by split <;> omega
  have e2 : (if (rt p b : Int) < (rt p a : Int) then (rt p b : Int) else (rt p a : Int)) = ((min (rt p a) (rt p b) : Nat) : Int) := by split <;> omega
  rw [e1, e2]
  refine ⟨by omega, ?_⟩
  rintro _ rfl
  refine h _ (fun c hc => up_ne _ _ _ hc) (fun i hi => ?_)
  rw [up_apply, Int.toNat_natCast]
  unfold unP
  by_cases c : i = max (rt p a) (rt p b)
  · rw [if_pos ⟨rfl, c⟩, if_pos c]
  · rw [if_neg (fun z => c z.2), if_neg c]
    exact hat i hi
/-- the reference's way: all that bear the one label come to bear the other -/
theorem s_relabel {s : Sg} {ca cb c : Nat} {cap lo hi : Int} {m : Nat} {lab : Nat → Nat} {l h : Nat} {K : Sg → Prop} (hm : s ca cb = (m : Int)) (hcap : (m : Int) ≤ cap) (hc2 : cap ≤ 1000) (hac : ca ≠ c) (hat : ∀ i, i < m → s c i = (lab i : Int)) (hlo : lo = (l : Int)) (hhi : hi = (h : Int)) (hp : ∀ t, (∀ c', c' ≠ c → t c' = s c') → (∀ i, i < m → t c i = ((if lab i = h then l else lab i : Nat) : Int)) → K t) :
    lp_1s (fun (again : Int → Sg → Prop) (v : Int) (s_1 : Sg) => (s_1 ca cb ≤ v → K s_1) ∧ (¬ s_1 ca cb ≤ v → (0 ≤ v ∧ v < cap) ∧ (jn (fun (K2 : Sg → Prop) => (¬ s_1 c v.toNat = hi → K2 s_1) ∧ (s_1 c v.toNat = hi → (0 ≤ v ∧ v < cap) ∧ (∀ s_2, s_2 = up s_1 c (v.toNat) lo → (K2 s_2)))) (fun (s_3 : Sg) => ∀ v_4, v_4 = w32 (v + 1) → (again v_4 s_3))))) 0 s := by
  refine lr_1s (fun i t => ∃ k : Nat, i = (k : Int) ∧ k ≤ m ∧ (∀ c', c' ≠ c → t c' = s c') ∧ ∀ j, j < m → t c j = ((if j < k ∧ lab j = h then l else lab j : Nat) : Int)) (fun i _ => ((m : Int) - i).toNat) ?_ 0 s ⟨0, rfl, Nat.zero_le _, fun _ _ => rfl, fun j hj => by rw [if_neg (by omega)]; exact hat j hj⟩
  rintro again _ t ⟨k, rfl, hk, ho, hv⟩ ih
  rw [ho ca hac, hm]
  refine ⟨fun q => hp t ho (fun i hi => ?_), fun q => ⟨by omega, ?_⟩⟩
  · have e : k = m := by omega
    subst e
    rw [hv i hi]
    by_cases z : lab i = h
    · rw [if_pos ⟨hi, z⟩, if_pos z]
    · rw [if_neg (fun y => z y.2), if_neg z]
  · unfold jn
    have b1 : ok32 ((k : Int) + 1) := ⟨by omega, by omega⟩
    have b2 : (k : Int) + 1 = ((k + 1 : Nat) : Int) := by omega
    rw [Int.toNat_natCast, hv k (by omega), if_neg (show ¬ (k < k ∧ lab k = h) by omega), hhi]
    refine ⟨fun z v ev => ?_, fun z => ⟨by omega, fun s2 e2 v ev => ?_⟩⟩
    · rw [ev, w32_id b1, b2]
      clear ev
      refine ih _ _ ⟨k + 1, rfl, by omega, ho, fun j hj => ?_⟩ (by omega)
      rw [hv j hj]
      by_cases e : j = k
      · subst e
        rw [if_neg (by omega), if_neg (fun y => z (by omega))]
      · by_cases y : j < k ∧ lab j = h
        · rw [if_pos y, if_pos ⟨by omega, y.2⟩]
        · rw [if_neg y, if_neg (fun y2 => y ⟨by omega, y2.2⟩)]
    · rw [ev, w32_id b1, b2, e2]
      clear ev e2
      refine ih _ _ ⟨k + 1, rfl, by omega, fun c' hc' => by rw [up_ne _ _ _ hc', ho c' hc'], fun j hj => ?_⟩ (by omega)
      rw [up_apply]
      by_cases e : j = k
      · subst e
        rw [if_pos ⟨rfl, rfl⟩, if_pos ⟨by omega, by omega⟩, hlo]
      · rw [if_neg (fun y => e y.2), hv j hj]
        by_cases y : j < k ∧ lab j = h
        · rw [if_pos y, if_pos ⟨by omega, y.2⟩]
        · rw [if_neg y, if_neg (fun y2 => y ⟨by omega, y2.2⟩)]
