/-! the x's of the points -/
def XsOf (f : Nat → Int × Int × Int × Int) (m : Nat) (g : Nat → Int × Int) (M : Nat) : Prop :=
  SInc (fun p q : Int × Int => scl p.1 p.2 < scl q.1 q.2) g M ∧ (∀ b, b < M → ∃ p, p < m ∧ g b = ((f p).1, (f p).2.1)) ∧ ∀ p, p < m → ∃ b, b < M ∧ g b = ((f p).1, (f p).2.1)
theorem Xs_one {f : Nat → Int × Int × Int × Int} {m M M' : Nat} {g g' : Nat → Int × Int} (h : XsOf f m g M) (h' : XsOf f m g' M') : M = M' ∧ ∀ b, b < M → g b = g' b := by
  refine seq_unique (lt := fun p q : Int × Int => scl p.1 p.2 < scl q.1 q.2) (fun a => Int.lt_irrefl _) (fun a b c => Int.lt_trans) h.1 h'.1 (fun i hi => ?_) (fun j hj => ?_)
  · obtain ⟨p, hp, e⟩ := h.2.1 i hi
    obtain ⟨b, hb, e2⟩ := h'.2.2 p hp
    exact ⟨b, hb, e.trans e2.symm⟩
  · obtain ⟨p, hp, e⟩ := h'.2.1 j hj
    obtain ⟨b, hb, e2⟩ := h.2.2 p hp
    exact ⟨b, hb, e.trans e2.symm⟩
theorem pair_eq {p q : Int × Int × Int × Int} (hp : PlB p) (hq : PlB q) (rp : PlR p) (rq : PlR q) (h : crX p q = 0) : (p.1, p.2.1) = (q.1, q.2.1) := by
  obtain ⟨p1, p2, p3, p4⟩ := hp
  obtain ⟨q1, q2, q3, q4⟩ := hq
  have := fr_eq p1.1 p2.1 q1.1 q2.1 h rp.1 rq.1
  rw [this.1, this.2]
/-- the x's of the first k points, in two cells from one on -/
def XsTo (t : Sg) (c1 c2 o M : Nat) (f : Nat → Int × Int × Int × Int) (k : Nat) : Prop :=
  SInc (fun p q : Int × Int => scl p.1 p.2 < scl q.1 q.2) (fun b => (t c1 (b + o), t c2 (b + o))) M ∧ (∀ b, b < M → ∃ p, p < k ∧ (t c1 (b + o), t c2 (b + o)) = ((f p).1, (f p).2.1)) ∧ (∀ p, p < k → ∃ b, b < M ∧ (t c1 (b + o), t c2 (b + o)) = ((f p).1, (f p).2.1)) ∧ M ≤ k ∧ (k ≠ 0 → 0 < M ∧ (t c1 (M - 1 + o), t c2 (M - 1 + o)) = ((f (k - 1)).1, (f (k - 1)).2.1))
theorem XsTo_0 (t : Sg) (c1 c2 o : Nat) (f : Nat → Int × Int × Int × Int) : XsTo t c1 c2 o 0 f 0 :=
  ⟨fun a b _ hb => absurd hb (Nat.not_lt_zero _), fun b hb => absurd hb (Nat.not_lt_zero _), fun p hp => absurd hp (Nat.not_lt_zero _), Nat.le_refl _, fun z => absurd rfl z⟩
theorem XsTo_fr {s t : Sg} {c1 c2 o M : Nat} {f : Nat → Int × Int × Int × Int} {k : Nat} (h : XsTo s c1 c2 o M f k) (e1 : t c1 = s c1) (e2 : t c2 = s c2) : XsTo t c1 c2 o M f k := by
  unfold XsTo
  rw [e1, e2]
  exact h
theorem XsTo_same {t : Sg} {c1 c2 o M : Nat} {f : Nat → Int × Int × Int × Int} {k : Nat} (h : XsTo t c1 c2 o M f k) (hk : k ≠ 0) (e : ((f k).1, (f k).2.1) = ((f (k - 1)).1, (f (k - 1)).2.1)) : XsTo t c1 c2 o M f (k + 1) := by
  obtain ⟨h1, h2, h3, h4, h5⟩ := h
  obtain ⟨h6, h7⟩ := h5 hk
  refine ⟨h1, fun b hb => ?_, fun p hp => ?_, by omega, fun _ => ⟨h6, ?_⟩⟩
  · obtain ⟨p, hp, e2⟩ := h2 b hb
    exact ⟨p, by omega, e2⟩
  · by_cases z : p = k
    · subst z
      exact ⟨M - 1, by omega, by rw [h7, e]⟩
    · exact h3 p (by omega)
  · rw [h7, Nat.add_sub_cancel, e]
theorem XsTo_new {s t : Sg} {c1 c2 o M m : Nat} {f : Nat → Int × Int × Int × Int} {k : Nat} (hc : c1 ≠ c2) (h : XsTo s c1 c2 o M f k) (hf : RowP f m) (hk : k < m) (hne : k ≠ 0 → crX (f (k - 1)) (f k) ≠ 0) (e1 : ∀ j, t c1 j = if j = M + o then (f k).1 else s c1 j) (e2 : ∀ j, t c2 j = if j = M + o then (f k).2.1 else s c2 j) : XsTo t c1 c2 o (M + 1) f (k + 1) := by
  obtain ⟨h1, h2, h3, h4, h5⟩ := h
  have old : ∀ b, b < M → (t c1 (b + o), t c2 (b + o)) = (s c1 (b + o), s c2 (b + o)) := by
    intro b hb
    rw [e1, e2, if_neg (by omega), if_neg (by omega)]
  have new : (t c1 (M + o), t c2 (M + o)) = ((f k).1, (f k).2.1) := by
    rw [e1, e2, if_pos rfl, if_pos rfl]
  have last : ∀ b, b < M → scl (s c1 (b + o)) (s c2 (b + o)) < scl (f k).1 (f k).2.1 := by
    intro b hb
    have hk0 : k ≠ 0 := by omega
    obtain ⟨h6, h7⟩ := h5 hk0
    have e3 : s c1 (M - 1 + o) = (f (k - 1)).1 := congrArg Prod.fst h7
    have e4 : s c2 (M - 1 + o) = (f (k - 1)).2.1 := congrArg Prod.snd h7
    have l1 : scl (s c1 (M - 1 + o)) (s c2 (M - 1 + o)) < scl (f k).1 (f k).2.1 := by
      rw [e3, e4]
      have lt := sXY_lt (hf.1 (k - 1) k (by omega) hk)
      have cm := sXY_cmp (hf.2 (k - 1) (by omega)).1 (hf.2 k hk).1
      have := hne hk0
      unfold sX at lt cm
      omega
    by_cases z : b = M - 1
    · rw [z]; exact l1
    · have := h1 b (M - 1) (by omega) (by omega)
      simp only at this
      omega
  refine ⟨fun a b hab hb => ?_, fun b hb => ?_, fun p hp => ?_, by omega, fun _ => ⟨by omega, ?_⟩⟩
  · show scl (t c1 (a + o)) (t c2 (a + o)) < scl (t c1 (b + o)) (t c2 (b + o))
    have oa1 : t c1 (a + o) = s c1 (a + o) := congrArg Prod.fst (old a (by omega))
    have oa2 : t c2 (a + o) = s c2 (a + o) := congrArg Prod.snd (old a (by omega))
    rw [oa1, oa2]
    by_cases z : b = M
    · subst z
      have n1 : t c1 (b + o) = (f k).1 := congrArg Prod.fst new
      have n2 : t c2 (b + o) = (f k).2.1 := congrArg Prod.snd new
      rw [n1, n2]
      exact last a hab
    · have ob1 : t c1 (b + o) = s c1 (b + o) := congrArg Prod.fst (old b (by omega))
      have ob2 : t c2 (b + o) = s c2 (b + o) := congrArg Prod.snd (old b (by omega))
      rw [ob1, ob2]
      exact h1 a b hab (by omega)
  · by_cases z : b = M
    · subst z
      exact ⟨k, by omega, new⟩
    · obtain ⟨p, hp, e⟩ := h2 b (by omega)
      exact ⟨p, by omega, (old b (by omega)).trans e⟩
  · by_cases z : p = k
    · subst z
      exact ⟨M, by omega, new⟩
    · obtain ⟨b, hb, e⟩ := h3 p (by omega)
      exact ⟨b, by omega, (old b hb).trans e⟩
  · rw [Nat.add_sub_cancel, Nat.add_sub_cancel]
    exact new
theorem XsTo_end {t : Sg} {c1 c2 o M m : Nat} {f : Nat → Int × Int × Int × Int} (h : XsTo t c1 c2 o M f m) : XsOf f m (fun b => (t c1 (b + o), t c2 (b + o))) M := ⟨h.1, h.2.1, h.2.2.1⟩
theorem PlB_x {p q : Int × Int × Int × Int} (hp : PlB p) (hq : PlB q) : -819200000 ≤ p.1 * q.2.1 ∧ p.1 * q.2.1 ≤ 819200000 := (PlB_m hp hq).1
theorem s_X6_findXs {s : Sg} {D : Nat → Nat → Int} {n m : Nat} {f : Nat → Int × Int × Int × Int} {post : Sg → Prop} (hP : PtsOf D n f m) (hm : m ≤ 65) (hsz : s 16 0 = (m : Int)) (hpt : PtAt s 17 18 19 20 m f)
    (hp : ∀ (t : Sg) (g : Nat → Int × Int) (M : Nat), (∀ c, c ≠ 38 → c ≠ 39 → c ≠ 40 → t c = s c) → XsOf f m g M → M ≤ 65 → t 38 0 = (M : Int) → (∀ b, b < M → t 39 b = (g b).1 ∧ t 40 b = (g b).2) → post t) : w_X6_findXs s post := by
  unfold w_X6_findXs
  rintro _ rfl
  refine lr_1s (fun v t => ∃ k M : Nat, v = (k : Int) ∧ k ≤ m ∧ (∀ c, c ≠ 38 → c ≠ 39 → c ≠ 40 → t c = s c) ∧ t 38 0 = (M : Int) ∧ XsTo t 39 40 0 M f k) (fun v _ => ((m : Int) - v).toNat) ?_ 0 _ ⟨0, 0, rfl, Nat.zero_le _, fun c h1 _ _ => up_ne _ _ _ h1, by rw [up_apply, if_pos ⟨rfl, rfl⟩]; rfl, XsTo_0 _ _ _ _ _⟩
  rintro again _ t ⟨k, M, rfl, hk, ho, hM, hX⟩ ih
  rw [ho 16 (by omega) (by omega) (by omega), hsz]
  refine ⟨fun c => ?_, fun c => ?_⟩
  · have e : k = m := by omega
    subst e
    exact hp t _ M ho (XsTo_end hX) (by have := hX.2.2.2.1; omega) hM fun b _ => ⟨rfl, rfl⟩
  · have hk2 : k < m := by omega
    have hMk := hX.2.2.2.1
    have b1 : ok32 ((k : Int) + 1) := ⟨by omega, by omega⟩
    have b2 : (k : Int) + 1 = ((k + 1 : Nat) : Int) := by omega
    obtain ⟨p1, p2, -, -⟩ := hpt k hk2
    have go : ∀ (u : Sg) (M' : Nat), (∀ c, c ≠ 38 → c ≠ 39 → c ≠ 40 → u c = s c) → u 38 0 = (M' : Int) → XsTo u 39 40 0 M' f (k + 1) → ∀ v, v = w32 ((k : Int) + 1) → again v u := by
      intro u M' k1 k2 k3 v ev
      rw [ev, w32_id b1, b2]
      clear ev
      exact ih _ _ ⟨k + 1, M', rfl, by omega, k1, k2, k3⟩ (by omega)
    have new : (k ≠ 0 → crX (f (k - 1)) (f k) ≠ 0) → ((1 : Int) = 0 → (∀ v2_9, v2_9 = w32 ((k : Int) + 1) → again v2_9 t)) ∧ (¬ (1 : Int) = 0 → (65 ≤ t 38 0 → (∀ v2_9, v2_9 = w32 ((k : Int) + 1) → again v2_9 t)) ∧ (¬ 65 ≤ t 38 0 → (0 ≤ (k : Int) ∧ (k : Int) < 65) ∧ ((0 ≤ t 38 0 ∧ t 38 0 < 65) ∧ (∀ s_12, s_12 = up t 39 ((t 38 0).toNat) (t 17 (k : Int).toNat) → ((0 ≤ (k : Int) ∧ (k : Int) < 65) ∧ ((0 ≤ s_12 38 0 ∧ s_12 38 0 < 65) ∧ (∀ s_15, s_15 = up s_12 40 ((s_12 38 0).toNat) (s_12 18 (k : Int).toNat) → (∀ s_16, s_16 = up s_15 38 0 (w32 ((s_15 38 0) + 1)) → (∀ v2_9, v2_9 = w32 ((k : Int) + 1) → again v2_9 s_16))))))))) := by
      intro hne
      refine ⟨fun z => absurd z (by decide), fun _ => ⟨fun z => by omega, fun _ => ⟨by omega, by omega, ?_⟩⟩⟩
      rw [hM, Int.toNat_natCast, Int.toNat_natCast]
      intro s12 e12
      have a1 : s12 38 = t 38 := by rw [e12, up_ne _ _ _ (by omega)]
      have a2 : s12 18 = t 18 := by rw [e12, up_ne _ _ _ (by omega)]
      rw [a1, hM, Int.toNat_natCast]
      refine ⟨by omega, by omega, fun s15 e15 => ?_⟩
      have a3 : s15 38 = t 38 := by rw [e15, up_ne _ _ _ (by omega), a1]
      rw [a3, hM, w32_id (show ok32 ((M : Int) + 1) from ⟨by omega, by omega⟩)]
      intro s16 e16
      refine go s16 (M + 1) (fun c c1 c2 c3 => by rw [e16, up_ne _ _ _ c1, e15, up_ne _ _ _ c3, e12, up_ne _ _ _ c2, ho c c1 c2 c3]) (by rw [e16, up_apply, if_pos ⟨rfl, rfl⟩]; omega) ?_
      refine XsTo_new (by decide) hX hP.1 hk2 hne (fun j => ?_) (fun j => ?_)
      · rw [e16, up_ne _ _ _ (by omega), e15, up_ne _ _ _ (by omega), e12, up_apply, ho 17 (by omega) (by omega) (by omega), p1]
        simp
      · rw [e16, up_ne _ _ _ (by omega), e15, up_apply, a2, ho 18 (by omega) (by omega) (by omega), p2, e12, up_ne _ _ _ (by omega)]
        simp
    unfold jn
    rw [hM] at new ⊢
    refine ⟨fun z => new fun hk0 => ?_, fun z => ?_⟩
    · have := (hX.2.2.2.2 hk0).1
      omega
    · have hM0 : 0 < M := by omega
      have e1 : w32 ((M : Int) - 1) = ((M - 1 : Nat) : Int) := by rw [w32_id (show ok32 ((M : Int) - 1) from ⟨by omega, by omega⟩)]; omega
      have q17 : t 17 k = (f k).1 := by rw [ho 17 (by omega) (by omega) (by omega), p1]
      have q18 : t 18 k = (f k).2.1 := by rw [ho 18 (by omega) (by omega) (by omega), p2]
      rw [e1]
      simp only [Int.toNat_natCast] at new ⊢
      refine ⟨by omega, by omega, by omega, by omega, ?_⟩
      have hk0 : k ≠ 0 := by omega
      have hl := (hX.2.2.2.2 hk0).2
      simp only [Nat.add_zero] at hl
      have e3 : t 39 (M - 1) = (f (k - 1)).1 := congrArg Prod.fst hl
      have e4 : t 40 (M - 1) = (f (k - 1)).2.1 := congrArg Prod.snd hl
      rw [q17] at new
      rw [e3, e4, q17, q18]
      have hb1 := (hP.1.2 (k - 1) (by omega))
      have hb2 := (hP.1.2 k hk2)
      refine s_X9_cmp (PlB_x hb1.1 hb2.1) (PlB_x hb2.1 hb1.1) (by decide) ?_
      have sg := sgn_iff ((f (k - 1)).1 * (f k).2.1 - (f k).1 * (f (k - 1)).2.1)
      refine ⟨fun z2 => ⟨fun _ => ?_, fun z3 => absurd trivial z3⟩, fun z2 => ?_⟩
      · refine go t M ho hM (XsTo_same hX hk0 ?_)
        exact (pair_eq hb1.1 hb2.1 hb1.2 hb2.2 (sg.2.1.mp z2)).symm
      · exact new fun _ => fun q => z2 (sg.2.1.mpr q)
