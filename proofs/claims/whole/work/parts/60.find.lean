/-! the class's points: ends and meetings -/
def RowM (A : Int × Int × Int × Int → Prop) (f : Nat → Int × Int × Int × Int) (m : Nat) : Prop := RowP f m ∧ (∀ j, j < m → A (f j)) ∧ ∀ p, A p → ∃ j, j < m ∧ f j = p
theorem RowM_ins {A B : Int × Int × Int × Int → Prop} {f g : Nat → Int × Int × Int × Int} {m k : Nat} {q : Int × Int × Int × Int} (h : RowM A f m) (hq : PlB q ∧ PlR q) (hi : InsP f m q g k) (hB : ∀ p, B p ↔ (A p ∨ p = q)) : RowM B g k := by
  obtain ⟨h1, h2, h3⟩ := h
  refine ⟨RowP_ins h1 hq hi, fun j hj => ?_, fun p hp => ?_⟩
  · rw [hB]
    rcases hi.2.1 j hj with e | ⟨i, hi2, e⟩
    · exact Or.inr e
    · rw [e]; exact Or.inl (h2 i hi2)
  · rw [hB] at hp
    rcases hp with a | e
    · obtain ⟨i, hi2, e⟩ := h3 p a
      obtain ⟨j, hj, e2⟩ := hi.2.2.2.1 i hi2
      exact ⟨j, hj, e2.trans e⟩
    · obtain ⟨j, hj, e2⟩ := hi.2.2.1
      exact ⟨j, hj, e2.trans e.symm⟩
theorem RowM_congr {A B : Int × Int × Int × Int → Prop} {f : Nat → Int × Int × Int × Int} {m : Nat} (h : RowM A f m) (hB : ∀ p, B p ↔ A p) : RowM B f m :=
  ⟨h.1, fun j hj => (hB _).mpr (h.2.1 j hj), fun p hp => h.2.2 p ((hB p).mp hp)⟩
theorem Pts_of {D : Nat → Nat → Int} {n m : Nat} {f : Nat → Int × Int × Int × Int} {A : Int × Int × Int × Int → Prop} (h : RowM A f m) (hB : ∀ p, (IsEnd D n p ∨ IsX D n p) ↔ A p) : PtsOf D n f m :=
  RowM_congr (B := fun p => IsEnd D n p ∨ IsX D n p) h hB
def EndsTo (D : Nat → Nat → Int) (i : Nat) (p : Int × Int × Int × Int) : Prop := ∃ a, a < i ∧ (p = endA D a ∨ p = endB D a)
def XTo (D : Nat → Nat → Int) (n i j : Nat) (p : Int × Int × Int × Int) : Prop := ∃ a b, a < b ∧ b < n ∧ (a < i ∨ (a = i ∧ b < j)) ∧ mK D a b = 1 ∧ p = mtP D a b
def twN (D : Nat → Nat → Int) (n : Nat) (k : Int) : Nat := sm (fun i => cntN (fun j => decide (i < j ∧ mK D i j = k)) n) n
def twP (D : Nat → Nat → Int) (n : Nat) (k : Int) (i j : Nat) : Nat := sm (fun i => cntN (fun j => decide (i < j ∧ mK D i j = k)) n) i + cntN (fun j => decide (i < j ∧ mK D i j = k)) j
theorem tri_45 : ∀ n, n ≤ 10 → ∀ i, i < n → sm (fun a => n - 1 - a) i + (n - 1 - i) ≤ 45 := by decide
theorem twP_0 (D : Nat → Nat → Int) (n : Nat) (k : Int) (i j : Nat) (h : j ≤ i + 1) : twP D n k i j = sm (fun i => cntN (fun j => decide (i < j ∧ mK D i j = k)) n) i := by
  unfold twP
  rw [cnt_none (fun a ha => by simp; omega)]
  omega
theorem tri_le : ∀ n, n ≤ 10 → ∀ i, i ≤ n → sm (fun a => n - 1 - a) i ≤ 45 := by decide
theorem twN_le (D : Nat → Nat → Int) (n : Nat) (k : Int) : ∀ i, i ≤ n → sm (fun i => cntN (fun j => decide (i < j ∧ mK D i j = k)) n) i ≤ sm (fun a => n - 1 - a) i := by
  intro i hi
  refine sm_le (fun a ha => ?_)
  have h1 : cntN (fun j => decide (a < j ∧ mK D a j = k)) n ≤ cntN (fun j => decide (a < j)) n := cnt_mono (fun j _ c => by rw [decide_eq_true_iff] at c ⊢; exact c.1)
  have h2 : ∀ N, cntN (fun j => decide (a < j)) N = N - 1 - a := by
    intro N
    induction N with
    | zero => show 0 = 0 - 1 - a; omega
    | succ N ih =>
      rw [cntN_s, ih]
      by_cases c : a < N
      · rw [if_pos (decide_eq_true c)]; omega
      · rw [if_neg (by simpa using c)]; omega
  rw [h2 n] at h1
  exact h1
theorem twP_le (D : Nat → Nat → Int) (n : Nat) (k : Int) (i j : Nat) (hn : n ≤ 10) (hi : i < n) (hj : j ≤ n) : twP D n k i j ≤ 55 := by
  unfold twP
  have h1 := twN_le D n k i (by omega)
  have h2 := tri_le n hn i (by omega)
  have h3 := cntN_le (fun j => decide (i < j ∧ mK D i j = k)) j
  omega
theorem s_X4_addMeetings {s : Sg} {c0 c1 n m : Nat} {D : Nat → Nat → Int} {f : Nat → Int × Int × Int × Int} {post : Sg → Prop} (h : LsD D (n : Int)) (hn : s c1 0 = (n : Int)) (hat : LnAt s (c1 + 1) (n : Int) D) (hc : c1 + 4 < c0) (hsz : s c0 0 = (m : Int)) (hpt : PtAt s (c0 + 1) (c0 + 2) (c0 + 3) (c0 + 4) m f) (hrow : RowM (IsEnd D n) f m) (hm : m ≤ 2 * n)
    (hp : ∀ (t : Sg) (m' : Nat) (f' : Nat → Int × Int × Int × Int), (∀ c, (c < c0 ∨ c0 + 8 < c) → t c = s c) → t c0 0 = (m' : Int) → PtAt t (c0 + 1) (c0 + 2) (c0 + 3) (c0 + 4) m' f' → PtsOf D n f' m' → m' ≤ 65 → (∀ k : Nat, k < 4 → t (c0 + 7) k = (twN D n (k : Int) : Int)) → post t) : w_X4_addMeetings s c0 c1 post := by
  unfold w_X4_addMeetings
  have hn10 := h.1
  refine lr_1s (fun v t => ∃ k : Nat, v = (k : Int) ∧ k ≤ 4 ∧ (∀ c, c ≠ c0 + 7 → t c = s c) ∧ ∀ j, j < k → t (c0 + 7) j = 0) (fun v _ => (4 - v).toNat) ?_ 0 s ⟨0, rfl, by omega, fun _ _ => rfl, fun j hj => by omega⟩
  rintro again _ t ⟨k, rfl, hk, ho, hz⟩ ih
  refine ⟨fun c => ?_, fun c => ⟨by omega, fun s2 e2 v ev => ?_⟩⟩
  · have hk4 : k = 4 := by omega
    subst hk4
    refine lr_1s (fun v u => ∃ i m' f', v = ((i : Nat) : Int) ∧ i ≤ n ∧ (∀ c, (c < c0 ∨ c0 + 8 < c) → u c = s c) ∧ u c0 0 = ((m' : Nat) : Int) ∧ PtAt u (c0 + 1) (c0 + 2) (c0 + 3) (c0 + 4) m' f' ∧ RowM (fun p => IsEnd D n p ∨ XTo D n i 0 p) f' m' ∧ m' ≤ 2 * n + sm (fun a => n - 1 - a) i ∧ (∀ k : Nat, k < 4 → u (c0 + 7) k = (twP D n (k : Int) i 0 : Int))) (fun v _ => ((n : Int) - v).toNat) ?_ _ _ ?_
    · rintro again2 _ u ⟨i, m', f', rfl, hi, ko, ksz, kpt, krow, km, ktw⟩ ih2
      have kn : u c1 0 = (n : Int) := by rw [ko c1 (by omega)]; exact hn
      refine ⟨fun q => ?_, fun q v3 ev3 => ?_⟩
      · have e : i = n := by omega
        subst e
        refine hp u m' f' ko ksz kpt (Pts_of krow fun p => ?_) ?_ (fun k hk => ?_)
        · unfold IsX XTo
          refine or_congr Iff.rfl ⟨?_, ?_⟩
          · rintro ⟨a, b, h1, h2, h3, h4⟩
            exact ⟨a, b, h1, h2, Or.inl (by omega), h3, h4⟩
          · rintro ⟨a, b, h1, h2, -, h3, h4⟩
            exact ⟨a, b, h1, h2, h3, h4⟩
        · have := tri_le i (by omega) i (Nat.le_refl _)
          omega
        · rw [ktw k hk, twP_0 _ _ _ i 0 (by omega)]
          rfl
      · have hi2 : i < n := by omega
        have b1 : ok32 ((i : Int) + 1) := ⟨by omega, by omega⟩
        have b2 : (i : Int) + 1 = ((i + 1 : Nat) : Int) := by omega
        rw [w32_id b1, b2] at ev3
        rw [ev3]
        clear ev3 q
        refine lr_1s (fun v w => ∃ j m'' f'', v = ((j : Nat) : Int) ∧ i < j ∧ j ≤ n ∧ (∀ c, (c < c0 ∨ c0 + 8 < c) → w c = s c) ∧ w c0 0 = ((m'' : Nat) : Int) ∧ PtAt w (c0 + 1) (c0 + 2) (c0 + 3) (c0 + 4) m'' f'' ∧ RowM (fun p => IsEnd D n p ∨ XTo D n i j p) f'' m'' ∧ m'' ≤ 2 * n + sm (fun a => n - 1 - a) i + (j - i - 1) ∧ (∀ k : Nat, k < 4 → w (c0 + 7) k = (twP D n (k : Int) i j : Int))) (fun v _ => ((n : Int) - v).toNat) ?_ _ _ ?_
        · rintro again3 _ w ⟨j, m2, f2, rfl, hij, hj, lo, lsz, lpt, lrow, lm, ltw⟩ ih3
          have ln : w c1 0 = (n : Int) := by rw [lo c1 (by omega)]; exact hn
          have lat : LnAt w (c1 + 1) (n : Int) D := fun x hx => by
            rw [lo (c1 + 1) (by omega), lo (c1 + 1 + 1) (by omega), lo (c1 + 1 + 2) (by omega), lo (c1 + 1 + 3) (by omega)]
            exact hat x hx
          refine ⟨fun q v4 ev4 => ?_, fun q => ?_⟩
          · have e : j = n := by omega
            subst e
            rw [ev4, w32_id b1, b2]
            clear ev4
            refine ih2 _ _ ⟨i + 1, m2, f2, rfl, by omega, lo, lsz, lpt, RowM_congr lrow fun p => ?_, ?_, fun k hk => ?_⟩ (by omega)
            · unfold XTo
              refine or_congr Iff.rfl ⟨?_, ?_⟩
              · rintro ⟨a, b, h1, h2, h3, h4, h5⟩
                exact ⟨a, b, h1, h2, by omega, h4, h5⟩
              · rintro ⟨a, b, h1, h2, h3, h4, h5⟩
                exact ⟨a, b, h1, h2, by omega, h4, h5⟩
            · rw [sm_s]
              omega
            · rw [ltw k hk, twP_0 _ _ _ (i + 1) 0 (by omega), sm_s]
              rfl
          · have hj2 : j < n := by omega
            have b3 : ok32 ((j : Int) + 1) := ⟨by omega, by omega⟩
            have b4 : (j : Int) + 1 = ((j + 1 : Nat) : Int) := by omega
            have tri := tri_45 n (by omega) i hi2
            refine s_X3_find h lat (by omega) (by omega) (by omega) fun x xo xm => ?_
            have hkin := mK_in D i j
            obtain ⟨kk, hkk, ekk⟩ : ∃ kk : Nat, kk < 4 ∧ mK D i j = (kk : Int) := ⟨(mK D i j).toNat, by omega, by omega⟩
            rw [xm.1, ekk]
            refine ⟨by omega, by omega, fun y ey => ?_⟩
            rw [Int.toNat_natCast, xo (c0 + 7) (by omega), ltw kk hkk] at ey
            have tl := twP_le D n (kk : Int) i j (by omega) hi2 hj
            rw [w32_id (show ok32 ((twP D n (kk : Int) i j : Int) + 1) from ⟨by omega, by omega⟩)] at ey
            have yo : ∀ c, (c < c0 ∨ c0 + 8 < c) → y c = s c := fun c hcc => by rw [ey, up_ne _ _ _ (by omega), xo c (by omega), lo c hcc]
            have y0 : y c0 = w c0 := by rw [ey, up_ne _ _ _ (by omega), xo c0 (by omega)]
            have ypt : PtAt y (c0 + 1) (c0 + 2) (c0 + 3) (c0 + 4) m2 f2 := fun z hz => by
              rw [ey, up_ne _ _ _ (by omega), up_ne _ _ _ (by omega), up_ne _ _ _ (by omega), up_ne _ _ _ (by omega), xo (c0 + 1) (by omega), xo (c0 + 2) (by omega), xo (c0 + 3) (by omega), xo (c0 + 4) (by omega)]
              exact lpt z hz
            have y8 : y (c0 + 8) = x (c0 + 8) := by rw [ey, up_ne _ _ _ (by omega)]
            have ytw : ∀ k : Nat, k < 4 → y (c0 + 7) k = (twP D n (k : Int) i (j + 1) : Int) := fun k hk => by
              have es : twP D n (k : Int) i (j + 1) = twP D n (k : Int) i j + ind (decide (i < j ∧ mK D i j = (k : Int))) := by
                unfold twP ind
                rw [cntN_s]
                split <;> omega
              rw [ey, up_apply]
              by_cases e : k = kk
              · subst e
                rw [if_pos ⟨rfl, rfl⟩, es, ind_t (decide_eq_true ⟨hij, ekk⟩)]
                omega
              · rw [if_neg (fun z => e z.2), xo (c0 + 7) (by omega), ltw k hk, es, ind_f (by rw [decide_eq_true_iff]; omega)]
                omega
            clear ey
            have go : ∀ (z : Sg) (m3 : Nat) (f3 : Nat → Int × Int × Int × Int), (∀ c, (c < c0 ∨ c0 + 8 < c) → z c = s c) → z c0 0 = (m3 : Int) → PtAt z (c0 + 1) (c0 + 2) (c0 + 3) (c0 + 4) m3 f3 → RowM (fun p => IsEnd D n p ∨ XTo D n i (j + 1) p) f3 m3 → m3 ≤ m2 + 1 → z (c0 + 7) = y (c0 + 7) → ∀ v, v = w32 ((j : Int) + 1) → again3 v z := by
              intro z m3 f3 zo zsz zpt zrow zm z7 v ev
              rw [ev, w32_id b3, b4]
              clear ev
              exact ih3 _ _ ⟨j + 1, m3, f3, rfl, by omega, by omega, zo, zsz, zpt, zrow, by omega, fun k hk => by rw [z7]; exact ytw k hk⟩ (by omega)
            unfold jn
            rw [y8, xm.1]
            refine ⟨fun q1 => go y m2 f2 yo (by rw [y0]; exact lsz) ypt (RowM_congr lrow fun p => ?_) (by omega) rfl, fun q1 => ?_⟩
            · refine or_congr Iff.rfl ⟨?_, ?_⟩
              · rintro ⟨a, b, h1, h2, h3, h4, h5⟩
                refine ⟨a, b, h1, h2, ?_, h4, h5⟩
                by_cases e : a = i ∧ b = j
                · obtain ⟨rfl, rfl⟩ := e
                  exact absurd h4 q1
                · omega
              · rintro ⟨a, b, h1, h2, h3, h4, h5⟩
                exact ⟨a, b, h1, h2, by omega, h4, h5⟩
            · obtain ⟨v1, v2, v3, v4⟩ := xm.2 (Or.inl q1)
              rw [v1, v2, v3, v4]
              have hmp := mtP_ok h (a := i) (b := j) (by omega) (by omega) (Or.inl q1)
              refine s_X4_add (q := mtP D i j) (m := m2) (f := f2) (by rw [y0]; exact lsz) ypt lrow.1 hmp (by omega) fun z g k' zo zo2 zsz zpt zins => ?_
              refine go z k' g (fun c hcc => by rw [zo c (by omega), yo c hcc]) zsz zpt (RowM_ins lrow hmp zins fun p => ?_) zins.2.2.2.2 (zo _ (by omega))
              refine ⟨?_, ?_⟩
              · rintro (e | ⟨a, b, h1, h2, h3, h4, h5⟩)
                · exact Or.inl (Or.inl e)
                · by_cases e : a = i ∧ b = j
                  · obtain ⟨rfl, rfl⟩ := e
                    exact Or.inr h5
                  · exact Or.inl (Or.inr ⟨a, b, h1, h2, by omega, h4, h5⟩)
              · rintro ((e | ⟨a, b, h1, h2, h3, h4, h5⟩) | e)
                · exact Or.inl e
                · exact Or.inr ⟨a, b, h1, h2, by omega, h4, h5⟩
                · exact Or.inr ⟨i, j, hij, hj2, Or.inr ⟨rfl, by omega⟩, q1, e⟩
        · refine ⟨i + 1, m', f', rfl, by omega, by omega, ko, ksz, kpt, RowM_congr krow fun p => ?_, by omega, fun k hk => ?_⟩
          · unfold XTo
            refine or_congr Iff.rfl ⟨?_, ?_⟩
            · rintro ⟨a, b, h1, h2, h3, h4, h5⟩
              exact ⟨a, b, h1, h2, by omega, h4, h5⟩
            · rintro ⟨a, b, h1, h2, h3, h4, h5⟩
              exact ⟨a, b, h1, h2, by omega, h4, h5⟩
          · rw [ktw k hk, twP_0 _ _ _ _ _ (by omega), twP_0 _ _ _ _ _ (by omega)]
    · refine ⟨0, m, f, rfl, by omega, fun c hcc => ho c (by omega), by rw [ho c0 (by omega)]; exact hsz, fun z hz => ?_, RowM_congr hrow fun p => ?_, by omega, fun k hk => ?_⟩
      · rw [ho (c0 + 1) (by omega), ho (c0 + 2) (by omega), ho (c0 + 3) (by omega), ho (c0 + 4) (by omega)]
        exact hpt z hz
      · refine ⟨?_, Or.inl⟩
        rintro (e | ⟨a, b, h1, h2, h3, h4, h5⟩)
        · exact e
        · omega
      · rw [hz k hk, twP_0 _ _ _ _ _ (by omega)]
        rfl
  · have b1 : ok32 ((k : Int) + 1) := ⟨by omega, by omega⟩
    have b2 : (k : Int) + 1 = ((k + 1 : Nat) : Int) := by omega
    rw [ev, w32_id b1, b2, e2]
    clear ev e2
    refine ih _ _ ⟨k + 1, rfl, by omega, fun c hcc => by rw [up_ne _ _ _ hcc, ho c hcc], fun j hj => ?_⟩ (by omega)
    rw [up_apply, Int.toNat_natCast]
    by_cases e : j = k
    · rw [if_pos ⟨rfl, e⟩]
    · rw [if_neg (fun z => e z.2)]
      exact hz j (by omega)
