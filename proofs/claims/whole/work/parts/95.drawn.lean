/-! drawn, chance -/
def zN (seed : Int) : Nat → Int
  | 0 => seed
  | k + 1 => w32 (w32 (zN seed k * 1103515245) + 12345)
theorem zN_s (seed : Int) (k : Nat) : zN seed (k + 1) = w32 (w32 (zN seed k * 1103515245) + 12345) := rfl
def itN (seed : Int) (j : Nat) : Int := w32 ((iushr (zN seed (j + 1)) 9).tmod 41)
theorem stL_ok {n0 : Nat} {D0 : Nat → Nat → Int} {it : Nat → Int} (h : LsD D0 (n0 : Int)) : ∀ k, LsD (stL n0 D0 it k).2.1 ((stL n0 D0 it k).1 : Int) := by
  intro k
  induction k with
  | zero => exact h
  | succ k ih =>
    rw [stL_s]
    by_cases c : okE (it (4 * k)) (it (4 * k + 1)) (it (4 * k + 2)) (it (4 * k + 3)) = true ∧ (stL n0 D0 it k).1 < 10
    · rw [if_pos c]
      have := put4_ok ih c.2 c.1
      simpa using this
    · rw [if_neg c]
      exact ih
theorem s_anew {seed : Int} {k : Nat} {post : Int → Prop} (h : post (zN seed (k + 1))) : w_X9_anew (zN seed k) post := h
theorem s_coord {seed : Int} {k : Nat} {post : Int → Prop} (h : post (itN seed k)) : w_X9_coordinateBy (zN seed (k + 1)) post := ⟨by decide, h⟩
theorem s_draw {x : Sg} {seed : Int} {k : Nat} {post : Int → Sg → Prop} (hx : x 68 42 = zN seed k) (hp : ∀ y, (∀ c, c ≠ 68 → y c = x c) → (∀ o, o ≠ 42 → y 68 o = x 68 o) → y 68 42 = zN seed (k + 1) → post (itN seed k) y) : w_X10_draw x post := by
  unfold w_X10_draw
  rw [hx]
  intro y ey
  have e42 : y 68 42 = zN seed (k + 1) := by rw [ey, up_apply, if_pos ⟨rfl, rfl⟩]; rfl
  refine ⟨by decide, ?_⟩
  rw [e42]
  exact hp y (fun c hc => by rw [ey, up_ne _ _ _ hc]) (fun o ho => by rw [ey, up_apply, if_neg (fun z => ho z.2)]) e42
noncomputable def drV (s : Sg) (seed : Int) (n : Nat) : Int := fcV (stL (nL s) (dD s) (itN seed) n).2.1 (stL (nL s) (dD s) (itN seed) n).1
theorem s_cfd {s : Sg} {seed : Int} {n : Nat} {post : Int → Sg → Prop} (hI : Inv s) (hn5 : n ≤ 5) (hp : ∀ v, ThF s v → post (drV s seed n) v) : w_X9_facesDrawn s seed (n : Int) post := by
  obtain ⟨h1, h2, h3, h4, h5, h6⟩ := inv_ls hI.1
  unfold w_X9_facesDrawn
  refine s_X2_become (by omega) (by omega) fun t ht => ?_
  obtain ⟨t1, t2, t3, t4⟩ := ht
  have tl : LnAt t 12 (nL s : Int) (dD s) := by
    intro j hj
    have e : ∀ k, k < 4 → t (11 + (k + 1)) j = dD s k j := by
      intro k hk
      rw [t4 (k + 1) (by omega) (by omega) j, if_pos (by omega)]
      unfold dD
      rw [if_pos hk, show 1 + (k + 1) = 2 + k by omega]
    exact ⟨e 0 (by omega), e 1 (by omega), e 2 (by omega), e 3 (by omega)⟩
  refine lr_2s (fun v w x => ∃ k : Nat, w = (k : Int) ∧ k ≤ n ∧ v = zN seed (4 * k) ∧ (∀ c, ¬ (11 ≤ c ∧ c ≤ 15) → x c = s c) ∧ x 11 0 = ((stL (nL s) (dD s) (itN seed) k).1 : Int) ∧ LnAt x 12 ((stL (nL s) (dD s) (itN seed) k).1 : Int) (stL (nL s) (dD s) (itN seed) k).2.1) (fun _ w _ => ((n : Int) - w).toNat) ?_ _ 0 t ⟨0, rfl, Nat.zero_le _, rfl, fun c hc => t3 c (by omega), by rw [t1]; exact h2, tl⟩
  rintro again _ _ x ⟨k, rfl, hk, rfl, xo, x11, x12⟩ ih
  have ok := stL_ok (it := itN seed) h1 k
  have hs := stL_s (nL s) (dD s) (itN seed) k
  refine ⟨fun z => ?_, fun z => ?_⟩
  · have e : k = n := by omega
    subst e
    exact s_cfind ok x11 x12 fun u uo => hp u fun c c1 c2 => by rw [uo c (by omega), xo c c1]
  · have hk2 : k < n := by omega
    have b1 : ok32 ((k : Int) + 1) := ⟨by omega, by omega⟩
    have b2 : (k : Int) + 1 = ((k + 1 : Nat) : Int) := by omega
    have z4 : zN seed (4 * k + 3 + 1) = zN seed (4 * (k + 1)) := congrArg (zN seed) (by omega)
    refine s_anew (s_coord (s_anew (s_coord (s_anew (s_coord (s_anew (s_coord ?_)))))))
    show w_X9_canBeEnds (itN seed (4 * k)) (itN seed (4 * k + 1)) (itN seed (4 * k + 2)) (itN seed (4 * k + 3)) _
    rw [z4]
    refine s_X9_canBeEnds fun r hr => ?_
    have ho : okE (itN seed (4 * k)) (itN seed (4 * k + 1)) (itN seed (4 * k + 2)) (itN seed (4 * k + 3)) = true ↔ ((0 ≤ itN seed (4 * k) ∧ itN seed (4 * k) ≤ 40) ∧ (0 ≤ itN seed (4 * k + 1) ∧ itN seed (4 * k + 1) ≤ 40) ∧ (0 ≤ itN seed (4 * k + 2) ∧ itN seed (4 * k + 2) ≤ 40) ∧ (0 ≤ itN seed (4 * k + 3) ∧ itN seed (4 * k + 3) ≤ 40) ∧ ¬ (itN seed (4 * k) = itN seed (4 * k + 2) ∧ itN seed (4 * k + 1) = itN seed (4 * k + 3))) := by unfold okE; exact decide_eq_true_iff
    rw [← ho] at hr
    clear ho z4
    generalize itN seed (4 * k) = X at *
    generalize itN seed (4 * k + 1) = Y at *
    generalize itN seed (4 * k + 2) = U at *
    generalize itN seed (4 * k + 3) = V at *
    have skip : ¬ (okE X Y U V = true ∧ (stL (nL s) (dD s) (itN seed) k).1 < 10) → ∀ v, v = w32 ((k : Int) + 1) → again (zN seed (4 * (k + 1))) v x := by
      intro c v ev
      rw [ev, w32_id b1, b2]
      clear ev
      rw [if_neg c] at hs
      exact ih _ _ _ ⟨k + 1, rfl, by omega, rfl, xo, by rw [hs]; exact x11, by rw [hs]; exact x12⟩ (by omega)
    unfold jn
    refine ⟨fun z2 => skip fun w => ?_, fun z2 => s_X2_isFull fun r2 hr2 => ⟨fun z3 => skip fun w => ?_, fun z3 => ?_⟩⟩
    · rcases hr with e | e
      · omega
      · exact e.2 w.1
    · rcases hr2 with e | e
      · omega
      · omega
    · have hok : okE X Y U V = true := by
        rcases hr with e | e
        · exact e.2
        · exact absurd e.1 z2
      have lt : (stL (nL s) (dD s) (itN seed) k).1 < 10 := by rcases hr2 with e | e <;> omega
      rw [if_pos ⟨hok, lt⟩] at hs
      refine s_X2_add (by omega) ⟨fun _ v ev => ?_, fun w => by omega⟩
      rw [ev, w32_id b1, b2]
      clear ev
      rw [x11, Int.toNat_natCast]
      refine ih _ _ _ ⟨k + 1, rfl, by omega, rfl, fun c hc => by rw [layS_ne (by omega), up_ne _ _ _ (by omega), xo c hc], ?_, ?_⟩ (by omega)
      · rw [hs, layS_ne (by omega), up_apply, if_pos ⟨rfl, rfl⟩]
        rfl
      · rw [hs]
        refine layS_put (fun j hj => ?_)
        rw [up_ne _ _ _ (by omega), up_ne _ _ _ (by omega), up_ne _ _ _ (by omega), up_ne _ _ _ (by omega)]
        exact x12 j hj
theorem s_rfd {t : Sg} {seed : Int} {n : Nat} {post : Int → Sg → Prop} (hI : Inv t) (hn5 : n ≤ 5) (hp : ∀ u, RefB t u → post (drV t seed n) u) : w_X10_byLot t seed (n : Int) post := by
  obtain ⟨h1, h2, h3, h4, h5, h6⟩ := inv_ls hI.1
  unfold w_X10_byLot
  refine s_X10_keep (by omega) fun a ha => ?_
  have ha0 : KepP t 0 a := ha
  have a68 : a 68 = t 68 := ha0.2.2.1 68 (by omega) (by omega)
  have aL : ∀ c, 69 ≤ c → c ≤ 72 → a c = t c := fun c q1 q2 => ha0.2.2.1 c (by omega) (by omega)
  rintro _ rfl
  refine lr_1s (fun w x => ∃ k : Nat, w = (k : Int) ∧ k ≤ n ∧ x 68 42 = zN seed (4 * k) ∧ (∀ c, (c < 68 ∨ 73 ≤ c) → x c = a c) ∧ x 68 43 = a 68 43 ∧ x 68 0 = ((stL (nL t) (dD t) (itN seed) k).1 : Int) ∧ LnAt x 69 ((stL (nL t) (dD t) (itN seed) k).1 : Int) (stL (nL t) (dD t) (itN seed) k).2.1) (fun w _ => ((n : Int) - w).toNat) ?_ 0 _ ⟨0, rfl, Nat.zero_le _, by rw [up_apply, if_pos ⟨rfl, rfl⟩]; rfl, fun c hc => up_ne _ _ _ (by omega), by rw [up_apply, if_neg (by omega)], by rw [up_apply, if_neg (by omega), a68]; exact h4, fun j hj => ?_⟩
  · rintro again _ x ⟨k, rfl, hk, x42, xo, x43, x0, x69⟩ ih
    have ok := stL_ok (it := itN seed) h1 k
    have hs := stL_s (nL t) (dD t) (itN seed) k
    refine ⟨fun z => ?_, fun z => ?_⟩
    · have e : k = n := by omega
      subst e
      refine s_rfn ok x0 x69 fun c hc => ?_
      refine s_X10_layBack (by omega) fun u hu => ?_
      exact hp u (bak_all ha0 xo x43 hc hu)
    · have hk2 : k < n := by omega
      have b1 : ok32 ((k : Int) + 1) := ⟨by omega, by omega⟩
      have b2 : (k : Int) + 1 = ((k + 1 : Nat) : Int) := by omega
      refine s_draw x42 fun y1 o1 p1 q1 => ?_
      refine s_draw q1 fun y2 o2 p2 q2 => ?_
      refine s_draw q2 fun y3 o3 p3 q3 => ?_
      refine s_draw q3 fun y4 o4 p4 q4 => ?_
      have q4 : y4 68 42 = zN seed (4 * (k + 1)) := q4.trans (congrArg (zN seed) (by omega))
      have yo : ∀ c, (c < 68 ∨ 73 ≤ c) → y4 c = a c := fun c hc => by rw [o4 c (by omega), o3 c (by omega), o2 c (by omega), o1 c (by omega), xo c hc]
      have y43 : y4 68 43 = a 68 43 := by rw [p4 43 (by omega), p3 43 (by omega), p2 43 (by omega), p1 43 (by omega)]; exact x43
      have y0 : y4 68 0 = ((stL (nL t) (dD t) (itN seed) k).1 : Int) := by rw [p4 0 (by omega), p3 0 (by omega), p2 0 (by omega), p1 0 (by omega)]; exact x0
      have y69 : LnAt y4 69 ((stL (nL t) (dD t) (itN seed) k).1 : Int) (stL (nL t) (dD t) (itN seed) k).2.1 := fun j hj => by
        have e : ∀ c, c ≠ 68 → y4 c = x c := fun c hc => by rw [o4 c hc, o3 c hc, o2 c hc, o1 c hc]
        rw [e 69 (by omega), e (69 + 1) (by omega), e (69 + 2) (by omega), e (69 + 3) (by omega)]
        exact x69 j hj
      clear x42 xo x43 x0 x69 q1 q2 q3 o1 o2 o3 o4 p1 p2 p3 p4
      show w_X10_line y4 (itN seed (4 * k)) (itN seed (4 * k + 1)) (itN seed (4 * k + 2)) (itN seed (4 * k + 3)) _
      generalize itN seed (4 * k) = X at *
      generalize itN seed (4 * k + 1) = Y at *
      generalize itN seed (4 * k + 2) = U at *
      generalize itN seed (4 * k + 3) = V at *
      refine s_X10_lineP ok y0 y69 (fun c lt w w0 wl wo wo2 v ev => ?_) (fun c r _ v ev => ?_)
      · rw [ev, w32_id b1, b2]
        clear ev
        rw [if_pos ⟨c, lt⟩] at hs
        exact ih _ _ ⟨k + 1, rfl, by omega, by rw [wo2 42 (by omega)]; exact q4, fun c hc => by rw [wo c hc, yo c hc], by rw [wo2 43 (by omega)]; exact y43, by rw [hs]; exact w0, by rw [hs]; exact wl⟩ (by omega)
      · rw [ev, w32_id b1, b2]
        clear ev
        rw [if_neg c] at hs
        exact ih _ _ ⟨k + 1, rfl, by omega, q4, yo, y43, by rw [hs]; exact y0, by rw [hs]; exact y69⟩ (by omega)
  · rw [up_ne _ _ _ (by omega), up_ne _ _ _ (by omega), up_ne _ _ _ (by omega), up_ne _ _ _ (by omega), aL 69 (by omega) (by omega), aL (69 + 1) (by omega) (by omega), aL (69 + 2) (by omega) (by omega), aL (69 + 3) (by omega) (by omega)]
    exact h5 j hj
theorem drV_eq {s t : Sg} (hD : dD t = dD s) (hN : nL t = nL s) (seed : Int) (n : Nat) : drV t seed n = drV s seed n := by unfold drV; rw [hD, hN]
theorem T_drawn {s : Sg} {a b : Int} (hI : Inv s) : w_X9_drawn s a b (fun r1 s1 => w_X10_drawn s1 a b (fun r2 s2 => r1 = r2 ∧ Inv s2)) := by
  have bad : ¬ (0 ≤ b ∧ b ≤ 5) → w_X10_drawn s a b (fun r2 s2 => (-2 : Int) = r2 ∧ Inv s2) := by
    intro hk
    unfold w_X10_drawn jn
    refine s_X10_in fun r hr => ⟨fun z => ⟨rfl, hI⟩, fun z => ?_⟩
    rcases hr with e | e
    · exact absurd e.2 hk
    · exact absurd e.1 z
  unfold w_X9_drawn jn
  refine ⟨fun q => bad (by omega), fun q => ⟨fun q2 => ?_, fun q2 => bad (by omega)⟩⟩
  obtain ⟨n, rfl⟩ : ∃ n : Nat, b = (n : Int) := ⟨b.toNat, by omega⟩
  refine s_cfd hI (by omega) fun v hv => ?_
  obtain ⟨hIv, eD, eN⟩ := ThF_inv hI hv
  unfold w_X10_drawn jn
  refine s_X10_in fun r hr => ⟨fun z => by rcases hr with e | e <;> omega, fun z => ?_⟩
  exact s_rfd hIv (by omega) fun u hu => ⟨(drV_eq eD eN a n).symm, (RefB_inv hIv hu).1⟩
/-- of the first seeds those by which there are so many -/
theorem w32_nat {q : Nat} (h : q ≤ 1000) : w32 (q : Int) = (q : Int) := w32_id ⟨by omega, by omega⟩
noncomputable def thB (s : Sg) (a k : Int) (i : Nat) : Bool := pB (k ≤ drV s (w32 (a + (i : Int))) 3)
theorem T_chance {s : Sg} {a b k p : Int} (hI : Inv s) : w_X9_chance s a b k p (fun r1 s1 => w_X10_chance s1 a b k p (fun r2 s2 => r1 = r2 ∧ Inv s2)) := by
  have bad : ¬ ((1 ≤ b ∧ b ≤ 5) ∧ (0 ≤ k ∧ k ≤ 99) ∧ (0 ≤ p ∧ p ≤ 1)) → w_X10_chance s a b k p (fun r2 s2 => (-2 : Int) = r2 ∧ Inv s2) := by
    intro hk
    unfold w_X10_chance jn
    refine s_X10_in fun r hr => ⟨fun z => ⟨rfl, hI⟩, fun z => s_X10_in fun r2 hr2 => ⟨fun z2 => ⟨rfl, hI⟩, fun z2 => s_X10_in fun r3 hr3 => ⟨fun z3 => ?_, fun z3 => ⟨rfl, hI⟩⟩⟩⟩
    exfalso
    apply hk
    refine ⟨?_, ?_, ?_⟩
    · rcases hr with e | e
      · exact e.2
      · exact absurd e.1 z
    · rcases hr2 with e | e
      · exact e.2
      · exact absurd e.1 z2
    · rcases hr3 with e | e
      · exact e.2
      · exact absurd e.1 z3
  have ref : ∀ (m : Nat) (t : Sg) (r1 : Int), b = (m : Int) → Inv t → dD t = dD s → nL t = nL s → ((1 ≤ b ∧ b ≤ 5) ∧ (0 ≤ k ∧ k ≤ 99) ∧ (0 ≤ p ∧ p ≤ 1)) → (∀ c : Nat, c = cntN (thB s a k) m → r1 = (if p = 0 then ((c / Nat.gcd c m : Nat) : Int) else ((m / Nat.gcd c m : Nat) : Int))) → w_X10_chance t a b k p (fun r2 s2 => r1 = r2 ∧ Inv s2) := by
    intro m t r1 eb hIt eD eN hg g1
    unfold w_X10_chance jn
    refine s_X10_in fun r hr => ⟨fun z => by rcases hr with e | e <;> omega, fun z => s_X10_in fun r2 hr2 => ⟨fun z2 => by rcases hr2 with e | e <;> omega, fun z2 => s_X10_in fun r3 hr3 => ⟨fun z3 => ?_, fun z3 => by rcases hr3 with e | e <;> omega⟩⟩⟩
    refine lr_2s (fun v w x => ∃ i : Nat, w = (i : Int) ∧ i ≤ m ∧ v = (cntN (thB s a k) i : Int) ∧ Inv x ∧ dD x = dD s ∧ nL x = nL s) (fun _ w _ => ((m : Int) - w).toNat) ?_ 0 0 t ⟨0, rfl, Nat.zero_le _, rfl, hIt, eD, eN⟩
    rintro again _ _ x ⟨i, rfl, hi, rfl, hIx, xD, xN⟩ ih
    refine ⟨fun z4 => ?_, fun z4 => ?_⟩
    · have e : i = m := by omega
      subst e
      have cl := cntN_le (thB s a k) i
      have low : ∀ q : Int, (q = 0 ∨ q = 1) → (q = 0 ↔ p = 0) → w_X10_lowest (cntN (thB s a k) i : Int) b q (fun r_11 => r1 = w32 r_11 ∧ Inv x) := by
        intro q hq hqp
        refine s_X10_lowest ⟨by omega, by omega⟩ ⟨by omega, by omega⟩ ⟨?_, hIx⟩
        have g2 := g1 _ rfl
        rw [eb, Int.natAbs_natCast, Int.natAbs_natCast, tdiv_nat, tdiv_nat]
        have d1 := Nat.div_le_self (cntN (thB s a k) i) (Nat.gcd (cntN (thB s a k) i) i)
        have d2 := Nat.div_le_self i (Nat.gcd (cntN (thB s a k) i) i)
        by_cases c : p = 0
        · rw [if_pos c] at g2
          rw [if_pos (hqp.mpr c), w32_nat (by omega)]
          exact g2
        · rw [if_neg c] at g2
          rw [if_neg (fun w => c (hqp.mp w)), w32_nat (by omega)]
          exact g2
      exact ⟨fun z5 => low 0 (Or.inl rfl) ⟨fun _ => by omega, fun _ => rfl⟩, fun z5 => low 1 (Or.inr rfl) ⟨fun w => absurd w (by decide), fun w => by omega⟩⟩
    · have hi2 : i < m := by omega
      have b1 : ok32 ((i : Int) + 1) := ⟨by omega, by omega⟩
      have b2 : (i : Int) + 1 = ((i + 1 : Nat) : Int) := by omega
      have cl := cntN_le (thB s a k) i
      refine s_rfd (n := 3) hIx (by omega) fun u hu => ?_
      obtain ⟨hIu, uD, uN⟩ := RefB_inv hIx hu
      rw [drV_eq xD xN]
      refine ⟨fun z5 v ev => ?_, fun z5 v ev w ew => ?_⟩
      · have c : ¬ thB s a k i = true := by
          unfold thB
          rw [pB_iff]
          omega
        rw [ev, w32_id b1, b2]
        clear ev
        exact ih _ _ _ ⟨i + 1, rfl, by omega, by rw [cntN_s, if_neg c], hIu, uD.trans xD, uN.trans xN⟩ (by omega)
      · have c : thB s a k i = true := by
          unfold thB
          rw [pB_iff]
          omega
        rw [ew, w32_id b1, b2, ev, w32_id ⟨by omega, by omega⟩]
        clear ev ew
        exact ih _ _ _ ⟨i + 1, rfl, by omega, by rw [cntN_s, if_pos c]; omega, hIu, uD.trans xD, uN.trans xN⟩ (by omega)
  unfold w_X9_chance jn
  refine ⟨fun q => bad (by omega), fun q1 => ⟨fun q => bad (by omega), fun q2 => ⟨fun q => bad (by omega), fun q3 => ⟨fun q => bad (by omega), fun q4 => ⟨fun q => bad (by omega), fun q5 => ⟨fun q6 => ?_, fun q => bad (by omega)⟩⟩⟩⟩⟩⟩
  obtain ⟨m, rfl⟩ : ∃ n : Nat, b = (n : Int) := ⟨b.toNat, by omega⟩
  refine lr_2s (fun v w x => ∃ i : Nat, w = (i : Int) ∧ i ≤ m ∧ v = (cntN (thB s a k) i : Int) ∧ Inv x ∧ dD x = dD s ∧ nL x = nL s) (fun _ w _ => ((m : Int) - w).toNat) ?_ 0 0 s ⟨0, rfl, Nat.zero_le _, rfl, hI, rfl, rfl⟩
  rintro again _ _ x ⟨i, rfl, hi, rfl, hIx, xD, xN⟩ ih
  refine ⟨fun z4 => ?_, fun z4 => ?_⟩
  · have e : i = m := by omega
    subst e
    have cl := cntN_le (thB s a k) i
    have gp : 0 < Nat.gcd (cntN (thB s a k) i) i := Nat.gcd_pos_of_pos_right _ (by omega)
    have gl : Nat.gcd (cntN (thB s a k) i) i ≤ i := Nat.gcd_le_right _ (by omega)
    have d1 := Nat.div_le_self (cntN (thB s a k) i) (Nat.gcd (cntN (thB s a k) i) i)
    have d2 := Nat.div_le_self i (Nat.gcd (cntN (thB s a k) i) i)
    have go : ∀ (y : Nat), y ≤ 5 → ((p = 0 → y = cntN (thB s a k) i) ∧ (p = 1 → y = i)) → w_X9_commonDivisor (cntN (thB s a k) i : Int) (i : Int) (fun r_8 => ¬ (w32 r_8) = 0 ∧ w_X10_chance x a (i : Int) k p (fun r2 s2 => w32 ((y : Int).tdiv (w32 r_8)) = r2 ∧ Inv s2)) := by
      intro y hy5 hy
      refine s_X9_commonDivisor (by omega) (by omega) gp ?_
      rw [w32_id (show ok32 (Nat.gcd (cntN (thB s a k) i) i : Int) from ⟨by omega, by omega⟩), tdiv_nat]
      have d3 := Nat.div_le_self y (Nat.gcd (cntN (thB s a k) i) i)
      rw [w32_nat (q := y / Nat.gcd (cntN (thB s a k) i) i) (by omega)]
      refine ⟨by omega, ref i x _ rfl hIx xD xN (by omega) fun c ec => ?_⟩
      subst ec
      by_cases c : p = 0
      · rw [if_pos c, hy.1 c]
      · rw [if_neg c, hy.2 (by omega)]
    exact ⟨fun z5 => go i (by omega) ⟨fun w => absurd w z5, fun _ => rfl⟩, fun z5 => go _ (by omega) ⟨fun _ => rfl, fun w => by omega⟩⟩
  · have hi2 : i < m := by omega
    have b1 : ok32 ((i : Int) + 1) := ⟨by omega, by omega⟩
    have b2 : (i : Int) + 1 = ((i + 1 : Nat) : Int) := by omega
    have cl := cntN_le (thB s a k) i
    refine s_cfd (n := 3) hIx (by omega) fun u hu => ?_
    obtain ⟨hIu, uD, uN⟩ := ThF_inv hIx hu
    rw [drV_eq xD xN]
    refine ⟨fun z5 v ev => ?_, fun z5 v ev w ew => ?_⟩
    · have c : ¬ thB s a k i = true := by
        unfold thB
        rw [pB_iff]
        omega
      rw [ev, w32_id b1, b2]
      clear ev
      exact ih _ _ _ ⟨i + 1, rfl, by omega, by rw [cntN_s, if_neg c], hIu, uD.trans xD, uN.trans xN⟩ (by omega)
    · have c : thB s a k i = true := by
        unfold thB
        rw [pB_iff]
        omega
      rw [ew, w32_id b1, b2, ev, w32_id ⟨by omega, by omega⟩]
      clear ev ew
      exact ih _ _ _ ⟨i + 1, rfl, by omega, by rw [cntN_s, if_pos c]; omega, hIu, uD.trans xD, uN.trans xN⟩ (by omega)
