/-! the reference's insertion -/
theorem lo_R {x d : Int} (hx : 0 ≤ x ∧ x ≤ 256000) (hd : 0 < d ∧ d ≤ 3200) : (0 ≤ loN x d ∧ loN x d ≤ 256000) ∧ (0 < loD x d ∧ loD x d ≤ 3200) ∧ Nat.gcd (loN x d).natAbs (loD x d).natAbs = 1 ∧ loN x d * d = x * loD x d := by
  have w := lo_w hx hd
  have ex : x = ((x.natAbs : Nat) : Int) := by omega
  have ed : d = ((d.natAbs : Nat) : Int) := by omega
  have h1 : loN x d = ((x.natAbs / Nat.gcd x.natAbs d.natAbs : Nat) : Int) := by
    unfold loN
    conv => lhs; rw [ex]
    rw [tdiv_nat, Int.natAbs_natCast]
  have h2 : loD x d = ((d.natAbs / Nat.gcd x.natAbs d.natAbs : Nat) : Int) := by
    unfold loD
    conv => lhs; rw [ed]
    rw [tdiv_nat, Int.natAbs_natCast]
  have hg : 0 < Nat.gcd x.natAbs d.natAbs := Nat.gcd_pos_of_pos_right _ (by omega)
  have hl : Nat.gcd x.natAbs d.natAbs ≤ d.natAbs := Nat.gcd_le_right _ (by omega)
  have hp : 0 < d.natAbs / Nat.gcd x.natAbs d.natAbs := Nat.div_pos hl hg
  have d1 := Nat.div_mul_cancel (Nat.gcd_dvd_left x.natAbs d.natAbs)
  have d2 := Nat.div_mul_cancel (Nat.gcd_dvd_right x.natAbs d.natAbs)
  have hc : Nat.gcd (x.natAbs / Nat.gcd x.natAbs d.natAbs) (d.natAbs / Nat.gcd x.natAbs d.natAbs) = 1 := by
    have h := Nat.gcd_mul_right (x.natAbs / Nat.gcd x.natAbs d.natAbs) (Nat.gcd x.natAbs d.natAbs) (d.natAbs / Nat.gcd x.natAbs d.natAbs)
    rw [d1, d2] at h
    refine Nat.eq_of_mul_eq_mul_right hg ?_
    rw [← h, Nat.one_mul]
  rw [h1, h2] at w ⊢
  clear h1 h2
  obtain ⟨-, -, w3, w4⟩ := w
  generalize hX : x.natAbs / Nat.gcd x.natAbs d.natAbs = X at *
  generalize hY : d.natAbs / Nat.gcd x.natAbs d.natAbs = Y at *
  refine ⟨w3, ⟨by omega, w4.2⟩, by rw [Int.natAbs_natCast, Int.natAbs_natCast]; exact hc, ?_⟩
  have e : X * d.natAbs = x.natAbs * Y := by
    conv => lhs; rw [← d2]
    conv => rhs; rw [← d1]
    rw [Nat.mul_comm Y, ← Nat.mul_assoc]
  conv => lhs; rw [ed]
  conv => rhs; rw [ex]
  exact_mod_cast e
/-- a place by its x and y over one number, in lowest terms -/
def loP (x y d : Int) : Int × Int × Int × Int := (loN x d, loD x d, loN y d, loD y d)
theorem loP_ok {x y d : Int} (hx : 0 ≤ x ∧ x ≤ 256000) (hy : 0 ≤ y ∧ y ≤ 256000) (hd : 0 < d ∧ d ≤ 3200) : PlB (loP x y d) ∧ PlR (loP x y d) := by
  have h1 := lo_R hx hd
  have h2 := lo_R hy hd
  exact ⟨⟨h1.1, h1.2.1, h2.1, h2.2.1⟩, ⟨h1.2.2.1, h2.2.2.1⟩⟩
theorem s_X10_addPoint {s : Sg} {m : Nat} {f : Nat → Int × Int × Int × Int} {x y d : Int} {post : Sg → Prop} (hsz : s 68 9 = (m : Int)) (hat : PtAt s 73 74 75 76 m f) (hf : RowP f m) (hx : 0 ≤ x ∧ x ≤ 256000) (hy : 0 ≤ y ∧ y ≤ 256000) (hd : 0 < d ∧ d ≤ 3200) (hm : m < 80)
    (hp : ∀ (t : Sg) (g : Nat → Int × Int × Int × Int) (k : Nat), (∀ c, (c < 68 ∨ c = 69 ∨ c = 70 ∨ c = 71 ∨ c = 72 ∨ 77 ≤ c) → t c = s c) → (∀ o, o ≠ 9 → t 68 o = s 68 o) → t 68 9 = (k : Int) → PtAt t 73 74 75 76 k g → InsP f m (loP x y d) g k → post t) : w_X10_addPoint s x y d post := by
  unfold w_X10_addPoint
  have hq := loP_ok hx hy hd
  refine s_X10_lowest (by omega) (by omega) ?_
  rw [if_pos rfl, ← loN.eq_1]
  refine s_X10_lowest (by omega) (by omega) ?_
  rw [if_neg (by decide), ← loD.eq_1]
  refine s_X10_lowest (by omega) (by omega) ?_
  rw [if_pos rfl, ← loN.eq_1]
  refine s_X10_lowest (by omega) (by omega) ?_
  rw [if_neg (by decide), ← loD.eq_1]
  have eq : (loN x d, loD x d, loN y d, loD y d) = loP x y d := rfl
  have q1 : loN x d = (loP x y d).1 := rfl
  have q2 : loD x d = (loP x y d).2.1 := rfl
  have q3 : loN y d = (loP x y d).2.2.1 := rfl
  have q4 : loD y d = (loP x y d).2.2.2 := rfl
  rw [q1, q2, q3, q4]
  clear eq q1 q2 q3 q4
  generalize loP x y d = q at *
  rw [hsz]
  refine lr_1 (fun i => ∃ k : Nat, i = (k : Int) ∧ k ≤ m ∧ ∀ j, j < k → ltP (f j) q) (fun i => ((m : Int) - i).toNat) ?_ _ ⟨0, rfl, Nat.zero_le _, fun j hj => absurd hj (Nat.not_lt_zero _)⟩
  rintro again _ ⟨k, rfl, hk, hlo⟩ ih
  have ins : (k = m ∨ 0 < cmpP (f k) q) → ∀ v16_9, v16_9 = (m : Int) → (lp_1s (fun (again_12 : Int → Sg → Prop) (v16_10 : Int) (s_11 : Sg) => (v16_10 ≤ (k : Int) → (0 ≤ (k : Int) ∧ (k : Int) < 80) ∧ (∀ s_14, s_14 = up s_11 73 ((k : Int).toNat) q.1 → ((0 ≤ (k : Int) ∧ (k : Int) < 80) ∧ (∀ s_16, s_16 = up s_14 74 ((k : Int).toNat) q.2.1 → ((0 ≤ (k : Int) ∧ (k : Int) < 80) ∧ (∀ s_18, s_18 = up s_16 75 ((k : Int).toNat) q.2.2.1 → ((0 ≤ (k : Int) ∧ (k : Int) < 80) ∧ (∀ s_20, s_20 = up s_18 76 ((k : Int).toNat) q.2.2.2 → (∀ s_21, s_21 = up s_20 68 9 (w32 ((s_20 68 9) + 1)) → (post s_21)))))))))) ∧ (¬ v16_10 ≤ (k : Int) → (0 ≤ w32 (v16_10 - 1) ∧ w32 (v16_10 - 1) < 80) ∧ ((0 ≤ v16_10 ∧ v16_10 < 80) ∧ (∀ s_24, s_24 = up s_11 73 (v16_10.toNat) (s_11 73 (w32 (v16_10 - 1)).toNat) → ((0 ≤ w32 (v16_10 - 1) ∧ w32 (v16_10 - 1) < 80) ∧ ((0 ≤ v16_10 ∧ v16_10 < 80) ∧ (∀ s_27, s_27 = up s_24 74 (v16_10.toNat) (s_24 74 (w32 (v16_10 - 1)).toNat) → ((0 ≤ w32 (v16_10 - 1) ∧ w32 (v16_10 - 1) < 80) ∧ ((0 ≤ v16_10 ∧ v16_10 < 80) ∧ (∀ s_30, s_30 = up s_27 75 (v16_10.toNat) (s_27 75 (w32 (v16_10 - 1)).toNat) → ((0 ≤ w32 (v16_10 - 1) ∧ w32 (v16_10 - 1) < 80) ∧ ((0 ≤ v16_10 ∧ v16_10 < 80) ∧ (∀ s_33, s_33 = up s_30 76 (v16_10.toNat) (s_30 76 (w32 (v16_10 - 1)).toNat) → (∀ v16_34, v16_34 = w32 (v16_10 + (-1)) → (again_12 v16_34 s_33))))))))))))))) v16_9 s) := by
    intro hhi v ev
    rw [ev]
    refine s_shift (by omega) (by omega) (by omega) (by omega) (by omega) (by omega) hat (by omega) (by omega) (by decide) fun t ho hpt s19 e19 => ?_
    have t0 : t 68 = s 68 := ho 68 (by omega) (by omega) (by omega) (by omega)
    rw [t0, hsz, w32_id (show ok32 ((m : Int) + 1) from ⟨by omega, by omega⟩)] at e19
    subst e19
    rw [Int.toNat_natCast] at hpt
    refine hp _ (insG f k q) (m + 1) (fun c hc => by rw [up_ne _ _ _ (by omega), ho c (by omega) (by omega) (by omega) (by omega)]) (fun o ho2 => by rw [up_apply, t0]; simp [ho2]) (by rw [up_apply]; simp) (fun j hj => ?_) (InsP_new hf.1 hk hlo (fun j h1 h2 => ?_))
    · rw [up_ne _ _ _ (by omega), up_ne _ _ _ (by omega), up_ne _ _ _ (by omega), up_ne _ _ _ (by omega)]
      exact hpt j hj
    · rcases hhi with e | e
      · omega
      · have first : ltP q (f k) := ltP_of (hf.2 k (by omega)).1 hq.1 e
        by_cases dd : j = k
        · rw [dd]; exact first
        · exact ltP_tr _ _ _ first (hf.1 k j (by omega) h2)
  unfold jn
  have stop : ∀ P : Prop, ((k = m ∨ 0 < cmpP (f k) q) → P) → (k < m → cmpP (f k) q = 0 → post s) → ¬ (k < m ∧ cmpP (f k) q < 0) → ((m : Int) ≤ (k : Int) → P) ∧ (¬ (m : Int) ≤ (k : Int) → w_X10_pointAgainst s (k : Int) q.1 q.2.1 q.2.2.1 q.2.2.2 (fun r_35 => (¬ r_35 = 0 → P) ∧ (r_35 = 0 → post s))) := by
    intro P h1 h2 h3
    refine ⟨fun z => h1 (Or.inl (by omega)), fun z => ?_⟩
    have hfk := hf.2 k (by omega)
    exact s_X10_pointAgainst (by omega) hfk.1 hq.1 (hat k (by omega)) ⟨fun z2 => h1 (Or.inr (by omega)), fun z2 => h2 (by omega) z2⟩
  have dup : k < m → cmpP (f k) q = 0 → post s := by
    intro hkm z
    have hfk := hf.2 k hkm
    exact hp s f m (fun _ _ => rfl) (fun _ _ => rfl) hsz hat (InsP_old hf.1 hkm (cmpP_eq hfk.1 hq.1 hfk.2 hq.2 z))
  refine ⟨fun c => stop _ ins dup (fun z => by omega), fun c => ?_⟩
  have hfk := hf.2 k (by omega)
  refine s_X10_pointAgainst (by omega) hfk.1 hq.1 (hat k (by omega)) ⟨fun z => stop _ ins dup (fun z2 => by omega), fun z v ev => ?_⟩
  have b1 : ok32 ((k : Int) + 1) := ⟨by omega, by omega⟩
  have b2 : (k : Int) + 1 = ((k + 1 : Nat) : Int) := by omega
  rw [ev, w32_id b1, b2]
  clear ev
  refine ih _ ⟨k + 1, rfl, by omega, fun j hj => ?_⟩ (by omega)
  by_cases e : j = k
  · subst e
    exact ⟨hfk.1, hq.1, by omega⟩
  · exact hlo j (by omega)
