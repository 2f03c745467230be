/-! common divisors -/
theorem mod_half {r b : Nat} (h0 : 0 < r) (h : r < b) : 2 * (b % r) < b := by
  have h1 := Nat.div_add_mod b r
  have h2 : 1 ≤ b / r := Nat.div_pos (by omega) h0
  have h3 : b % r < r := Nat.mod_lt _ h0
  have h4 : r * 1 ≤ r * (b / r) := Nat.mul_le_mul_left r h2
  omega
theorem tmod_nat (a b : Nat) : (a : Int).tmod (b : Int) = ((a % b : Nat) : Int) := rfl
theorem tdiv_nat (a b : Nat) : (a : Int).tdiv (b : Int) = ((a / b : Nat) : Int) := rfl
theorem gcd_step (a b : Nat) : Nat.gcd b (a % b) = Nat.gcd a b := by
  rw [Nat.gcd_comm b, ← Nat.gcd_rec, Nat.gcd_comm]
theorem s_X10_common : ∀ (k fuel a b : Nat) (post : Int → Prop), b < 2 ^ k → k ≤ 40 → 2 * k + 1 ≤ fuel → post (Nat.gcd a b : Int) → w_X10_common fuel (a : Int) (b : Int) post := by
  intro k
  induction k with
  | zero =>
    intro fuel a b post hb _ hf hp
    obtain ⟨fuel, rfl⟩ : ∃ f, fuel = f + 1 := ⟨fuel - 1, by omega⟩
    have : b = 0 := by omega
    subst this
    unfold w_X10_common jn
    rw [Nat.gcd_zero_right] at hp
    exact ⟨fun h => absurd rfl h, fun _ => hp⟩
  | succ k ih =>
    intro fuel a b post hb hk hf hp
    obtain ⟨fuel, rfl⟩ : ∃ f, fuel = f + 1 + 1 := ⟨fuel - 2, by omega⟩
    have p40 : 2 ^ (k + 1) ≤ 2 ^ 40 := Nat.pow_le_pow_right (by decide) hk
    have p40' : (2 : Nat) ^ 40 = 1099511627776 := by decide
    rw [p40'] at p40
    unfold w_X10_common jn
    refine ⟨fun h => ⟨h, ?_⟩, fun h => ?_⟩
    · have hb0 : 0 < b := by omega
      have hr : a % b < b := Nat.mod_lt _ hb0
      rw [tmod_nat, w64_id (show ok64 ((a % b : Nat) : Int) from ⟨by omega, by omega⟩)]
      unfold w_X10_common jn
      refine ⟨fun h2 => ⟨h2, ?_⟩, fun h2 => ?_⟩
      · have hr0 : 0 < a % b := by omega
        have hh := mod_half hr0 hr
        have hps : 2 ^ (k + 1) = 2 * 2 ^ k := by rw [Nat.pow_succ, Nat.mul_comm]
        rw [tmod_nat, w64_id (show ok64 ((b % (a % b) : Nat) : Int) from ⟨by omega, by omega⟩)]
        refine ih fuel _ _ _ (by omega) (by omega) (by omega) ?_
        rw [gcd_step b, gcd_step a]
        exact hp
      · have e : a % b = 0 := by omega
        have := gcd_step a b
        rw [e, Nat.gcd_zero_right] at this
        rw [← this] at hp
        exact hp
    · have : b = 0 := by omega
      subst this
      rw [Nat.gcd_zero_right] at hp
      exact hp
theorem s_X9_commonDivisor {a b : Nat} {post : Int → Prop} (hb : b < 2 ^ 40) (ha : a < 2 ^ 40) (h0 : 0 < Nat.gcd a b) (hp : post (Nat.gcd a b : Int)) : w_X9_commonDivisor (a : Int) (b : Int) post := by
  unfold w_X9_commonDivisor
  have pw : (2 : Nat) ^ 40 = 1099511627776 := by decide
  refine lr_3 (fun x y i => ∃ p q j m : Nat, x = (p : Int) ∧ y = (q : Int) ∧ i = (j : Int) ∧ Nat.gcd p q = Nat.gcd a b ∧ q < 2 ^ 40 ∧ j + m = 80 ∧ ((∃ k, m = 2 * k ∧ q < 2 ^ k) ∨ (∃ k, m = 2 * k + 1 ∧ q < p ∧ p < 2 ^ (k + 1)))) (fun _ _ i => (100 - i).toNat) ?_ _ _ _ ⟨a, b, 0, 80, rfl, rfl, rfl, rfl, hb, rfl, Or.inl ⟨40, rfl, hb⟩⟩
  rintro again _ _ _ ⟨p, q, j, m, rfl, rfl, rfl, hg, hq, hjm, hm⟩ ih
  have fin : q = 0 → jn (fun (K_7 : Int → Prop) => ((p : Int) ≤ 0 → K_7 1) ∧ (¬ (p : Int) ≤ 0 → K_7 (p : Int))) (fun (t_6 : Int) => post t_6) := by
    intro e
    subst e
    rw [Nat.gcd_zero_right] at hg
    subst hg
    exact ⟨fun h => by omega, fun _ => hp⟩
  refine ⟨fun c => by omega, fun c => ⟨fun c2 => fin (by omega), fun c2 => ⟨c2, ?_⟩⟩⟩
  have hq0 : 0 < q := by omega
  have hr : p % q < q := Nat.mod_lt _ hq0
  have b1 : ok32 ((j : Int) + 1) := ⟨by omega, by omega⟩
  have b2 : (j : Int) + 1 = ((j + 1 : Nat) : Int) := by omega
  have b3 : ok64 ((p % q : Nat) : Int) := ⟨by omega, by omega⟩
  intro v ev v8 ev8
  rw [ev, ev8, w32_id b1, b2, tmod_nat, w64_id b3]
  clear ev ev8
  have m0 : 0 < m := by
    rcases hm with ⟨k, e, h⟩ | ⟨k, e, h⟩
    · rcases Nat.eq_zero_or_pos m with z | z
      · have : k = 0 := by omega
        subst this
        omega
      · exact z
    · omega
  refine ih _ _ _ ⟨q, p % q, j + 1, m - 1, rfl, rfl, rfl, by rw [gcd_step, hg], by omega, by omega, ?_⟩ (by omega)
  rcases hm with ⟨k, e, h⟩ | ⟨k, e, h, h2⟩
  · refine Or.inr ⟨k - 1, by omega, hr, ?_⟩
    have : k - 1 + 1 = k := by omega
    rw [this]
    exact h
  · refine Or.inl ⟨k, by omega, ?_⟩
    have hh := mod_half hq0 h
    have hps : 2 ^ (k + 1) = 2 * 2 ^ k := by rw [Nat.pow_succ, Nat.mul_comm]
    omega
theorem gcd_q {x : Int} {d : Nat} (hx : 0 ≤ x) : ((x.toNat : Nat) : Int) = x := by omega
theorem s_X10_lowest {x d b : Int} {post : Int → Prop} (hx : -1099511627775 ≤ x ∧ x ≤ 1099511627775) (hd : 0 < d ∧ d < 1099511627775) (hp : post (if b = 0 then x.tdiv (Nat.gcd x.natAbs d.natAbs : Int) else d.tdiv (Nat.gcd x.natAbs d.natAbs : Int))) : w_X10_lowest x d b post := by
  unfold w_X10_lowest w_X10_size jn
  have pw : (2 : Nat) ^ 40 = 1099511627776 := by decide
  have hg : 0 < Nat.gcd x.natAbs d.natAbs := Nat.gcd_pos_of_pos_right _ (by omega)
  have ed : d = ((d.natAbs : Nat) : Int) := by omega
  have main : w_X10_common 100 ((x.natAbs : Nat) : Int) d (fun r_2 => (b = 0 → ¬ r_2 = 0 ∧ (post (w64 (x.tdiv r_2)))) ∧ (¬ b = 0 → ¬ r_2 = 0 ∧ (post (w64 (d.tdiv r_2))))) := by
    rw [ed]
    refine s_X10_common 40 100 _ _ _ (by omega) (by omega) (by omega) ?_
    have b1 : ∀ y : Int, (-1099511627775 ≤ y ∧ y ≤ 1099511627775) → w64 (y.tdiv (Nat.gcd x.natAbs d.natAbs : Int)) = y.tdiv (Nat.gcd x.natAbs d.natAbs : Int) := by
      intro y hy
      have h1 := Int.natAbs_tdiv_le_natAbs y (Nat.gcd x.natAbs d.natAbs : Int)
      exact w64_id ⟨by omega, by omega⟩
    refine ⟨fun e => ⟨by omega, ?_⟩, fun e => ⟨by omega, ?_⟩⟩
    · rw [b1 x hx]
      rw [if_pos e] at hp
      exact hp
    · rw [← ed, b1 d (by omega)]
      rw [if_neg e] at hp
      exact hp
  refine ⟨fun c => ?_, fun c => ?_⟩
  · have e : ((x.natAbs : Nat) : Int) = x := by omega
    rw [e] at main
    exact main
  · have e : ((x.natAbs : Nat) : Int) = -x := by omega
    rw [w64_id (show ok64 (-x) from ⟨by omega, by omega⟩), ← e]
    exact main
