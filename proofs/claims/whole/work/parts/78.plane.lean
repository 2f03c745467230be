/-! the sheet cut all through: each cycle parts its cells -/
theorem d2 {c k : Nat} (hk : k < 32) : (2 * (32 * c + k)) % 2 = 0 ∧ (2 * (32 * c + k)) / 2 / 32 = c ∧ (2 * (32 * c + k)) / 2 % 32 = k ∧ (2 * (32 * c + k) + 1) % 2 = 1 ∧ (2 * (32 * c + k) + 1) / 2 / 32 = c ∧ (2 * (32 * c + k) + 1) / 2 % 32 = k := by omega
noncomputable def eVl (D : Nat → Nat → Int) (g : Nat → Int × Int) (n M e : Nat) : Bool := if e % 2 = 0 then decide (e / 2 % 32 < nC D g n M (e / 2 / 32) - 1) else decide (e / 2 / 32 < M ∧ e / 2 % 32 ≤ tK D g n (e / 2 / 32))
noncomputable def eU (D : Nat → Nat → Int) (g : Nat → Int × Int) (n M e : Nat) : Nat := if e % 2 = 0 then 32 * (e / 2 / 32 - 1) + rk D g n (e / 2 / 32 - 1) (EV D g n (e / 2 / 32) (e / 2 % 32) (e / 2 / 32 - 1)) else if e / 2 % 32 = 0 then 32 * M else 32 * (e / 2 / 32) + (e / 2 % 32 - 1)
noncomputable def eV (D : Nat → Nat → Int) (g : Nat → Int × Int) (n M e : Nat) : Nat := if e % 2 = 0 then 32 * (e / 2 / 32) + rk D g n (e / 2 / 32) (EV D g n (e / 2 / 32) (e / 2 % 32) (e / 2 / 32)) else if e / 2 % 32 = tK D g n (e / 2 / 32) then 32 * M else 32 * (e / 2 / 32) + e / 2 % 32
noncomputable def eC (D : Nat → Nat → Int) (g : Nat → Int × Int) (n M e : Nat) : Nat := if e % 2 = 0 then fC D g n M (e / 2 / 32) + e / 2 % 32 else fC D g n M (e / 2 / 32) + psC D g n M (e / 2 / 32) (e / 2 / 32) (e / 2 % 32)
noncomputable def eE (D : Nat → Nat → Int) (g : Nat → Int × Int) (n M e : Nat) : Nat := if e % 2 = 0 then fC D g n M (e / 2 / 32) + e / 2 % 32 + 1 else fC D g n M (e / 2 / 32 + 1) + psC D g n M (e / 2 / 32 + 1) (e / 2 / 32) (e / 2 % 32)
theorem e_even (D : Nat → Nat → Int) (g : Nat → Int × Int) (n M : Nat) {c k : Nat} (hk : k < 32) : eVl D g n M (2 * (32 * c + k)) = decide (k < nC D g n M c - 1) ∧ eU D g n M (2 * (32 * c + k)) = 32 * (c - 1) + rk D g n (c - 1) (EV D g n c k (c - 1)) ∧ eV D g n M (2 * (32 * c + k)) = 32 * c + rk D g n c (EV D g n c k c) ∧ eC D g n M (2 * (32 * c + k)) = fC D g n M c + k ∧ eE D g n M (2 * (32 * c + k)) = fC D g n M c + k + 1 := by
  obtain ⟨a1, a2, a3, -⟩ := d2 (c := c) hk
  unfold eVl eU eV eC eE
  rw [a1, a2, a3]
  exact ⟨rfl, rfl, rfl, rfl, rfl⟩
theorem e_odd (D : Nat → Nat → Int) (g : Nat → Int × Int) (n M : Nat) {c k : Nat} (hk : k < 32) : eVl D g n M (2 * (32 * c + k) + 1) = decide (c < M ∧ k ≤ tK D g n c) ∧ eU D g n M (2 * (32 * c + k) + 1) = (if k = 0 then 32 * M else 32 * c + (k - 1)) ∧ eV D g n M (2 * (32 * c + k) + 1) = (if k = tK D g n c then 32 * M else 32 * c + k) ∧ eC D g n M (2 * (32 * c + k) + 1) = fC D g n M c + psC D g n M c c k ∧ eE D g n M (2 * (32 * c + k) + 1) = fC D g n M (c + 1) + psC D g n M (c + 1) c k := by
  obtain ⟨-, -, -, a1, a2, a3⟩ := d2 (c := c) hk
  unfold eVl eU eV eC eE
  rw [a1, a2, a3]
  exact ⟨rfl, rfl, rfl, rfl, rfl⟩
theorem e_form {e M : Nat} (he : e < 2 * (32 * (M + 1))) : ∃ c k, c ≤ M ∧ k < 32 ∧ (e = 2 * (32 * c + k) ∨ e = 2 * (32 * c + k) + 1) := ⟨e / 2 / 32, e / 2 % 32, by omega, by omega, by omega⟩
theorem e_bd {D : Nat → Nat → Int} {n m M : Nat} {f : Nat → Int × Int × Int × Int} {g : Nat → Int × Int} (hS : Swp D n m f M g) {e : Nat} (he : e < 2 * (32 * (M + 1))) (hv : eVl D g n M e = true) : (eU D g n M e < 32 * M + 1 ∧ eV D g n M e < 32 * M + 1) ∧ (eC D g n M e < fC D g n M (M + 1) ∧ eE D g n M e < fC D g n M (M + 1)) := by
  obtain ⟨c, k, hc, hk, rfl | rfl⟩ := e_form he
  · obtain ⟨a1, a2, a3, a4, a5⟩ := e_even D g n M (c := c) hk
    rw [a1, decide_eq_true_iff] at hv
    obtain ⟨k1, k2, k3, k4, -⟩ := EV_ok hS (s := c) (c := c) hv (Or.inl rfl)
    have k5 := (EV_ok hS (s := c) (c := c - 1) hv (Or.inr (by omega))).2.2.2.1
    have r1 := rk_lt k4
    have r2 := rk_lt k5
    have t1 := tK_20 (D := D) (g := g) (n := n) (c := c) (by have := hS.1.1; omega)
    have t2 := tK_20 (D := D) (g := g) (n := n) (c := c - 1) (by have := hS.1.1; omega)
    have fm := fC_mono (D := D) (g := g) (n := n) (M := M) (show c + 1 ≤ M + 1 by omega)
    rw [fC_s] at fm
    rw [a2, a3, a4, a5]
    omega
  · obtain ⟨a1, a2, a3, a4, a5⟩ := e_odd D g n M (c := c) hk
    rw [a1, decide_eq_true_iff] at hv
    have t1 := tK_20 (D := D) (g := g) (n := n) (c := c) (by have := hS.1.1; omega)
    have fm := fC_mono (D := D) (g := g) (n := n) (M := M) (show c + 1 + 1 ≤ M + 1 by omega)
    rw [fC_s, fC_s] at fm
    have p1 := ps_le D g n M c c k
    have p2 := ps_le D g n M (c + 1) c k
    have n1 := nC_le (g := g) (M := M) (s := c) hS.1
    have n2 := nC_le (g := g) (M := M) (s := c + 1) hS.1
    rw [a2, a3, a4, a5]
    refine ⟨⟨?_, ?_⟩, ?_, ?_⟩
    · split <;> omega
    · split <;> omega
    · omega
    · have fs := fC_s D g n M c
      omega
theorem xs_ck (f : Nat → Bool) (K : Nat) : xs f (2 * (32 * K)) = (xs (fun c => xs (fun k => f (2 * (32 * c + k))) 32) K ^^ xs (fun c => xs (fun k => f (2 * (32 * c + k) + 1)) 32) K) := by
  rw [xs_pair, xs_xor, xs_block, xs_block]
theorem xs_at {F : Nat → Nat → Bool} {K c0 k0 : Nat} (hc : c0 < K) (hk : k0 < 32) (h : ∀ c k, c < K → k < 32 → F c k = true → c = c0 ∧ k = k0) : xs (fun c => xs (fun k => F c k) 32) K = F c0 k0 := by
  rw [xs_one hc (fun c hc' hne => xs_0 fun k hk' => ?_), xs_one hk (fun k hk' hne => ?_)]
  · cases z : F c0 k
    · rfl
    · exact absurd (h c0 k hc hk' z).2 hne
  · cases z : F c k
    · rfl
    · exact absurd (h c k hc' hk' z).1 hne
/-- the slab of a cell -/
def slO (D : Nat → Nat → Int) (g : Nat → Int × Int) (n M a : Nat) : Nat := cntN (fun s => decide (fC D g n M (s + 1) ≤ a)) (M + 1)
theorem slO_at {D : Nat → Nat → Int} {g : Nat → Int × Int} {n M s q : Nat} (h : LsD D (n : Int)) (hs : s ≤ M) (hq : q < nC D g n M s) : slO D g n M (fC D g n M s + q) = s := by
  have ci := cnt_init (p := fun x => decide (fC D g n M (x + 1) ≤ fC D g n M s + q)) (N := M + 1) (fun i j hij _ pj => by
    rw [decide_eq_true_iff] at pj ⊢
    have := fC_mono (D := D) (g := g) (n := n) (M := M) (show i + 1 ≤ j + 1 by omega)
    omega)
  have le := cntN_le (fun x => decide (fC D g n M (x + 1) ≤ fC D g n M s + q)) (M + 1)
  have k1 : ∀ x, x < s → fC D g n M (x + 1) ≤ fC D g n M s + q := fun x hx => by
    have := fC_mono (D := D) (g := g) (n := n) (M := M) (show x + 1 ≤ s by omega)
    omega
  have k2 : ¬ fC D g n M (s + 1) ≤ fC D g n M s + q := by rw [fC_s]; omega
  unfold slO
  rcases Nat.lt_trichotomy (cntN (fun x => decide (fC D g n M (x + 1) ≤ fC D g n M s + q)) (M + 1)) s with c | c | c
  · have := (ci _ (by omega)).mpr (decide_eq_true (k1 _ c))
    omega
  · exact c
  · have := (ci s (by omega)).mp c
    rw [decide_eq_true_iff] at this
    exact absurd this k2
def colF (z : Nat → Bool) (s q : Nat) : Bool := xs (fun c => z (2 * (32 * c + 0) + 1)) s ^^ xs (fun q => z (2 * (32 * s + q))) q
theorem colF_e (D : Nat → Nat → Int) (g : Nat → Int × Int) (n M : Nat) (z : Nat → Bool) (s q : Nat) : colF (fun e => eVl D g n M e && z e) s q = (xs (fun c => eVl D g n M (2 * (32 * c + 0) + 1) && z (2 * (32 * c + 0) + 1)) s ^^ xs (fun q => eVl D g n M (2 * (32 * s + q)) && z (2 * (32 * s + q))) q) := rfl
theorem rk_32 {D : Nat → Nat → Int} {n m M : Nat} {f : Nat → Int × Int × Int × Int} {g : Nat → Int × Int} (hS : Swp D n m f M g) {s q c : Nat} (hq : q < nC D g n M s - 1) (hc : c = s ∨ c + 1 = s) : rk D g n c (EV D g n s q c) < 32 := by
  have k4 := (EV_ok hS hq hc).2.2.2.1
  have r1 := rk_lt k4
  have t1 := tK_20 (D := D) (g := g) (n := n) (c := c) (by have := hS.1.1; omega)
  omega
theorem planar {D : Nat → Nat → Int} {n m M : Nat} {f : Nat → Int × Int × Int × Int} {g : Nat → Int × Int} (hS : Swp D n m f M g) : PlP (eU D g n M) (eV D g n M) (eC D g n M) (eE D g n M) (eVl D g n M) (2 * (32 * (M + 1))) := by
  intro z hz
  have hn10 := hS.1.1
  have key : ∀ c, c < M → ∀ r, r ≤ tK D g n c → (colF (fun e => eVl D g n M e && z e) c (psC D g n M c c r) ^^ colF (fun e => eVl D g n M e && z e) (c + 1) (psC D g n M (c + 1) c r)) = (eVl D g n M (2 * (32 * c + r) + 1) && z (2 * (32 * c + r) + 1)) := by
    intro c hc r
    have t20 := tK_20 (D := D) (g := g) (n := n) (c := c) (by omega)
    induction r with
    | zero =>
      intro _
      have p0 : ∀ s, psC D g n M s c 0 = 0 := fun s => cnt_none fun q _ => by rw [decide_eq_true_iff]; omega
      rw [p0, p0]
      rw [colF_e, colF_e]
      have e0 : ∀ G : Nat → Bool, xs G 0 = false := fun _ => rfl
      rw [xs_s, e0, e0]
      generalize xs (fun c => eVl D g n M (2 * (32 * c + 0) + 1) && z (2 * (32 * c + 0) + 1)) c = p
      generalize (eVl D g n M (2 * (32 * c + 0) + 1) && z (2 * (32 * c + 0) + 1)) = q
      revert p q
      decide
    | succ r ih =>
      intro hr
      have ih := ih (by omega)
      have hb := hz (32 * c + r)
      unfold bdX at hb
      have A : ∀ s, s ≤ M → (c = s ∨ c + 1 = s) → ∀ r, xs (fun q => eVl D g n M (2 * (32 * s + q)) && z (2 * (32 * s + q))) (psC D g n M s c r) = xs (fun q => decide (rk D g n c (EV D g n s q c) < r) && (eVl D g n M (2 * (32 * s + q)) && z (2 * (32 * s + q)))) (nC D g n M s - 1) := by
        intro s hs hcs r
        refine xs_init (ps_le D g n M s c r) fun q hq => ?_
        rw [decide_eq_true_iff]
        exact ps_lt hS hq hcs
      have B : ∀ s, xs (fun q => decide (rk D g n c (EV D g n s q c) < r + 1) && (eVl D g n M (2 * (32 * s + q)) && z (2 * (32 * s + q)))) (nC D g n M s - 1) = (xs (fun q => decide (rk D g n c (EV D g n s q c) < r) && (eVl D g n M (2 * (32 * s + q)) && z (2 * (32 * s + q)))) (nC D g n M s - 1) ^^ xs (fun q => decide (rk D g n c (EV D g n s q c) = r) && (eVl D g n M (2 * (32 * s + q)) && z (2 * (32 * s + q)))) (nC D g n M s - 1)) := by
        intro s
        rw [← xs_xor]
        refine xs_congr fun q _ => ?_
        rcases Nat.lt_trichotomy (rk D g n c (EV D g n s q c)) r with w | w | w
        · rw [decide_eq_true (show rk D g n c (EV D g n s q c) < r + 1 by omega), decide_eq_true w, decide_eq_false (show ¬ rk D g n c (EV D g n s q c) = r by omega)]
          simp
        · rw [decide_eq_true (show rk D g n c (EV D g n s q c) < r + 1 by omega), decide_eq_false (show ¬ rk D g n c (EV D g n s q c) < r by omega), decide_eq_true w]
          simp
        · rw [decide_eq_false (show ¬ rk D g n c (EV D g n s q c) < r + 1 by omega), decide_eq_false (show ¬ rk D g n c (EV D g n s q c) < r by omega), decide_eq_false (show ¬ rk D g n c (EV D g n s q c) = r by omega)]
          simp
      have hb2 : xs (fun e => eVl D g n M e && z e && ((eU D g n M e == 32 * c + r) ^^ (eV D g n M e == 32 * c + r))) (2 * (32 * (M + 1))) = (xs (fun e => eVl D g n M e && z e && (eU D g n M e == 32 * c + r)) (2 * (32 * (M + 1))) ^^ xs (fun e => eVl D g n M e && z e && (eV D g n M e == 32 * c + r)) (2 * (32 * (M + 1)))) := by
        rw [← xs_xor]
        refine xs_congr fun e _ => ?_
        generalize (eVl D g n M e && z e) = p
        generalize (eU D g n M e == 32 * c + r) = q
        generalize (eV D g n M e == 32 * c + r) = t
        revert p q t
        decide
      rw [hb2, xs_ck, xs_ck] at hb
      have u1 : xs (fun c' => xs (fun k => eVl D g n M (2 * (32 * c' + k)) && z (2 * (32 * c' + k)) && (eU D g n M (2 * (32 * c' + k)) == 32 * c + r)) 32) (M + 1) = xs (fun q => decide (rk D g n c (EV D g n (c + 1) q c) = r) && (eVl D g n M (2 * (32 * (c + 1) + q)) && z (2 * (32 * (c + 1) + q)))) (nC D g n M (c + 1) - 1) := by
        rw [xs_one (k := c + 1) (by omega) (fun c' hc' hne => xs_0 fun k hk => ?_)]
        · have n1 := nC_le (g := g) (M := M) (s := c + 1) hS.1
          have e32 : (32 : Nat) = (nC D g n M (c + 1) - 1) + (32 - (nC D g n M (c + 1) - 1)) := by omega
          have sp := xs_split (fun k => eVl D g n M (2 * (32 * (c + 1) + k)) && z (2 * (32 * (c + 1) + k)) && (eU D g n M (2 * (32 * (c + 1) + k)) == 32 * c + r)) (nC D g n M (c + 1) - 1) (32 - (nC D g n M (c + 1) - 1))
          rw [← e32] at sp
          rw [sp, xs_0 (f := fun i => eVl D g n M (2 * (32 * (c + 1) + (nC D g n M (c + 1) - 1 + i))) && z (2 * (32 * (c + 1) + (nC D g n M (c + 1) - 1 + i))) && (eU D g n M (2 * (32 * (c + 1) + (nC D g n M (c + 1) - 1 + i))) == 32 * c + r)) (fun i hi => ?_), Bool.xor_false]
          · refine xs_congr fun q hq => ?_
            rw [(e_even D g n M (c := c + 1) (k := q) (by omega)).2.1, Nat.add_sub_cancel]
            have : (32 * c + rk D g n c (EV D g n (c + 1) q c) == 32 * c + r) = decide (rk D g n c (EV D g n (c + 1) q c) = r) := by
              rw [Bool.eq_iff_iff, beq_iff_eq, decide_eq_true_iff]; omega
            rw [this]
            exact Bool.and_comm _ _
          · rw [(e_even D g n M (c := c + 1) (k := nC D g n M (c + 1) - 1 + i) (by omega)).1, decide_eq_false (by omega)]
            rfl
        · cases w : eVl D g n M (2 * (32 * c' + k)) && z (2 * (32 * c' + k)) && (eU D g n M (2 * (32 * c' + k)) == 32 * c + r)
          · rfl
          · rw [Bool.and_eq_true, Bool.and_eq_true, beq_iff_eq, (e_even D g n M (c := c') hk).1, (e_even D g n M (c := c') hk).2.1, decide_eq_true_iff] at w
            obtain ⟨⟨w1, -⟩, w3⟩ := w
            have k0 := (EV_ok hS (s := c') (c := c') w1 (Or.inl rfl)).1
            have := rk_32 hS (s := c') (c := c' - 1) w1 (Or.inr (by omega))
            omega
      have u2 : xs (fun c' => xs (fun k => eVl D g n M (2 * (32 * c' + k) + 1) && z (2 * (32 * c' + k) + 1) && (eU D g n M (2 * (32 * c' + k) + 1) == 32 * c + r)) 32) (M + 1) = (eVl D g n M (2 * (32 * c + (r + 1)) + 1) && z (2 * (32 * c + (r + 1)) + 1)) := by
        rw [xs_at (F := fun c' k => eVl D g n M (2 * (32 * c' + k) + 1) && z (2 * (32 * c' + k) + 1) && (eU D g n M (2 * (32 * c' + k) + 1) == 32 * c + r)) (c0 := c) (k0 := r + 1) (by omega) (by omega) (fun c' k hc' hk w => ?_)]
        · show (eVl D g n M (2 * (32 * c + (r + 1)) + 1) && z (2 * (32 * c + (r + 1)) + 1) && (eU D g n M (2 * (32 * c + (r + 1)) + 1) == 32 * c + r)) = _
          rw [(e_odd D g n M (c := c) (k := r + 1) (by omega)).2.1, if_neg (by omega), Nat.add_sub_cancel]
          simp
        · rw [Bool.and_eq_true, Bool.and_eq_true, beq_iff_eq, (e_odd D g n M (c := c') hk).1, (e_odd D g n M (c := c') hk).2.1, decide_eq_true_iff] at w
          obtain ⟨⟨w1, -⟩, w3⟩ := w
          have t2 := tK_20 (D := D) (g := g) (n := n) (c := c') (by omega)
          split at w3 <;> omega
      have u3 : xs (fun c' => xs (fun k => eVl D g n M (2 * (32 * c' + k)) && z (2 * (32 * c' + k)) && (eV D g n M (2 * (32 * c' + k)) == 32 * c + r)) 32) (M + 1) = xs (fun q => decide (rk D g n c (EV D g n c q c) = r) && (eVl D g n M (2 * (32 * c + q)) && z (2 * (32 * c + q)))) (nC D g n M c - 1) := by
        rw [xs_one (k := c) (by omega) (fun c' hc' hne => xs_0 fun k hk => ?_)]
        · have n1 := nC_le (g := g) (M := M) (s := c) hS.1
          have e32 : (32 : Nat) = (nC D g n M c - 1) + (32 - (nC D g n M c - 1)) := by omega
          have sp := xs_split (fun k => eVl D g n M (2 * (32 * c + k)) && z (2 * (32 * c + k)) && (eV D g n M (2 * (32 * c + k)) == 32 * c + r)) (nC D g n M c - 1) (32 - (nC D g n M c - 1))
          rw [← e32] at sp
          rw [sp, xs_0 (f := fun i => eVl D g n M (2 * (32 * c + (nC D g n M c - 1 + i))) && z (2 * (32 * c + (nC D g n M c - 1 + i))) && (eV D g n M (2 * (32 * c + (nC D g n M c - 1 + i))) == 32 * c + r)) (fun i hi => ?_), Bool.xor_false]
          · refine xs_congr fun q hq => ?_
            rw [(e_even D g n M (c := c) (k := q) (by omega)).2.2.1]
            have : (32 * c + rk D g n c (EV D g n c q c) == 32 * c + r) = decide (rk D g n c (EV D g n c q c) = r) := by
              rw [Bool.eq_iff_iff, beq_iff_eq, decide_eq_true_iff]; omega
            rw [this]
            exact Bool.and_comm _ _
          · rw [(e_even D g n M (c := c) (k := nC D g n M c - 1 + i) (by omega)).1, decide_eq_false (by omega)]
            rfl
        · cases w : eVl D g n M (2 * (32 * c' + k)) && z (2 * (32 * c' + k)) && (eV D g n M (2 * (32 * c' + k)) == 32 * c + r)
          · rfl
          · rw [Bool.and_eq_true, Bool.and_eq_true, beq_iff_eq, (e_even D g n M (c := c') hk).1, (e_even D g n M (c := c') hk).2.2.1, decide_eq_true_iff] at w
            obtain ⟨⟨w1, -⟩, w3⟩ := w
            have := rk_32 hS (s := c') (c := c') w1 (Or.inl rfl)
            omega
      have u4 : xs (fun c' => xs (fun k => eVl D g n M (2 * (32 * c' + k) + 1) && z (2 * (32 * c' + k) + 1) && (eV D g n M (2 * (32 * c' + k) + 1) == 32 * c + r)) 32) (M + 1) = (eVl D g n M (2 * (32 * c + r) + 1) && z (2 * (32 * c + r) + 1)) := by
        rw [xs_at (F := fun c' k => eVl D g n M (2 * (32 * c' + k) + 1) && z (2 * (32 * c' + k) + 1) && (eV D g n M (2 * (32 * c' + k) + 1) == 32 * c + r)) (c0 := c) (k0 := r) (by omega) (by omega) (fun c' k hc' hk w => ?_)]
        · show (eVl D g n M (2 * (32 * c + r) + 1) && z (2 * (32 * c + r) + 1) && (eV D g n M (2 * (32 * c + r) + 1) == 32 * c + r)) = _
          rw [(e_odd D g n M (c := c) (k := r) (by omega)).2.2.1, if_neg (by omega)]
          simp
        · rw [Bool.and_eq_true, Bool.and_eq_true, beq_iff_eq, (e_odd D g n M (c := c') hk).1, (e_odd D g n M (c := c') hk).2.2.1, decide_eq_true_iff] at w
          obtain ⟨⟨w1, -⟩, w3⟩ := w
          split at w3 <;> omega
      rw [u1, u2, u3, u4] at hb
      rw [colF_e, colF_e] at ih ⊢
      rw [A c (by omega) (Or.inl rfl), A (c + 1) (by omega) (Or.inr rfl)] at ih ⊢
      rw [B, B]
      revert hb ih
      generalize xs (fun c => eVl D g n M (2 * (32 * c + 0) + 1) && z (2 * (32 * c + 0) + 1)) c = p1
      generalize xs (fun c => eVl D g n M (2 * (32 * c + 0) + 1) && z (2 * (32 * c + 0) + 1)) (c + 1) = p2
      generalize xs (fun q => decide (rk D g n c (EV D g n c q c) < r) && (eVl D g n M (2 * (32 * c + q)) && z (2 * (32 * c + q)))) (nC D g n M c - 1) = p3
      generalize xs (fun q => decide (rk D g n c (EV D g n (c + 1) q c) < r) && (eVl D g n M (2 * (32 * (c + 1) + q)) && z (2 * (32 * (c + 1) + q)))) (nC D g n M (c + 1) - 1) = p4
      generalize xs (fun q => decide (rk D g n c (EV D g n c q c) = r) && (eVl D g n M (2 * (32 * c + q)) && z (2 * (32 * c + q)))) (nC D g n M c - 1) = p5
      generalize xs (fun q => decide (rk D g n c (EV D g n (c + 1) q c) = r) && (eVl D g n M (2 * (32 * (c + 1) + q)) && z (2 * (32 * (c + 1) + q)))) (nC D g n M (c + 1) - 1) = p6
      generalize (eVl D g n M (2 * (32 * c + r) + 1) && z (2 * (32 * c + r) + 1)) = p7
      generalize (eVl D g n M (2 * (32 * c + (r + 1)) + 1) && z (2 * (32 * c + (r + 1)) + 1)) = p8
      revert p1 p2 p3 p4 p5 p6 p7 p8
      decide
  refine ⟨fun a => colF (fun e => eVl D g n M e && z e) (slO D g n M a) (a - fC D g n M (slO D g n M a)), fun e he hv => ?_⟩
  have at_ : ∀ s q, s ≤ M → q < nC D g n M s → colF (fun e => eVl D g n M e && z e) (slO D g n M (fC D g n M s + q)) (fC D g n M s + q - fC D g n M (slO D g n M (fC D g n M s + q))) = colF (fun e => eVl D g n M e && z e) s q := by
    intro s q hs hq
    rw [slO_at hS.1 hs hq, show fC D g n M s + q - fC D g n M s = q by omega]
  obtain ⟨c, k, hc, hk, rfl | rfl⟩ := e_form he
  · obtain ⟨a1, a2, a3, a4, a5⟩ := e_even D g n M (c := c) hk
    have hv' := hv
    rw [a1, decide_eq_true_iff] at hv'
    show (colF _ (slO D g n M (eC D g n M (2 * (32 * c + k)))) _ ^^ colF _ (slO D g n M (eE D g n M (2 * (32 * c + k)))) _) = _
    rw [a4, a5, at_ c k hc (by omega), show fC D g n M c + k + 1 = fC D g n M c + (k + 1) by omega, at_ c (k + 1) hc (by omega)]
    rw [colF_e, colF_e, xs_s, hv]
    generalize xs (fun c => eVl D g n M (2 * (32 * c + 0) + 1) && z (2 * (32 * c + 0) + 1)) c = p1
    generalize xs (fun q => eVl D g n M (2 * (32 * c + q)) && z (2 * (32 * c + q))) k = p2
    generalize z (2 * (32 * c + k)) = p3
    revert p1 p2 p3
    decide
  · obtain ⟨a1, a2, a3, a4, a5⟩ := e_odd D g n M (c := c) hk
    have hv' := hv
    rw [a1, decide_eq_true_iff] at hv'
    have n1 := nC_le (g := g) (M := M) (s := c) hS.1
    have n2 := nC_le (g := g) (M := M) (s := c + 1) hS.1
    have p1 := ps_le D g n M c c k
    have p2 := ps_le D g n M (c + 1) c k
    show (colF _ (slO D g n M (eC D g n M (2 * (32 * c + k) + 1))) _ ^^ colF _ (slO D g n M (eE D g n M (2 * (32 * c + k) + 1))) _) = _
    rw [a4, a5, at_ c _ hc (by omega), at_ (c + 1) _ (by omega) (by omega), key c hv'.1 k hv'.2, hv]
    rfl
