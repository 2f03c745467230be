theorem PlB_m {p q : Int × Int × Int × Int} (hp : PlB p) (hq : PlB q) : (-819200000 ≤ p.1 * q.2.1 ∧ p.1 * q.2.1 ≤ 819200000) ∧ (-819200000 ≤ p.2.2.1 * q.2.2.2 ∧ p.2.2.1 * q.2.2.2 ≤ 819200000) := by
  have h1 := mb (a := p.1) (b := q.2.1) (A := 256000) (B := 3200) (by have := hp.1; omega) (by have := hq.2.1; omega)
  have h2 := mb (a := p.2.2.1) (b := q.2.2.2) (A := 256000) (B := 3200) (by have := hp.2.2.1; omega) (by have := hq.2.2.2; omega)
  omega
theorem s_X4_compareTo {s : Sg} {c0 : Nat} {i : Nat} {p q : Int × Int × Int × Int} {post : Int → Prop} (hi : i < 65) (hp : PlB p) (hq : PlB q) (hat : s (c0 + 1) i = p.1 ∧ s (c0 + 2) i = p.2.1 ∧ s (c0 + 3) i = p.2.2.1 ∧ s (c0 + 4) i = p.2.2.2) (h : post (cmpP p q)) : w_X4_compareTo s c0 (i : Int) q.1 q.2.1 q.2.2.1 q.2.2.2 post := by
  unfold w_X4_compareTo jn
  rw [Int.toNat_natCast, hat.1, hat.2.1, hat.2.2.1, hat.2.2.2]
  have hi65 : 0 ≤ (i : Int) ∧ (i : Int) < 65 := by omega
  have m1 := PlB_m hp hq
  have m2 := PlB_m hq hp
  unfold cmpP at h
  refine ⟨hi65, hi65, s_X9_cmp m1.1 m2.1 (by decide) ⟨fun e => ⟨hi65, hi65, ?_⟩, fun e => ?_⟩⟩
  · rw [if_pos e] at h
    exact s_X9_cmp m1.2 m2.2 (by decide) h
  · rw [if_neg e] at h
    exact h
theorem s_X10_pointAgainst {s : Sg} {i : Nat} {p q : Int × Int × Int × Int} {post : Int → Prop} (hi : i < 80) (hp : PlB p) (hq : PlB q) (hat : s 73 i = p.1 ∧ s 74 i = p.2.1 ∧ s 75 i = p.2.2.1 ∧ s 76 i = p.2.2.2) (h : post (cmpP p q)) : w_X10_pointAgainst s (i : Int) q.1 q.2.1 q.2.2.1 q.2.2.2 post := by
  unfold w_X10_pointAgainst jn
  rw [Int.toNat_natCast, hat.1, hat.2.1, hat.2.2.1, hat.2.2.2]
  have hi80 : 0 ≤ (i : Int) ∧ (i : Int) < 80 := by omega
  have m1 := PlB_m hp hq
  have m2 := PlB_m hq hp
  unfold cmpP at h
  refine ⟨hi80, hi80, s_X10_against m1.1 m2.1 (by decide) ⟨fun e => ⟨hi80, hi80, ?_⟩, fun e => ?_⟩⟩
  · rw [if_pos e] at h
    exact s_X10_against m1.2 m2.2 (by decide) h
  · rw [if_neg e] at h
    exact h
/-- a row of places that rises, all in lowest terms -/
def RowP (f : Nat → Int × Int × Int × Int) (m : Nat) : Prop := SInc ltP f m ∧ ∀ j, j < m → PlB (f j) ∧ PlR (f j)
theorem RowP_ins {f g : Nat → Int × Int × Int × Int} {m k : Nat} {q : Int × Int × Int × Int} (h : RowP f m) (hq : PlB q ∧ PlR q) (hi : InsP f m q g k) : RowP g k := by
  refine ⟨hi.1, fun j hj => ?_⟩
  rcases hi.2.1 j hj with e | ⟨i, hi2, e⟩
  · rw [e]; exact hq
  · rw [e]; exact h.2 i hi2
theorem s_X4_add {s : Sg} {c0 m : Nat} {f : Nat → Int × Int × Int × Int} {q : Int × Int × Int × Int} {post : Sg → Prop} (hsz : s c0 0 = (m : Int)) (hat : PtAt s (c0 + 1) (c0 + 2) (c0 + 3) (c0 + 4) m f) (hf : RowP f m) (hq : PlB q ∧ PlR q) (hm : m < 65)
    (hp : ∀ (t : Sg) (g : Nat → Int × Int × Int × Int) (k : Nat), (∀ c, (c < c0 ∨ c0 + 4 < c) → t c = s c) → (∀ o, o ≠ 0 → t c0 o = s c0 o) → t c0 0 = (k : Int) → PtAt t (c0 + 1) (c0 + 2) (c0 + 3) (c0 + 4) k g → InsP f m q g k → post t) : w_X4_add s c0 q.1 q.2.1 q.2.2.1 q.2.2.2 post := by
  unfold w_X4_add
  rw [hsz]
  intro v9 e9 v10 e10
  rw [w32_id (show ok32 ((m : Int) - 1) from ⟨by omega, by omega⟩)] at e10
  rw [e9, e10]
  clear e9 e10
  refine lr_2 (fun a i => ∃ k : Nat, a = (k : Int) ∧ i = (k : Int) - 1 ∧ k ≤ m ∧ ∀ j, k ≤ j → j < m → ltP q (f j)) (fun a _ => a.toNat) ?_ _ _ ⟨m, rfl, rfl, Nat.le_refl _, fun j h1 h2 => by omega⟩
  rintro again _ _ ⟨k, rfl, rfl, hk, hhi⟩ ih
  have fin : (k = 0 ∨ cmpP (f (k - 1)) q < 0) → ((m : Int) < 65 → ∀ v10_7, v10_7 = (m : Int) → (lp_1s (fun (again_10 : Int → Sg → Prop) (v10_8 : Int) (s_9 : Sg) => (v10_8 ≤ (k : Int) → (0 ≤ (k : Int) ∧ (k : Int) < 65) ∧ (∀ s_12, s_12 = up s_9 (c0 + 1) ((k : Int).toNat) q.1 → ((0 ≤ (k : Int) ∧ (k : Int) < 65) ∧ (∀ s_14, s_14 = up s_12 (c0 + 2) ((k : Int).toNat) q.2.1 → ((0 ≤ (k : Int) ∧ (k : Int) < 65) ∧ (∀ s_16, s_16 = up s_14 (c0 + 3) ((k : Int).toNat) q.2.2.1 → ((0 ≤ (k : Int) ∧ (k : Int) < 65) ∧ (∀ s_18, s_18 = up s_16 (c0 + 4) ((k : Int).toNat) q.2.2.2 → (∀ s_19, s_19 = up s_18 c0 0 (w32 ((s_18 c0 0) + 1)) → (post s_19)))))))))) ∧ (¬ v10_8 ≤ (k : Int) → (0 ≤ w32 (v10_8 - 1) ∧ w32 (v10_8 - 1) < 65) ∧ ((0 ≤ v10_8 ∧ v10_8 < 65) ∧ (∀ s_22, s_22 = up s_9 (c0 + 1) (v10_8.toNat) (s_9 (c0 + 1) (w32 (v10_8 - 1)).toNat) → ((0 ≤ w32 (v10_8 - 1) ∧ w32 (v10_8 - 1) < 65) ∧ ((0 ≤ v10_8 ∧ v10_8 < 65) ∧ (∀ s_25, s_25 = up s_22 (c0 + 2) (v10_8.toNat) (s_22 (c0 + 2) (w32 (v10_8 - 1)).toNat) → ((0 ≤ w32 (v10_8 - 1) ∧ w32 (v10_8 - 1) < 65) ∧ ((0 ≤ v10_8 ∧ v10_8 < 65) ∧ (∀ s_28, s_28 = up s_25 (c0 + 3) (v10_8.toNat) (s_25 (c0 + 3) (w32 (v10_8 - 1)).toNat) → ((0 ≤ w32 (v10_8 - 1) ∧ w32 (v10_8 - 1) < 65) ∧ ((0 ≤ v10_8 ∧ v10_8 < 65) ∧ (∀ s_31, s_31 = up s_28 (c0 + 4) (v10_8.toNat) (s_28 (c0 + 4) (w32 (v10_8 - 1)).toNat) → (∀ v10_32, v10_32 = w32 (v10_8 + (-1)) → (again_10 v10_32 s_31))))))))))))))) v10_7 s)) ∧ (¬ (m : Int) < 65 → post s) := by
    intro hlow
    refine ⟨fun _ v ev => ?_, fun z => absurd (show (m : Int) < 65 by omega) z⟩
    rw [ev]
    refine s_shift (by omega) (by omega) (by omega) (by omega) (by omega) (by omega) hat (by omega) (by omega) (by decide) fun t ho hpt s19 e19 => ?_
    have t0 : t c0 = s c0 := ho c0 (by omega) (by omega) (by omega) (by omega)
    rw [t0, hsz, w32_id (show ok32 ((m : Int) + 1) from ⟨by omega, by omega⟩)] at e19
    subst e19
    rw [Int.toNat_natCast] at hpt
    refine hp _ (insG f k q) (m + 1) (fun c hc => by rw [up_ne _ _ _ (by omega), ho c (by omega) (by omega) (by omega) (by omega)]) (fun o ho2 => by rw [up_apply, t0]; simp [ho2]) (by rw [up_apply]; simp) (fun j hj => ?_) (InsP_new hf.1 hk (fun j hj => ?_) (fun j h1 h2 => hhi j h1 h2))
    · rw [up_ne _ _ _ (by omega), up_ne _ _ _ (by omega), up_ne _ _ _ (by omega), up_ne _ _ _ (by omega)]
      exact hpt j hj
    · rcases hlow with e | e
      · omega
      · have last : ltP (f (k - 1)) q := ⟨(hf.2 (k - 1) (by omega)).1, hq.1, e⟩
        by_cases d : j = k - 1
        · rw [d]; exact last
        · exact ltP_tr _ _ _ (hf.1 j (k - 1) (by omega) (by omega)) last
  refine ⟨fun c => fin (Or.inl (by omega)), fun c => ?_⟩
  obtain ⟨k, rfl⟩ : ∃ l, k = l + 1 := ⟨k - 1, by omega⟩
  have ek : ((k + 1 : Nat) : Int) - 1 = (k : Int) := by omega
  have e1 : k + 1 - 1 = k := by omega
  rw [e1] at fin
  rw [ek]
  have hfk := hf.2 k (by omega)
  refine s_X4_compareTo (by omega) hfk.1 hq.1 (hat k (by omega)) ⟨fun z => ⟨fun z2 v ev => ?_, fun z2 => fin (Or.inr (by omega))⟩, fun z => ?_⟩
  · have b9 : ok32 ((k : Int) + (-1)) := ⟨by omega, by omega⟩
    have b10 : (k : Int) + (-1) = (k : Int) - 1 := by omega
    rw [ev, w32_id b9, b10]
    clear ev
    refine ih _ _ ⟨k, rfl, rfl, by omega, fun j h1 h2 => ?_⟩ (by omega)
    by_cases d : j = k
    · subst d
      exact ltP_of hfk.1 hq.1 (by omega)
    · exact hhi j (by omega) h2
  · exact hp s f m (fun _ _ => rfl) (fun _ _ => rfl) hsz hat (InsP_old hf.1 (by omega) (cmpP_eq hfk.1 hq.1 hfk.2 hq.2 z))
