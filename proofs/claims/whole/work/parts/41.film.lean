/-! film -/
theorem w8_id {x : Int} (h : -128 ≤ x ∧ x < 128) : w8 x = x := by
  unfold w8
  exact Int.bmod_eq_of_le (by omega) (by omega)
theorem Base_scr2 {s E : Sg} (hB : Base s) (h : ∀ c, bc c → (c < 65 ∨ 68 ≤ c) → c < 184 → E c = s c) (h12 : E 0 12 = s 0 12) (h0 : E 68 0 = s 68 0) (h43 : E 68 43 = s 68 43) (hS : ShOK E) : Base E := by
  have hM : Base (fun c => if (65 ≤ c ∧ c ≤ 67) ∨ 184 ≤ c then s c else E c) := by
    refine Base_scr hB (fun c hc => ?_) h12 h0 h43
    by_cases k : (65 ≤ c ∧ c ≤ 67) ∨ 184 ≤ c
    · simp only [if_pos k]
    · simp only [if_neg k]
      exact h c hc (by omega) (by omega)
  refine Base_sh hM (fun c hc => ?_) hS
  have k : ¬ ((65 ≤ c ∧ c ≤ 67) ∨ 184 ≤ c) := by omega
  simp only [if_neg k]
theorem T_film {s : Sg} {a x : Int} (hB : Base s) : w_X9_film s a x (fun r1 s1 => w_X10_film s1 a x (fun r2 s2 => r1 = r2 ∧ Base s2 ∧ Keep s s2)) := by
  have hLs := Base_LsD hB
  have hbad : ¬ ((0 ≤ a ∧ a < 4) ∧ (0 ≤ x ∧ x ≤ 40)) → w_X10_film s a x (fun r2 s2 => -2 = r2 ∧ Base s2 ∧ Keep s s2) := by
    intro hno
    unfold w_X10_film jn
    refine s_X10_isSheet fun r1 e1 => ⟨fun _ => ⟨rfl, hB, Keep_rfl s⟩, fun q1 => s_X10_isOnSheet fun r3 e3 => ⟨fun q3 => ?_, fun _ => ⟨rfl, hB, Keep_rfl s⟩⟩⟩
    rcases e1 with e | e <;> rcases e3 with e3 | e3 <;> omega
  unfold w_X9_film jn
  refine s_X5_isOne fun r1 e1 => ⟨fun q => hbad (by rcases e1 with e | e <;> omega), fun q1 => s_X9_isCoordinate fun r3 e3 => ⟨fun q3 => ?_, fun q => hbad (by rcases e3 with e | e <;> omega)⟩⟩
  have ha : 0 ≤ a ∧ a < 4 := by rcases e1 with e | e <;> omega
  have hx0 : 0 ≤ x ∧ x ≤ 40 := by rcases e3 with e | e <;> omega
  have hx : FrB x 1 := ⟨by omega, by omega⟩
  have hn := hLs.1
  refine s_X7_stand hLs rfl Base_At hx fun t ho hR hH => ?_
  have hat2 : LnAt t 69 (s 1 0) (lD s) := fun k hk => by
    rw [ho 69 (by omega) (by omega) (by omega), ho (69 + 1) (by omega) (by omega) (by omega), ho (69 + 2) (by omega) (by omega) (by omega), ho (69 + 3) (by omega) (by omega) (by omega)]
    exact Base_At2 hB k hk
  have h68 : t 68 0 = s 1 0 := by rw [ho 68 (by omega) (by omega) (by omega)]; exact hB.1
  have hle := cntN_le (thereB (lD s) x 1 (-1)) (s 1 0).toNat
  have hlt := rowN_lt (gtB (lD s) x 1) (thereB (lD s) x 1 (-1)) (s 1 0).toNat
  obtain ⟨hR1, hR2⟩ := hR
  generalize hm : cntN (thereB (lD s) x 1 (-1)) (s 1 0).toNat = m at *
  generalize hr : rowN (gtB (lD s) x 1) (thereB (lD s) x 1 (-1)) (s 1 0).toNat = r at *
  rw [hR1]
  refine s_X5_make ha fun u hu => ?_
  obtain ⟨u1, u2, u3, u4⟩ := hu
  have hm10 : (m : Int) ≤ 10 := by omega
  refine lr_1s (fun i v => ∃ i' : Nat, i = (i' : Int) ∧ i' ≤ m ∧ (∀ c, c ≠ 67 → v c = u c) ∧ ∀ k, v 67 k = if 40 * a.toNat ≤ k ∧ k < 40 * a.toNat + i' then (r (k - 40 * a.toNat) : Int) else u 67 k) (fun i _ => ((m : Int) - i).toNat) ?_ _ _ ⟨0, rfl, Nat.zero_le _, fun _ _ => rfl, fun k => by rw [if_neg (by omega)]⟩
  rintro again _ v ⟨i, rfl, him, hv, hv67⟩ ih
  have v35 : v 35 0 = (m : Int) := by rw [hv 35 (by omega), u1 35 (by omega), hR1]
  have v36 : ∀ j, j < m → v 36 j = (r j : Int) := fun j hj => by rw [hv 36 (by omega), u1 36 (by omega), hR2 j hj]
  have v65 : v 65 a.toNat = 0 := by rw [hv 65 (by omega), u2, if_pos rfl]
  rw [v35]
  refine ⟨fun c => ?_, fun c => ⟨by omega, ?_⟩⟩
  · have him2 : m = i := by omega
    subst him2
    have vlow : ∀ c, c ≠ 35 → c ≠ 36 → c ≠ 37 → (c < 65 ∨ 68 ≤ c) → v c = s c := fun c c1 c2 c3 c4 => by rw [hv c (by omega), u1 c (by omega), ho c c1 c2 c3]
    unfold w_X10_film jn
    refine s_X10_isSheet fun r1 e1 => ⟨fun q => by rcases e1 with e | e <;> omega, fun _ => s_X10_isOnSheet fun r3 e3 => ⟨fun _ => ?_, fun q => by rcases e3 with e | e <;> omega⟩⟩
    refine s_X10_tellOrder hLs (by rw [vlow 68 (by omega) (by omega) (by omega) (by omega)]; exact hB.1) (fun k hk => ?_) hx (by omega) fun y ko ko2 kR => ?_
    · rw [vlow 69 (by omega) (by omega) (by omega) (by omega), vlow (69 + 1) (by omega) (by omega) (by omega) (by omega), vlow (69 + 2) (by omega) (by omega) (by omega) (by omega), vlow (69 + 3) (by omega) (by omega) (by omega) (by omega)]
      exact Base_At2 hB k hk
    · obtain ⟨kR1, kR2⟩ := kR
      rw [hm] at kR1 kR2
      rw [hr] at kR2
      refine ⟨ha, ?_⟩
      rintro _ rfl
      refine ⟨ha, ?_⟩
      rintro _ rfl
      have b187 : ∀ b : Nat, b < 4 → (187 + b) ≠ 184 ∧ (187 + b) ≠ 185 := fun b hb => by omega
      have ha4 : a.toNat < 4 := by omega
      refine lr_1s (fun i z => ∃ i' : Nat, i = (i' : Int) ∧ i' ≤ m ∧ (∀ c, c ≠ 187 + a.toNat → z c = (up (up y 184 a.toNat 0) 185 a.toNat (up y 184 a.toNat 0 68 20)) c) ∧ ∀ k, z (187 + a.toNat) k = if k < i' then (r k : Int) else y (187 + a.toNat) k) (fun i _ => ((m : Int) - i).toNat) ?_ _ _ ⟨0, rfl, Nat.zero_le _, fun _ _ => rfl, fun k => by rw [if_neg (by omega), up_ne _ _ _ (b187 _ ha4).2, up_ne _ _ _ (b187 _ ha4).1]⟩
      rintro again2 _ z ⟨i2, rfl, hi2, hz, hz2⟩ ih2
      have z68 : z 68 = y 68 := by rw [hz 68 (by omega), up_ne _ _ _ (by omega), up_ne _ _ _ (by omega)]
      have z82 : z 82 = y 82 := by rw [hz 82 (by omega), up_ne _ _ _ (by omega), up_ne _ _ _ (by omega)]
      have z20 : z 68 20 = (m : Int) := by rw [z68]; exact kR1
      rw [z20]
      refine ⟨fun q => ⟨rfl, ?_, ?_⟩, fun q => ⟨ha, by omega, by omega, ?_⟩⟩
      · have : i2 = m := by omega
        subst this
        have zlow : ∀ c, c < 184 → c ≠ 68 → c ≠ 82 → c ≠ 35 → c ≠ 36 → c ≠ 37 → (c < 65 ∨ 68 ≤ c) → z c = s c := fun c c1 c2 c3 c4 c5 c6 c7 => by
          rw [hz c (by omega), up_ne _ _ _ (by omega), up_ne _ _ _ (by omega), ko c c2 c3, vlow c c4 c5 c6 c7]
        refine Base_scr2 hB (fun c hc h1 h2 => by unfold bc at hc; exact zlow c h2 (by omega) (by omega) (by omega) (by omega) (by omega) h1) (by rw [zlow 0 (by omega) (by omega) (by omega) (by omega) (by omega) (by omega) (by omega)]) (by rw [z68, ko2 0 (by omega), vlow 68 (by omega) (by omega) (by omega) (by omega)]) (by rw [z68, ko2 43 (by omega), vlow 68 (by omega) (by omega) (by omega) (by omega)]) ?_
        intro b hb
        have hb7 := hB.2.2.2.2.2.2 b hb
        have z65 : z 65 b = if b = a.toNat then 0 else s 65 b := by
          rw [hz 65 (by omega), up_ne _ _ _ (by omega), up_ne _ _ _ (by omega), ko 65 (by omega) (by omega), hv 65 (by omega), u2, ho 65 (by omega) (by omega) (by omega)]
        have z66 : z 66 b = if b = a.toNat then (i2 : Int) else s 66 b := by
          rw [hz 66 (by omega), up_ne _ _ _ (by omega), up_ne _ _ _ (by omega), ko 66 (by omega) (by omega), hv 66 (by omega), u3, ho 66 (by omega) (by omega) (by omega)]
        have z184 : z 184 b = if b = a.toNat then 0 else s 184 b := by
          rw [hz 184 (by omega), up_ne _ _ _ (by omega), up_apply, ko 184 (by omega) (by omega), vlow 184 (by omega) (by omega) (by omega) (by omega)]
          by_cases e : b = a.toNat <;> simp [e]
        have z185 : z 185 b = if b = a.toNat then (i2 : Int) else s 185 b := by
          rw [hz 185 (by omega), up_apply, up_ne _ _ _ (by omega), up_ne _ _ _ (by omega), ko 185 (by omega) (by omega), vlow 185 (by omega) (by omega) (by omega) (by omega), kR1]
          by_cases e : b = a.toNat <;> simp [e]
        have z67 : ∀ k, z 67 k = v 67 k := fun k => by
          rw [hz 67 (by omega), up_ne _ _ _ (by omega), up_ne _ _ _ (by omega), ko 67 (by omega) (by omega)]
        rw [z65, z66, z184, z185]
        by_cases e : b = a.toNat
        · subst e
          simp only [if_pos]
          refine ⟨trivial, Or.inr (Or.inl trivial), trivial, ⟨by omega, by omega⟩, fun k hk => ?_⟩
          rw [z67, hv67, hz2, if_pos (by omega), if_pos (by omega)]
          congr 1
          congr 1
          omega
        · simp only [if_neg e]
          refine ⟨hb7.1, hb7.2.1, hb7.2.2.1, hb7.2.2.2.1, fun k hk => ?_⟩
          have hk40 : k < 40 := by omega
          rw [z67, hv67, if_neg (by omega), u4, if_neg (by omega), ho 67 (by omega) (by omega) (by omega), hz (187 + b) (by omega), up_ne _ _ _ (b187 b hb).2, up_ne _ _ _ (b187 b hb).1, ko (187 + b) (by omega) (by omega), vlow (187 + b) (by omega) (by omega) (by omega) (by omega)]
          exact hb7.2.2.2.2 k hk
      · refine Or.inl ⟨fun c hc => ?_, ?_, ?_, ?_⟩
        · unfold kc at hc
          rw [hz c (by omega), up_ne _ _ _ (by omega), up_ne _ _ _ (by omega), ko c (by omega) (by omega), vlow c (by omega) (by omega) (by omega) (by omega)]
        · rw [hz 0 (by omega), up_ne _ _ _ (by omega), up_ne _ _ _ (by omega), ko 0 (by omega) (by omega), vlow 0 (by omega) (by omega) (by omega) (by omega)]
        · rw [hz 0 (by omega), up_ne _ _ _ (by omega), up_ne _ _ _ (by omega), ko 0 (by omega) (by omega), vlow 0 (by omega) (by omega) (by omega) (by omega)]
        · rw [hz 0 (by omega), up_ne _ _ _ (by omega), up_ne _ _ _ (by omega), ko 0 (by omega) (by omega), vlow 0 (by omega) (by omega) (by omega) (by omega)]
      · rintro _ rfl v9 ev9
        have b1 : ok32 ((i2 : Int) + 1) := ⟨by omega, by omega⟩
        have b2 : (i2 : Int) + 1 = ((i2 + 1 : Nat) : Int) := by omega
        have b3 : ((m : Int) - ((i2 + 1 : Nat) : Int)).toNat < ((m : Int) - (i2 : Int)).toNat := by omega
        have b4 : i2 + 1 ≤ m := by omega
        rw [ev9, w32_id b1, b2, Int.toNat_natCast]
        refine ih2 _ _ ⟨i2 + 1, rfl, b4, fun c hc => by rw [up_ne _ _ _ hc]; exact hz c hc, fun k => ?_⟩ b3
        rw [up_apply, z82, kR2 i2 (by omega), hz2]
        by_cases e : k = i2
        · subst e
          simp
        · simp only [e, and_false, if_false]
          by_cases e2 : k < i2
          · rw [if_pos e2, if_pos (by omega)]
          · rw [if_neg e2, if_neg (by omega)]
  · rw [Int.toNat_natCast, v36 i (by omega)]
    refine s_X5_set ha (by omega) ?_
    rw [v65, if_pos rfl, w8_id (by have := hlt i (by omega); omega), Int.toNat_natCast]
    intro v9 ev9
    have b1 : ok32 ((i : Int) + 1) := ⟨by omega, by omega⟩
    have b2 : (i : Int) + 1 = ((i + 1 : Nat) : Int) := by omega
    have b3 : ((m : Int) - ((i + 1 : Nat) : Int)).toNat < ((m : Int) - (i : Int)).toNat := by omega
    have b4 : i + 1 ≤ m := by omega
    rw [ev9, w32_id b1, b2]
    refine ih _ _ ⟨i + 1, rfl, b4, fun c hc => by rw [up_ne _ _ _ hc]; exact hv c hc, fun k => ?_⟩ b3
    rw [up_apply, hv67]
    by_cases e : k = 40 * a.toNat + i
    · subst e
      have e1 : 40 * a.toNat + i - 40 * a.toNat = i := by omega
      rw [if_pos (⟨rfl, rfl⟩), if_pos (by omega), e1]
    · simp only [e, and_false, if_false]
      by_cases e2 : 40 * a.toNat ≤ k ∧ k < 40 * a.toNat + i
      · rw [if_pos e2, if_pos (by omega)]
      · rw [if_neg e2, if_neg (by omega)]
