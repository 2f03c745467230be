/-! order -/
def bc (c : Nat) : Prop := (1 ≤ c ∧ c ≤ 10) ∨ (65 ≤ c ∧ c ≤ 67) ∨ (69 ≤ c ∧ c ≤ 72) ∨ c = 174 ∨ (180 ≤ c ∧ c ≤ 190)
theorem Base_scr {s t : Sg} (hB : Base s) (h : ∀ c, bc c → t c = s c) (h12 : t 0 12 = s 0 12) (h0 : t 68 0 = s 68 0) (h43 : t 68 43 = s 68 43) : Base t := by
  obtain ⟨b1, b2, b3, b4, b5, b6, b7⟩ := hB
  have lk : ∀ c n, bc c → bc (c + 1) → bc (c + 2) → bc (c + 3) → LkOK s c n → LkOK t c n := by
    intro c n k1 k2 k3 k4 hk
    refine ⟨hk.1, hk.2.1, fun i hi => ?_⟩
    rw [h c k1, h _ k2, h _ k3, h _ k4]
    exact hk.2.2 i hi
  have le : ∀ c e n, bc c → bc (c + 1) → bc (c + 2) → bc (c + 3) → bc e → bc (e + 1) → bc (e + 2) → bc (e + 3) → LkEq s c e n → LkEq t c e n := by
    intro c e n k1 k2 k3 k4 k5 k6 k7 k8 hk i hi
    rw [h c k1, h _ k2, h _ k3, h _ k4, h e k5, h _ k6, h _ k7, h _ k8]
    exact hk i hi
  have e1 : t 1 = s 1 := h 1 (by unfold bc; omega)
  have e6 : t 6 = s 6 := h 6 (by unfold bc; omega)
  have e174 : t 174 = s 174 := h 174 (by unfold bc; omega)
  refine ⟨by rw [h0, e1]; exact b1, ?_, ?_, by rw [h43, h12]; exact b4, by rw [h12]; exact b5, fun q => ?_, ?_⟩
  · rw [e1]; exact lk 2 _ (by unfold bc; omega) (by unfold bc; omega) (by unfold bc; omega) (by unfold bc; omega) b2
  · rw [e1]; exact le 69 2 _ (by unfold bc; omega) (by unfold bc; omega) (by unfold bc; omega) (by unfold bc; omega) (by unfold bc; omega) (by unfold bc; omega) (by unfold bc; omega) (by unfold bc; omega) b3
  · rw [h12] at q
    obtain ⟨c1, c2, c3⟩ := b6 q
    rw [e174, e6]
    exact ⟨c1, lk 7 _ (by unfold bc; omega) (by unfold bc; omega) (by unfold bc; omega) (by unfold bc; omega) c2, le 180 7 _ (by unfold bc; omega) (by unfold bc; omega) (by unfold bc; omega) (by unfold bc; omega) (by unfold bc; omega) (by unfold bc; omega) (by unfold bc; omega) (by unfold bc; omega) c3⟩
  · intro i hi
    rw [h 65 (by unfold bc; omega), h 66 (by unfold bc; omega), h 67 (by unfold bc; omega), h 184 (by unfold bc; omega), h 185 (by unfold bc; omega), h (187 + i) (by unfold bc; omega)]
    exact b7 i hi
theorem row_bd (gt : Nat → Nat → Bool) (th : Nat → Bool) {n : Nat} (hn : n ≤ 10) {j : Nat} (hj : j < cntN th n) : cntN th n ≤ 10 ∧ rowN gt th n j < 10 := by
  have h1 := cntN_le th n
  have h2 := rowN_lt gt th n j hj
  omega
theorem T_order {s : Sg} {x d i : Int} (hB : Base s) : w_X9_order s x d i (fun r1 s1 => w_X10_order s1 x d i (fun r2 s2 => r1 = r2 ∧ Base s2 ∧ Keep s s2)) := by
  have hLs := Base_LsD hB
  have hbad : ¬ ((0 ≤ x ∧ x ≤ 400) ∧ (1 ≤ d ∧ d ≤ 10)) → w_X10_order s x d i (fun r2 s2 => -2 = r2 ∧ Base s2 ∧ Keep s s2) := by
    intro hno
    unfold w_X10_order jn
    refine s_X10_in fun r1 e1 => ⟨fun _ => ⟨rfl, hB, Keep_rfl s⟩, fun q1 => s_X10_in fun r3 e3 => ⟨fun q3 => ?_, fun _ => ⟨rfl, hB, Keep_rfl s⟩⟩⟩
    rcases e1 with e | e <;> rcases e3 with e3 | e3 <;> omega
  unfold w_X9_order jn
  refine ⟨fun q => hbad (by omega), fun q1 => ⟨fun q => hbad (by omega), fun q2 => ⟨fun q => hbad (by omega), fun q3 => ⟨fun q4 => ?_, fun q => hbad (by omega)⟩⟩⟩⟩
  have hx : FrB x d := ⟨by omega, by omega⟩
  have hn := hLs.1
  refine s_X7_stand hLs rfl Base_At hx fun t ho hR hH => ?_
  have hBt : Base t := Base_scr hB (fun c hc => ho c (by unfold bc at hc; omega) (by unfold bc at hc; omega) (by unfold bc at hc; omega)) (by rw [ho 0 (by omega) (by omega) (by omega)]) (by rw [ho 68 (by omega) (by omega) (by omega)]) (by rw [ho 68 (by omega) (by omega) (by omega)])
  have hat2 : LnAt t 69 (s 1 0) (lD s) := fun k hk => by
    rw [ho 69 (by omega) (by omega) (by omega), ho (69 + 1) (by omega) (by omega) (by omega), ho (69 + 2) (by omega) (by omega) (by omega), ho (69 + 3) (by omega) (by omega) (by omega)]
    exact Base_At2 hB k hk
  have h68 : t 68 0 = s 1 0 := by rw [ho 68 (by omega) (by omega) (by omega)]; exact hB.1
  have hle := cntN_le (thereB (lD s) x d (-1)) (s 1 0).toNat
  have hlt := rowN_lt (gtB (lD s) x d) (thereB (lD s) x d (-1)) (s 1 0).toNat
  have ref : ∀ r1 : Int, (i = -1 → r1 = (cntN (thereB (lD s) x d (-1)) (s 1 0).toNat : Int)) → (i ≠ -1 → ¬ (0 ≤ i ∧ i < (cntN (thereB (lD s) x d (-1)) (s 1 0).toNat : Int)) → r1 = -12) → (0 ≤ i ∧ i < (cntN (thereB (lD s) x d (-1)) (s 1 0).toNat : Int) → r1 = (rowN (gtB (lD s) x d) (thereB (lD s) x d (-1)) (s 1 0).toNat i.toNat : Int)) → w_X10_order t x d i (fun r2 s2 => r1 = r2 ∧ Base s2 ∧ Keep s s2) := by
    intro r1 f1 f2 f3
    unfold w_X10_order jn
    refine s_X10_in fun r2 e2 => ⟨fun q => by rcases e2 with e | e <;> omega, fun _ => s_X10_in fun r3 e3 => ⟨fun _ => ?_, fun q => by rcases e3 with e | e <;> omega⟩⟩
    refine s_X10_tellOrder hLs h68 hat2 hx (by omega) fun u ko ko2 kR => ?_
    have hBu : Base u := Base_scr hBt (fun c hc => ko c (by unfold bc at hc; omega) (by unfold bc at hc; omega)) (by rw [ko 0 (by omega) (by omega)]) (ko2 0 (by omega)) (ko2 43 (by omega))
    have hKu : Keep s u := Or.inl ⟨fun c hc => by unfold kc at hc; rw [ko c (by omega) (by omega), ho c (by omega) (by omega) (by omega)], by rw [ko 0 (by omega) (by omega), ho 0 (by omega) (by omega) (by omega)], by rw [ko 0 (by omega) (by omega), ho 0 (by omega) (by omega) (by omega)], by rw [ko 0 (by omega) (by omega), ho 0 (by omega) (by omega) (by omega)]⟩
    obtain ⟨kR1, kR2⟩ := kR
    generalize cntN (thereB (lD s) x d (-1)) (s 1 0).toNat = m at *
    rw [kR1]
    refine ⟨fun c => ?_, fun c => ⟨f1 c, hBu, hKu⟩⟩
    rw [w32_id (show ok32 ((m : Int) - 1) from ⟨by omega, by omega⟩)]
    refine s_X10_in fun r5 e5 => ⟨fun q => ⟨f2 c (by rcases e5 with e | e <;> omega), hBu, hKu⟩, fun q => ?_⟩
    have hi : 0 ≤ i ∧ i < (m : Int) := by rcases e5 with e | e <;> omega
    refine ⟨by omega, ?_, hBu, hKu⟩
    rw [f3 hi, kR2 i.toNat (by omega)]
  obtain ⟨hR1, hR2⟩ := hR
  generalize cntN (thereB (lD s) x d (-1)) (s 1 0).toNat = m at *
  rw [hR1]
  refine ⟨fun c => ⟨fun q => ref _ (fun e => absurd e c) (fun _ _ => rfl) (fun e => by omega), fun q => ⟨fun q2 => ⟨by omega, ?_⟩, fun q2 => ref _ (fun e => absurd e c) (fun _ _ => rfl) (fun e => by omega)⟩⟩, fun c => ref _ (fun _ => rfl) (fun e => absurd c e) (fun e => by omega)⟩
  rw [hR2 i.toNat (by omega)]
  exact ref _ (fun e => absurd e c) (fun _ e => by omega) (fun _ => rfl)
