theorem LkOK_eq {s : Sg} {c e : Nat} {n : Int} (h : LkOK s e n) (q : LkEq s c e n) : LkOK s c n := by
  refine ⟨h.1, h.2.1, fun i hi => ?_⟩
  obtain ⟨q1, q2, q3, q4⟩ := q i hi
  rw [q1, q2, q3, q4]
  exact h.2.2 i hi
theorem LkOK_cells {s t : Sg} {c : Nat} {n : Int} (h : LkOK s c n) (h0 : t c = s c) (h1 : t (c + 1) = s (c + 1)) (h2 : t (c + 2) = s (c + 2)) (h3 : t (c + 3) = s (c + 3)) : LkOK t c n := by
  unfold LkOK
  rw [h0, h1, h2, h3]
  exact h
theorem T_drop {s : Sg} {i : Int} (hB : Base s) : w_X9_drop s i (fun r1 s1 => w_X10_drop s1 i (fun r2 s2 => r1 = r2 ∧ Base s2 ∧ Keep s s2)) := by
  have b1 := hB.1
  have hL := hB.2.1
  have hn : 0 ≤ s 1 0 ∧ s 1 0 ≤ 10 := ⟨hL.1, hL.2.1⟩
  have hLm : LkOK s 69 (s 1 0) := LkOK_eq hL hB.2.2.1
  unfold w_X9_drop w_X10_drop
  refine s_X2_has fun r e => ⟨fun hr => ?_, fun hr => ?_⟩
  · have hi : 0 ≤ i ∧ i < s 1 0 := by omega
    refine s_forget ?_
    have hf : ∀ c, c ≠ 0 → fgt s c = s c := fun c h => fgt_ne s h
    have f1 : fgt s 1 0 = s 1 0 := by rw [hf 1 (by omega)]
    refine s_X2_remove (s := fgt s) (by rw [f1]; exact hn) (by rw [f1]; exact hi) fun t ht => ?_
    obtain ⟨t1, t2, t3, t4⟩ := ht
    have e68 : t 68 0 = s 1 0 := by rw [t3 68 (by omega), hf 68 (by omega), b1]
    refine s_X10_isLine (by rw [e68]; exact hn) fun r2 e2 => ⟨fun hr2 => ?_, fun hr2 => by omega⟩
    have tLm : LkOK t 69 (t 68 0) := by
      rw [e68]
      exact LkOK_cells hLm (by rw [t3 69 (by omega), hf 69 (by omega)]) (by rw [t3 _ (by omega), hf _ (by omega)]) (by rw [t3 _ (by omega), hf _ (by omega)]) (by rw [t3 _ (by omega), hf _ (by omega)])
    refine s_X10_drops tLm (by rw [e68]; exact hi) fun u hu => ?_
    obtain ⟨u1, u2, u3, u4⟩ := hu
    have v1 : u 1 0 = s 1 0 - 1 := by rw [u3 1 (by omega), t1, f1]
    have v68 : u 68 0 = s 1 0 - 1 := by rw [u1, e68]
    have lo : ∀ j, 1 ≤ j → j ≤ 4 → ∀ k : Nat, u (1 + j) k = if i ≤ (k : Int) ∧ (k : Int) < s 1 0 - 1 then s (1 + j) (k + 1) else s (1 + j) k := fun j h1 h2 k => by
      rw [u3 (1 + j) (by omega), t4 j h1 h2 k, f1, hf (1 + j) (by omega)]
    have hi' : ∀ j, 1 ≤ j → j ≤ 4 → ∀ k : Nat, u (68 + j) k = if i ≤ (k : Int) ∧ (k : Int) < s 1 0 - 1 then s (68 + j) (k + 1) else s (68 + j) k := fun j h1 h2 k => by
      rw [u4 j h1 h2 k, e68, t3 (68 + j) (by omega), hf (68 + j) (by omega)]
    have p1 := lo 1 (by omega) (by omega)
    have p2 := lo 2 (by omega) (by omega)
    have p3 := lo 3 (by omega) (by omega)
    have p4 := lo 4 (by omega) (by omega)
    have m1 := hi' 1 (by omega) (by omega)
    have m2 := hi' 2 (by omega) (by omega)
    have m3 := hi' 3 (by omega) (by omega)
    have m4 := hi' 4 (by omega) (by omega)
    refine ⟨by rw [t1, f1, v68], Base_far hB (fun c hc => by rw [u3 c (by omega), t3 c (by omega), hf c (by omega)]) ?_ ?_ (by rw [v68, v1]) ?_ ?_, Or.inr ?_⟩
    · rw [u3 0 (by omega), t3 0 (by omega)]; exact (fgt_0 s).1
    · rw [u2 43 (by omega), t3 68 (by omega), hf 68 (by omega)]
    · rw [v1]
      refine ⟨by omega, by omega, fun k hk => ?_⟩
      simp only [Nat.reduceAdd] at p1 p2 p3 p4 ⊢
      rw [p1 k, p2 k, p3 k, p4 k]
      by_cases c : i ≤ (k : Int)
      · have cc : i ≤ (k : Int) ∧ (k : Int) < s 1 0 - 1 := ⟨c, hk⟩
        simp only [if_pos cc]
        exact hL.2.2 (k + 1) (by omega)
      · have cc : ¬ (i ≤ (k : Int) ∧ (k : Int) < s 1 0 - 1) := fun q => c q.1
        simp only [if_neg cc]
        exact hL.2.2 k (by omega)
    · rw [v1]
      intro k hk
      simp only [Nat.reduceAdd] at p1 p2 p3 p4 m1 m2 m3 m4 ⊢
      rw [p1 k, p2 k, p3 k, p4 k, m1 k, m2 k, m3 k, m4 k]
      by_cases c : i ≤ (k : Int)
      · have cc : i ≤ (k : Int) ∧ (k : Int) < s 1 0 - 1 := ⟨c, hk⟩
        simp only [if_pos cc]
        exact hB.2.2.1 (k + 1) (by omega)
      · have cc : ¬ (i ≤ (k : Int) ∧ (k : Int) < s 1 0 - 1) := fun q => c q.1
        simp only [if_neg cc]
        exact hB.2.2.1 k (by omega)
    · rw [u3 0 (by omega), t3 0 (by omega)]
      exact (fgt_0 s).2
  · refine s_X10_isLine (by rw [b1]; exact hn) fun r2 e2 => ⟨fun hr2 => by rw [b1] at e2; omega, fun hr2 => ⟨rfl, hB, Or.inl ⟨fun _ _ => rfl, rfl, rfl, rfl⟩⟩⟩
theorem Base_lay {s : Sg} {i x y u v : Int} (hB : Base s) (hi : 0 ≤ i ∧ i < s 1 0) (hx : 0 ≤ x ∧ x ≤ 40) (hy : 0 ≤ y ∧ y ≤ 40) (hu : 0 ≤ u ∧ u ≤ 40) (hv : 0 ≤ v ∧ v ≤ 40) (hne : ¬ (x = u ∧ y = v)) : Base (layS (layS (fgt s) 2 i.toNat x y u v) 69 i.toNat x y u v) := by
  have hL := hB.2.1
  generalize hA : layS (fgt s) 2 i.toNat x y u v = A
  generalize hE : layS A 69 i.toNat x y u v = E
  have hAo : ∀ c, (c < 2 ∨ 6 ≤ c) → A c = fgt s c := fun c h => by rw [← hA, layS_ne (by omega)]
  have hAi : ∀ c k, k ≠ i.toNat → A c k = fgt s c k := fun c k h => by rw [← hA, layS_i h]
  have hEo : ∀ c, (c < 69 ∨ 73 ≤ c) → E c = A c := fun c h => by rw [← hE, layS_ne (by omega)]
  have hEi : ∀ c k, k ≠ i.toNat → E c k = A c k := fun c k h => by rw [← hE, layS_i h]
  have hf : ∀ c, c ≠ 0 → fgt s c = s c := fun c h => fgt_ne s h
  have hat := layS_at (s := A) (t := fgt s) (c := 69) (e := 2) (i := i.toNat) (x := x) (y := y) (u := u) (v := v)
  rw [hE, hA] at hat
  have hok := layS_ok (s := fgt s) (c := 2) (i := i.toNat) hx hy hu hv hne
  rw [hA] at hok
  have e1 : E 1 0 = s 1 0 := by rw [hEo 1 (by omega), hAo 1 (by omega), hf 1 (by omega)]
  have hlow : ∀ c, c < 6 → E c = A c := fun c h => hEo c (by omega)
  refine Base_far hB (fun c hc => by rw [hEo c (by omega), hAo c (by omega), hf c (by omega)]) (by rw [hEo 0 (by omega), hAo 0 (by omega)]; exact (fgt_0 s).1) (by rw [hEo 68 (by omega), hAo 68 (by omega), hf 68 (by omega)]) (by rw [e1, hEo 68 (by omega), hAo 68 (by omega), hf 68 (by omega)]; exact hB.1) ?_ ?_
  · rw [e1]
    refine ⟨hL.1, hL.2.1, fun k hk => ?_⟩
    rw [hlow 2 (by omega), hlow (2 + 1) (by omega), hlow (2 + 2) (by omega), hlow (2 + 3) (by omega)]
    by_cases e : k = i.toNat
    · subst e; exact hok
    · rw [hAi _ _ e, hAi _ _ e, hAi _ _ e, hAi _ _ e, hf 2 (by omega), hf (2 + 1) (by omega), hf (2 + 2) (by omega), hf (2 + 3) (by omega)]
      exact hL.2.2 k hk
  · rw [e1]
    intro k hk
    rw [hlow 2 (by omega), hlow (2 + 1) (by omega), hlow (2 + 2) (by omega), hlow (2 + 3) (by omega)]
    by_cases e : k = i.toNat
    · subst e; exact hat
    · rw [hEi _ _ e, hEi _ _ e, hEi _ _ e, hEi _ _ e, hAi _ _ e, hAi _ _ e, hAi _ _ e, hAi _ _ e, hAi _ _ e, hAi _ _ e, hAi _ _ e, hAi _ _ e, hf 2 (by omega), hf (2 + 1) (by omega), hf (2 + 2) (by omega), hf (2 + 3) (by omega), hf 69 (by omega), hf (69 + 1) (by omega), hf (69 + 2) (by omega), hf (69 + 3) (by omega)]
      exact hB.2.2.1 k hk
theorem T_move {s : Sg} {i e x y : Int} (hB : Base s) : w_X9_move s i e x y (fun r1 s1 => w_X10_move s1 i e x y (fun r2 s2 => r1 = r2 ∧ Base s2 ∧ Keep s s2)) := by
  have b1 := hB.1
  have hL := hB.2.1
  have hn : 0 ≤ s 1 0 ∧ s 1 0 ≤ 10 := ⟨hL.1, hL.2.1⟩
  -- what the reference does where the call is refused
  have hbad : ¬ ((0 ≤ i ∧ i < s 1 0) ∧ (0 ≤ e ∧ e ≤ 1) ∧ (0 ≤ x ∧ x ≤ 40) ∧ (0 ≤ y ∧ y ≤ 40) ∧ ¬ (x = (if e = 0 then s 4 i.toNat else s 2 i.toNat) ∧ y = (if e = 0 then s 5 i.toNat else s 3 i.toNat))) → w_X10_move s i e x y (fun r2 s2 => -2 = r2 ∧ Base s2 ∧ Keep s s2) := by
    intro hno
    have fin : (-2 : Int) = -2 ∧ Base s ∧ Keep s s := ⟨rfl, hB, Or.inl ⟨fun _ _ => rfl, rfl, rfl, rfl⟩⟩
    unfold w_X10_move jn
    refine s_X10_isLine (by rw [b1]; exact hn) fun r1 e1 => ⟨fun _ => fin, fun h1 => ?_⟩
    refine s_X10_in fun r2 e2 => ⟨fun _ => fin, fun h2 => ?_⟩
    refine s_X10_isOnSheet fun r3 e3 => ⟨fun _ => fin, fun h3 => ?_⟩
    refine s_X10_isOnSheet fun r4 e4 => ⟨fun h4 => ?_, fun _ => fin⟩
    rw [b1] at e1
    have hi : 0 ≤ i ∧ i < s 1 0 := by omega
    obtain ⟨q1, q2, q3, q4⟩ := hB.2.2.1 i.toNat (by omega)
    have hb : 0 ≤ i ∧ i < 10 := by omega
    by_cases he : e = 0
    · subst he
      simp only [if_pos] at hno
      refine ⟨fun h => absurd rfl h, fun _ => ⟨hb, ⟨fun h => absurd rfl h, fun _ => ⟨hb, ⟨fun h5 => ?_, fun h5 => ⟨fun h6 => ?_, fun _ => fin⟩⟩⟩⟩⟩⟩
      · exact absurd ⟨hi, by omega, by omega, by omega, fun q => h5 (by rw [q.1]; exact q3.symm)⟩ hno
      · exact absurd ⟨hi, by omega, by omega, by omega, fun q => h6 (by rw [q.2]; exact q4.symm)⟩ hno
    · simp only [if_neg he] at hno
      refine ⟨fun _ => ⟨hb, ⟨fun _ => ⟨hb, ⟨fun h5 => ?_, fun h5 => ⟨fun h6 => ?_, fun _ => fin⟩⟩⟩, fun h => absurd h he⟩⟩, fun h => absurd h he⟩
      · exact absurd ⟨hi, by omega, by omega, by omega, fun q => h5 (by rw [q.1]; exact q1.symm)⟩ hno
      · exact absurd ⟨hi, by omega, by omega, by omega, fun q => h6 (by rw [q.2]; exact q2.symm)⟩ hno
  have hgood : ∀ (hi : 0 ≤ i ∧ i < s 1 0) (he : 0 ≤ e ∧ e ≤ 1) (hx : 0 ≤ x ∧ x ≤ 40) (hy : 0 ≤ y ∧ y ≤ 40) (a b : Int), a = (if e = 0 then s 4 i.toNat else s 2 i.toNat) → b = (if e = 0 then s 5 i.toNat else s 3 i.toNat) → ¬ (x = a ∧ y = b) → (0 ≤ a ∧ a ≤ 40) → (0 ≤ b ∧ b ≤ 40) → w_X10_move (layS (fgt s) 2 i.toNat x y a b) i e x y (fun r2 s2 => 1 = r2 ∧ Base s2 ∧ Keep s s2) := by
    intro hi he hx hy a b ha hb hne ha40 hb40
    generalize hA : layS (fgt s) 2 i.toNat x y a b = A
    have hAo : ∀ c, 6 ≤ c → A c = s c := fun c h => by rw [← hA, layS_ne (by omega), fgt_ne _ (by omega)]
    have e68 : A 68 0 = s 1 0 := by rw [hAo 68 (by omega), b1]
    obtain ⟨q1, q2, q3, q4⟩ := hB.2.2.1 i.toNat (by omega)
    have fin : (1 : Int) = 1 ∧ Base (layS A 69 i.toNat x y a b) ∧ Keep s (layS A 69 i.toNat x y a b) := by
      refine ⟨rfl, by rw [← hA]; exact Base_lay hB hi hx hy ha40 hb40 hne, Or.inr ?_⟩
      rw [layS_ne (by omega), ← hA, layS_ne (by omega)]
      exact (fgt_0 s).2
    unfold w_X10_move jn
    refine s_X10_isLine (by rw [e68]; exact hn) fun r1 e1 => ⟨fun _ => by omega, fun h1 => ?_⟩
    refine s_X10_in fun r2 e2 => ⟨fun _ => by omega, fun h2 => ?_⟩
    refine s_X10_isOnSheet fun r3 e3 => ⟨fun _ => by omega, fun h3 => ?_⟩
    refine s_X10_isOnSheet fun r4 e4 => ⟨fun h4 => ?_, fun _ => by omega⟩
    have hb10 : 0 ≤ i ∧ i < 10 := by omega
    have a69 : A 69 i.toNat = s 2 i.toNat := by rw [hAo 69 (by omega)]; exact q1
    have a70 : A 70 i.toNat = s 3 i.toNat := by rw [hAo 70 (by omega)]; exact q2
    have a71 : A 71 i.toNat = s 4 i.toNat := by rw [hAo 71 (by omega)]; exact q3
    have a72 : A 72 i.toNat = s 5 i.toNat := by rw [hAo 72 (by omega)]; exact q4
    rw [a69, a70, a71, a72]
    by_cases he0 : e = 0
    · simp only [if_pos he0] at ha hb
      rw [← ha, ← hb]
      refine ⟨fun h => absurd he0 h, fun _ => ⟨hb10, ⟨fun h => absurd he0 h, fun _ => ⟨hb10, ⟨fun h5 => s_X10_stands hb10 fin, fun h5 => ⟨fun h6 => s_X10_stands hb10 fin, fun h6 => absurd ⟨h5, h6⟩ hne⟩⟩⟩⟩⟩⟩
    · simp only [if_neg he0] at ha hb
      rw [← ha, ← hb]
      refine ⟨fun _ => ⟨hb10, ⟨fun _ => ⟨hb10, ⟨fun h5 => s_X10_stands hb10 fin, fun h5 => ⟨fun h6 => s_X10_stands hb10 fin, fun h6 => absurd ⟨h5, h6⟩ hne⟩⟩⟩, fun h => absurd h he0⟩⟩, fun h => absurd h he0⟩
  unfold w_X9_move jn
  refine s_X2_has fun r1 e1 => ⟨fun hr => hbad (by omega), fun hr => ?_⟩
  refine ⟨fun h => hbad (by omega), fun h0 => ⟨fun h1 => ?_, fun h => hbad (by omega)⟩⟩
  have hi : 0 ≤ i ∧ i < s 1 0 := by omega
  have hb10 : 0 ≤ i ∧ i < 10 := by omega
  have hLi := hL.2.2 i.toNat (by omega)
  simp only [Nat.reduceAdd] at hLi
  have hmain : ∀ a b : Int, a = (if e = 0 then s 4 i.toNat else s 2 i.toNat) → b = (if e = 0 then s 5 i.toNat else s 3 i.toNat) → w_X9_canBeEnds x y a b (fun r_7 => (¬ r_7 = 0 → w_X9_forgetWhatFollows s (fun s_8 => w_X2_lay s_8 1 i x y a b (fun s_9 => w_X10_move s_9 i e x y (fun r2 s2 => 1 = r2 ∧ Base s2 ∧ Keep s s2)))) ∧ (r_7 = 0 → w_X10_move s i e x y (fun r2 s2 => -2 = r2 ∧ Base s2 ∧ Keep s s2))) := by
    intro a b ha hb
    have ha40 : 0 ≤ a ∧ a ≤ 40 := by rw [ha]; split; exact hLi.2.2.1; exact hLi.1
    have hb40 : 0 ≤ b ∧ b ≤ 40 := by rw [hb]; split; exact hLi.2.2.2.1; exact hLi.2.1
    refine s_X9_canBeEnds fun r7 e7 => ⟨fun h7 => ?_, fun h7 => hbad (by rw [← ha, ← hb]; omega)⟩
    refine s_forget ?_
    refine s_X2_lay (s := fgt s) (by rw [fgt_ne _ (by omega)]; exact hi) (by rw [fgt_ne _ (by omega)]; exact hn.2) ?_
    exact hgood hi (by omega) (by omega) (by omega) a b ha hb (by omega) ha40 hb40
  by_cases he0 : e = 0
  · have hm := hmain (s 4 i.toNat) (s 5 i.toNat) (by rw [if_pos he0]) (by rw [if_pos he0])
    refine ⟨fun h => absurd he0 h, fun _ => ⟨hb10, ⟨fun h => absurd he0 h, fun _ => ⟨hb10, hm⟩⟩⟩⟩
  · have hm := hmain (s 2 i.toNat) (s 3 i.toNat) (by rw [if_neg he0]) (by rw [if_neg he0])
    refine ⟨fun _ => ⟨hb10, ⟨fun _ => ⟨hb10, hm⟩, fun h => absurd h he0⟩⟩, fun h => absurd h he0⟩
