theorem T_tells {s : Sg} {a x k : Int} (hB : Base s) : w_X9_tells s a x k (fun r1 s1 => w_X10_tells s1 a x k (fun r2 s2 => r1 = r2 ∧ Base s2 ∧ Keep s s2)) := by
  have hn := (Base_LsD hB).1
  -- the reference's run from any heap in which nothing but what is worked out anew has changed
  have ref : ∀ r1 t, ScS s t → (¬ ((0 ≤ a ∧ a < 4) ∧ (0 ≤ x ∧ x ≤ 40) ∧ (0 ≤ k ∧ k ≤ 3)) → r1 = -2) →
      ((0 ≤ a ∧ a < 4) → (0 ≤ x ∧ x ≤ 40) → (0 ≤ k ∧ k ≤ 3) → (s 65 a.toNat = -1 → r1 = -11) ∧ (s 65 a.toNat ≠ -1 → 10 < s 66 a.toNat → r1 = -2) ∧ (s 65 a.toNat ≠ -1 → s 66 a.toNat ≤ 10 → (k = 0 → tlF s a x (-1) r1) ∧ (k = 1 → r1 = (cntN (fun x => tlB s a (x : Int) (-1)) 41 : Int)) ∧ (k = 2 → FstX (fun x => tlB s a (x : Int) (-1)) 41 r1) ∧ (k = 3 → r1 = bitsOf (fun i => tlB s a x (i : Int)) (s 1 0).toNat))) →
      w_X10_tells t a x k (fun r2 s2 => r1 = r2 ∧ Base s2 ∧ Keep s s2) := by
    intro r1 t hS g1 g2
    unfold w_X10_tells jn
    refine s_X10_isSheet fun q1 e1 => ⟨fun z => ⟨g1 (by rcases e1 with e | e <;> omega), ScS_end hB hS⟩, fun z1 => s_X10_isOnSheet fun q3 e3 => ⟨fun z => ⟨g1 (by rcases e3 with e | e <;> omega), ScS_end hB hS⟩, fun z3 => s_X10_in fun q4 e4 => ⟨fun z4 => ?_, fun z => ⟨g1 (by rcases e4 with e | e <;> omega), ScS_end hB hS⟩⟩⟩⟩
    have ha : 0 ≤ a ∧ a < 4 := by rcases e1 with e | e <;> omega
    have hx : 0 ≤ x ∧ x ≤ 40 := by rcases e3 with e | e <;> omega
    have hk : 0 ≤ k ∧ k ≤ 3 := by rcases e4 with e | e <;> omega
    obtain ⟨g2, g3, g4⟩ := g2 ha hx hk
    have hsh := hB.2.2.2.2.2.2 a.toNat (by omega)
    have t184 : t 184 = s 184 := hS.1 184 (by omega) (by omega) (by omega) (by omega) (by omega)
    have t185 : t 185 = s 185 := hS.1 185 (by omega) (by omega) (by omega) (by omega) (by omega)
    rw [t184, t185, ← hsh.1, ← hsh.2.2.1]
    refine ⟨ha, ⟨fun z5 => ⟨ha, ⟨fun z6 => ?_, fun z6 => ⟨g3 (by omega) (by omega), ScS_end hB hS⟩⟩⟩, fun z5 => ⟨g2 (by omega), ScS_end hB hS⟩⟩⟩
    obtain ⟨k0, k1, k2, k3⟩ := g4 (by omega) z6
    refine ⟨fun n0 => ⟨fun n3 => ?_, fun e3 => ?_⟩, fun e0 => t_otherwise hB ha hS hx fun r u hu hr => ⟨FO_one (k0 e0) hr, ScS_end hB hu⟩⟩
    · refine lr_3s (fun c f y u => ∃ y' : Nat, y = (y' : Int) ∧ y' ≤ 41 ∧ ScS s u ∧ c = (cntN (fun x => tlB s a (x : Int) (-1)) y' : Int) ∧ FstX (fun x => tlB s a (x : Int) (-1)) y' f) (fun _ _ y _ => (41 - y).toNat) ?_ _ _ _ _ ⟨0, rfl, by omega, hS, rfl, Or.inl ⟨rfl, fun _ h => absurd h (Nat.not_lt_zero _)⟩⟩
      rintro again c f _ u ⟨y, rfl, hy, hu, rfl, hf⟩ ih
      have b1 : ok32 ((y : Int) + 1) := ⟨by omega, by omega⟩
      have b2 : (y : Int) + 1 = ((y + 1 : Nat) : Int) := by omega
      have hcl := cntN_le (fun x => tlB s a (x : Int) (-1)) y
      have c1 : ok32 ((cntN (fun x => tlB s a (x : Int) (-1)) y : Int) + 1) := ⟨by omega, by omega⟩
      refine ⟨fun c => ?_, fun c => t_otherwise hB ha hu (by omega) fun r v hv hr => ?_⟩
      · have e : y = 41 := by omega
        subst e
        exact ⟨fun q => ⟨FstX_one (k2 (by omega)) hf, ScS_end hB hu⟩, fun q => ⟨k1 q, ScS_end hB hu⟩⟩
      · have hB1 : tlB s a (y : Int) (-1) = true ↔ r = -1 := (FO_B hr).symm
        have hz := cntN_0 (B := fun x => tlB s a (x : Int) (-1)) (n := y)
        have nxt : ∀ f', FstX (fun x => tlB s a (x : Int) (-1)) (y + 1) f' → r = -1 → ∀ w, w = w32 ((cntN (fun x => tlB s a (x : Int) (-1)) y : Int) + 1) → ∀ w2, w2 = w32 ((y : Int) + 1) → again w f' w2 v := by
          intro f' hf' q w ew w2 ew2
          rw [ew2, ew, w32_id b1, b2, w32_id c1]
          clear ew ew2
          refine ih _ _ _ _ ⟨y + 1, rfl, by omega, hv, ?_, hf'⟩ (by omega)
          rw [cntN_s, if_pos (hB1.mpr q)]
          omega
        refine ⟨fun q => ⟨fun n => nxt f ?_ q, fun n => nxt _ ?_ q⟩, fun q w ew => ?_⟩
        · rcases hf with ⟨e, e1⟩ | ⟨l, d, d1, d2, d3⟩
          · exact absurd (by rw [hz.mpr e1]; rfl) n
          · exact Or.inr ⟨l, by omega, d1, d2, d3⟩
        · exact Or.inr ⟨y, by omega, rfl, hB1.mpr q, hz.mp (by omega)⟩
        · rw [ew, w32_id b1, b2]
          clear ew
          refine ih _ _ _ _ ⟨y + 1, rfl, by omega, hv, ?_, ?_⟩ (by omega)
          · rw [cntN_s, if_neg (fun z => q (hB1.mp z))]
          · rcases hf with ⟨e, e1⟩ | ⟨l, d, d1, d2, d3⟩
            · refine Or.inl ⟨e, fun z hz2 => ?_⟩
              by_cases e4 : z = y
              · subst e4; exact fun z => q (hB1.mp z)
              · exact e1 z (by omega)
            · exact Or.inr ⟨l, by omega, d1, d2, d3⟩
    · refine lr_2s (fun v i u => ∃ i' : Nat, i = (i' : Int) ∧ i' ≤ (s 1 0).toNat ∧ ScS s u ∧ v = bitsOf (fun i => tlB s a x (i : Int)) i') (fun _ i _ => (s 1 0 - i).toNat) ?_ _ _ _ ⟨0, rfl, by omega, hS, rfl⟩
      rintro again _ _ u ⟨i, rfl, hi, hu, rfl⟩ ih
      have b1 : ok32 ((i : Int) + 1) := ⟨by omega, by omega⟩
      have b2 : (i : Int) + 1 = ((i + 1 : Nat) : Int) := by omega
      have u68 : u 68 0 = s 1 0 := by rw [hu.2 0 (by omega)]; exact hB.1
      rw [u68]
      refine ⟨fun c => ?_, fun c => t_otherwise hB ha hu hx fun r v hv hr => ?_⟩
      · have e : i = (s 1 0).toNat := by omega
        subst e
        exact ⟨k3 e3, ScS_end hB hu⟩
      · have hB1 : tlB s a x (i : Int) = true ↔ r = -1 := (FO_B hr).symm
        refine ⟨fun q w ew => ?_, fun q w ew w2 ew2 => ?_⟩
        · rw [ew, w32_id b1, b2]
          clear ew
          refine ih _ _ _ ⟨i + 1, rfl, by omega, hv, ?_⟩ (by omega)
          rw [bitsOf_s, if_neg (fun z => q (hB1.mp z))]
        · rw [ew2, ew, w32_id b1, b2]
          clear ew ew2
          refine ih _ _ _ ⟨i + 1, rfl, by omega, hv, ?_⟩ (by omega)
          rw [bitsOf_s, if_pos (hB1.mpr q)]
  have bad : ¬ ((0 ≤ a ∧ a < 4) ∧ (0 ≤ x ∧ x ≤ 40) ∧ (0 ≤ k ∧ k ≤ 3)) → w_X10_tells s a x k (fun r2 s2 => -2 = r2 ∧ Base s2 ∧ Keep s s2) := fun n => ref _ s (ScS_rfl s) (fun _ => rfl) (fun h1 h2 h3 => absurd ⟨h1, h2, h3⟩ n)
  unfold w_X9_tells jn
  refine s_X5_isOne fun r1 e1 => ⟨fun q => bad (by rcases e1 with e | e <;> omega), fun q1 => s_X9_isCoordinate fun r3 e3 => ⟨fun q => bad (by rcases e3 with e | e <;> omega), fun q3 => ⟨fun q => bad (by omega), fun q4 => ⟨fun q5 => ?_, fun q => bad (by omega)⟩⟩⟩⟩
  have ha : 0 ≤ a ∧ a < 4 := by rcases e1 with e | e <;> omega
  have hx : 0 ≤ x ∧ x ≤ 40 := by rcases e3 with e | e <;> omega
  have hk : 0 ≤ k ∧ k ≤ 3 := by omega
  have all : (0 ≤ a ∧ a < 4) ∧ (0 ≤ x ∧ x ≤ 40) ∧ (0 ≤ k ∧ k ≤ 3) := ⟨ha, hx, hk⟩
  refine s_X5_isMissing ha fun r4 e4 => ⟨fun q6 => ⟨ha, ⟨fun q7 => ?_, fun q7 => ref _ s (ScS_rfl s) (fun n => absurd all n) (fun _ _ _ => ⟨fun z => by rcases e4 with e | e <;> omega, fun _ _ => rfl, fun _ z => absurd z q7⟩)⟩⟩, fun q6 => ref _ s (ScS_rfl s) (fun n => absurd all n) (fun _ _ _ => ⟨fun _ => rfl, fun z _ => by rcases e4 with e | e <;> omega, fun z _ => by rcases e4 with e | e <;> omega⟩)⟩
  have h65 : s 65 a.toNat ≠ -1 := by rcases e4 with e | e <;> omega
  have go : ∀ r1 t, ScS s t → (k = 0 → tlF s a x (-1) r1) ∧ (k = 1 → r1 = (cntN (fun x => tlB s a (x : Int) (-1)) 41 : Int)) ∧ (k = 2 → FstX (fun x => tlB s a (x : Int) (-1)) 41 r1) ∧ (k = 3 → r1 = bitsOf (fun i => tlB s a x (i : Int)) (s 1 0).toNat) → w_X10_tells t a x k (fun r2 s2 => r1 = r2 ∧ Base s2 ∧ Keep s s2) :=
    fun r1 t hS g => ref r1 t hS (fun n => absurd all n) (fun _ _ _ => ⟨fun z => absurd z h65, fun _ z => by omega, fun _ _ => g⟩)
  refine ⟨fun e => ?_, fun e => ?_, fun e => ?_, fun e => ?_⟩
  · refine t_stand hB ha (ScS_rfl s) hx fun u hu hfo => hfo (-1) (by omega) _ fun r hr => go r u hu ⟨fun _ => hr, fun z => by omega, fun z => by omega, fun z => by omega⟩
  · exact s_X9_toldXs hB ha fun r u hu h1 h2 => go r u hu ⟨fun z => by omega, fun _ => h1 (by omega), fun z => by omega, fun z => by omega⟩
  · exact s_X9_toldXs hB ha fun r u hu h1 h2 => go r u hu ⟨fun z => by omega, fun z => by omega, fun _ => h2 rfl, fun z => by omega⟩
  · exact s_X9_toldWithout hB ha hx fun u hu => go _ u hu ⟨fun z => by omega, fun z => by omega, fun z => by omega, fun _ => rfl⟩
