/-! the class's stretches -/
noncomputable def upS (D : Nat → Nat → Int) (g : Nat → Int × Int) (n c r i : Nat) : Bool := upB D i && rchB D g c i && decide (rk D g n c (D 1 i * KK) < r) && decide (r ≤ rk D g n c (D 3 i * KK))
theorem upS_iff {D : Nat → Nat → Int} {g : Nat → Int × Int} {n c r i : Nat} : upS D g n c r i = true ↔ (D 0 i = D 2 i ∧ rchB D g c i = true ∧ rk D g n c (D 1 i * KK) < r ∧ r ≤ rk D g n c (D 3 i * KK)) := by
  unfold upS
  rw [Bool.and_eq_true, Bool.and_eq_true, Bool.and_eq_true, decide_eq_true_iff, decide_eq_true_iff, up_iff]
  exact ⟨fun z => ⟨z.1.1.1, z.1.1.2, z.1.2, z.2⟩, fun z => ⟨⟨⟨z.1, z.2.1⟩, z.2.2.1⟩, z.2.2.2⟩⟩
/-- what the class holds of slabs, and of the steps of an x -/
def StpR (t : Sg) (D : Nat → Nat → Int) (g : Nat → Int × Int) (n c : Nat) : Prop := t 45 4 = (tK D g n c : Int) ∧ ∀ i, i < n → rchB D g c i = true → t 51 i = (rk D g n c (lwV D g i c) : Int) ∧ t 52 i = (rk D g n c (hgV D g i c) : Int)
theorem s_X8_cellAt {t : Sg} {D : Nat → Nat → Int} {n m M s c r q0 : Nat} {f : Nat → Int × Int × Int × Int} {g : Nat → Int × Int} {v2 v3 : Int} {post : Int → Prop} (hS : Swp D n m f M g) (hsM : s ≤ M) (hcs : c = s ∨ c + 1 = s) (hC : ∀ q, q < nC D g n M s → t 44 (fC D g n M s + q) = hiS D g n M s q) (hR : StpR t D g n c) (hr : r ≤ 30) (hq0 : q0 ≤ psC D g n M s c r) (e2 : v2 = ((fC D g n M s + q0 : Nat) : Int)) (e3 : v3 = ((fC D g n M s + nC D g n M s : Nat) : Int)) (hp : post ((fC D g n M s + psC D g n M s c r : Nat) : Int)) : w_X8_cellAt t v2 v3 (r : Int) post := by
  unfold w_X8_cellAt
  rw [e2, e3]
  have hM := hS.2.2.2.2
  have fl := fC_le (g := g) (M := M) hS.1 s
  have nl := nC_le (g := g) (M := M) (s := s) hS.1
  have pl := ps_le D g n M s c r
  have hn10 := hS.1.1
  refine lr_2 (fun a b => ∃ q : Nat, a = ((fC D g n M s + q : Nat) : Int) ∧ b = ((fC D g n M s + q : Nat) : Int) ∧ q ≤ psC D g n M s c r) (fun a _ => ((fC D g n M s + nC D g n M s : Nat) - a).toNat) ?_ _ _ ⟨q0, rfl, rfl, hq0⟩
  rintro again _ _ ⟨q, rfl, rfl, hq⟩ ih
  have fin : q = psC D g n M s c r → post ((fC D g n M s + q : Nat) : Int) := fun z => by rw [z]; exact hp
  have e1 : w32 (((fC D g n M s + q : Nat) : Int) + 1) = ((fC D g n M s + (q + 1) : Nat) : Int) := by rw [w32_id (show ok32 (((fC D g n M s + q : Nat) : Int) + 1) from ⟨by omega, by omega⟩)]; omega
  rw [e1]
  clear e1
  unfold jn
  refine ⟨fun z => fin (by omega), fun z => ⟨by omega, ?_⟩⟩
  have hqn : q < nC D g n M s - 1 := by omega
  obtain ⟨k1, k2, k3, k4, k5⟩ := EV_ok hS hqn hcs
  have pt := ps_lt (r := r) hS hqn hcs
  have hs1 : (s - 1) + 1 < M := by omega
  rw [Int.toNat_natCast, hC q (by omega)]
  unfold hiS
  rw [if_neg (by omega), hiG_P]
  refine s_X9_leastOf (by omega) fun ρ hρ => ?_
  have hqc : q < gcN D g n (s - 1) := by omega
  obtain ⟨i0, hi0, hp0⟩ := hiP_ex hqc
  rcases hρ with ⟨_, hno⟩ | ⟨i, hi, rfl, hPi, _⟩
  · exact absurd hp0 (hno i0 hi0)
  · obtain ⟨a1, a2, a3, a4, a5⟩ := hiP_ok hS hs1 hPi
    obtain ⟨b1, b2, b3⟩ := thr_rch hS hs1 hi a2
    have hv : hgV D g i c = EV D g n s q c ∧ rchB D g c i = true := by
      unfold hgV EV
      rw [if_neg (by omega)]
      rcases hcs with rfl | rfl
      · rw [show c - 1 + 1 = c by omega] at a5 b3
        exact ⟨a5, b3⟩
      · simp only [Nat.add_sub_cancel] at a4 b2 ⊢
        exact ⟨a4, b2⟩
    have e52 := (hR.2 i hi hv.2).2
    rw [hv.1] at e52
    refine ⟨fun z2 => by omega, fun _ => ⟨by omega, ?_⟩⟩
    rw [Int.toNat_natCast, e52]
    refine ⟨fun z3 v ev w ew => ?_, fun z3 => fin ?_⟩
    · rw [ev, ew]
      clear ev ew
      exact ih _ _ ⟨q + 1, rfl, rfl, by have := pt.mpr (by omega); omega⟩ (by omega)
    · have : ¬ q < psC D g n M s c r := fun y => z3 (by have := pt.mp y; omega)
      omega
theorem s_X8_uprightsAt {t : Sg} {D : Nat → Nat → Int} {n m M c r : Nat} {f : Nat → Int × Int × Int × Int} {g : Nat → Int × Int} {post : Int → Prop} (hS : Swp D n m f M g) (hc : c < M) (hn : t 1 0 = (n : Int)) (hat : LnAt t 2 (n : Int) D) (hR : StpR t D g n c) (hp : post (bitsOf (upS D g n c r) n)) : w_X8_uprightsAt t (g c).1 (g c).2 (r : Int) post := by
  unfold w_X8_uprightsAt
  have hn10 := hS.1.1
  rw [hn]
  refine lr_2 (fun b i => ∃ k : Nat, i = (k : Int) ∧ k ≤ n ∧ b = bitsOf (upS D g n c r) k) (fun _ i => ((n : Int) - i).toNat) ?_ 0 0 ⟨0, rfl, Nat.zero_le _, rfl⟩
  rintro again _ _ ⟨k, rfl, hk, rfl⟩ ih
  refine ⟨fun q => ?_, fun q => ?_⟩
  · have e : k = n := by omega
    rw [e]
    exact hp
  · have hk2 : k < n := by omega
    have b1 : ok32 ((k : Int) + 1) := ⟨by omega, by omega⟩
    have b2 : (k : Int) + 1 = ((k + 1 : Nat) : Int) := by omega
    have go : ∀ b', b' = bitsOf (upS D g n c r) (k + 1) → ∀ v, v = w32 ((k : Int) + 1) → again b' v := by
      intro b' hb v ev
      rw [ev, w32_id b1, b2]
      clear ev
      exact ih _ _ ⟨k + 1, rfl, by omega, hb⟩ (by omega)
    have no : ¬ upS D g n c r k = true → ∀ v, v = w32 ((k : Int) + 1) → again (bitsOf (upS D g n c r) k) v := fun z => go _ (by rw [bitsOf_s, if_neg z])
    unfold jn
    refine s_upr2 hS.1 hat hk2 fun r4 e4 => ⟨fun z4 => no fun w => ?_, fun z4 => s_rch2 hS hc hat hk2 fun r8 e8 => ⟨fun z8 => no fun w => ?_, fun z8 => ⟨by omega, ?_⟩⟩⟩
    · rw [upS_iff] at w
      rcases e4 with e | e
      · omega
      · exact e.2 w.1
    · rw [upS_iff] at w
      rcases e8 with e | e
      · omega
      · exact e.2 w.2.1
    · have hu : D 0 k = D 2 k := by rcases e4 with e | e; exact e.2; exact absurd e.1 z4
      have hr : rchB D g c k = true := by rcases e8 with e | e; exact e.2; exact absurd e.1 z8
      obtain ⟨e51, e52⟩ := hR.2 k hk2 hr
      unfold lwV at e51
      unfold hgV at e52
      rw [if_pos hu] at e51 e52
      rw [Int.toNat_natCast, e51, e52]
      refine ⟨fun z1 => no fun w => ?_, fun z1 => ⟨by omega, fun z2 => no fun w => ?_, fun z2 v ev => go _ ?_⟩⟩
      · rw [upS_iff] at w; omega
      · rw [upS_iff] at w; omega
      · rw [ev, bitsOf_s, if_pos (upS_iff.mpr ⟨hu, hr, by omega, by omega⟩)]
noncomputable def SB (D : Nat → Nat → Int) (g : Nat → Int × Int) (n c : Nat) : Nat := sm (fun c => tK D g n c + 1) c
theorem SB_s (D : Nat → Nat → Int) (g : Nat → Int × Int) (n c : Nat) : SB D g n (c + 1) = SB D g n c + (tK D g n c + 1) := rfl
theorem SB_mono {D : Nat → Nat → Int} {g : Nat → Int × Int} {n a c : Nat} (h : a ≤ c) : SB D g n a ≤ SB D g n c := by
  induction c with
  | zero => have : a = 0 := by omega
            rw [this]; exact Nat.le_refl _
  | succ c ih =>
    by_cases e : a = c + 1
    · rw [e]; exact Nat.le_refl _
    · have := ih (by omega)
      rw [SB_s]
      omega
theorem sm_pair (f : Nat → Nat) (n : Nat) : sm f (2 * n) = sm (fun i => f (2 * i) + f (2 * i + 1)) n := by
  induction n with
  | zero => rfl
  | succ n ih =>
    rw [show 2 * (n + 1) = 2 * n + 1 + 1 by omega, sm_s, sm_s, sm_s, ih]
    omega
theorem tK_le (D : Nat → Nat → Int) (g : Nat → Int × Int) (n c : Nat) : tK D g n c ≤ n + sm (fun i => ind (upB D i && rchB D g c i)) n := by
  refine Nat.le_trans (tau_ok D g n c).2 ?_
  rw [cnt_sm, sm_pair]
  have e : n = sm (fun _ => 1) n := by rw [sm_c]; omega
  have h2 : sm (fun i => ind (stO D g c (2 * i)) + ind (stO D g c (2 * i + 1))) n ≤ sm (fun i => 1 + ind (upB D i && rchB D g c i)) n := by
    refine sm_le fun i _ => ?_
    have h1 := ind_le (stO D g c (2 * i))
    have o2 : stO D g c (2 * i + 1) = (upB D i && rchB D g c i) := by
      unfold stO
      rw [show (2 * i + 1) / 2 = i by omega, decide_eq_false (show ¬ (2 * i + 1) % 2 = 0 by omega)]
      rw [Bool.false_or, Bool.and_comm]
    rw [o2]
    omega
  have h3 : sm (fun i => 1 + ind (upB D i && rchB D g c i)) n = n + sm (fun i => ind (upB D i && rchB D g c i)) n := by rw [sm_add, ← e]
  rw [h3] at h2
  exact h2
theorem SB_725 {D : Nat → Nat → Int} {n m M : Nat} {f : Nat → Int × Int × Int × Int} {g : Nat → Int × Int} (hS : Swp D n m f M g) : SB D g n M ≤ 725 := by
  have hn := hS.1.1
  have hM := hS.2.2.2.2
  have h1 : SB D g n M ≤ sm (fun c => (n + 1) + sm (fun i => ind (upB D i && rchB D g c i)) n) M := sm_le fun c _ => by
    have := tK_le D g n c
    omega
  rw [sm_add, sm_c, sm_swap] at h1
  have h2 : sm (fun i => sm (fun c => ind (upB D i && rchB D g c i)) M) n ≤ sm (fun _ => 1) n := by
    refine sm_le fun i hi => ?_
    by_cases z : ∃ c, c < M ∧ (upB D i && rchB D g c i) = true
    · obtain ⟨c, hc, hz⟩ := z
      rw [sm_one hc (fun c' hc' hne => ind_f fun w => ?_)]
      · exact ind_le _
      · rw [Bool.and_eq_true, up_iff, rch_S hS (by assumption)] at hz w
        refine hne (XX_eq hS hc' hc ?_)
        have e : D 0 i = D 2 i := hz.1
        rw [← e] at hz w
        omega
    · rw [sm_0 fun c hc => ind_f fun w => z ⟨c, hc, w⟩]
      omega
  rw [sm_c] at h2
  have h3 : (n + 1) * M ≤ 11 * 65 := Nat.mul_le_mul (by omega) hM
  omega
/-- the stretches, as the class keeps them -/
def StA (t : Sg) (D : Nat → Nat → Int) (n M : Nat) (g : Nat → Int × Int) : Prop := t 45 0 = (SB D g n M : Int) ∧ ∀ c, c < M → ∀ r, r ≤ tK D g n c → t 46 (SB D g n c + r) = ((fC D g n M c + psC D g n M c c r : Nat) : Int) ∧ t 47 (SB D g n c + r) = ((fC D g n M (c + 1) + psC D g n M (c + 1) c r : Nat) : Int) ∧ t 48 (SB D g n c + r) = bitsOf (upS D g n c r) n
theorem s_X8_add {t : Sg} {S : Nat} {v1 v2 v3 : Int} {post : Sg → Prop} (h : t 45 0 = (S : Int)) (h7 : S < 725) (hp : ∀ u : Sg, (∀ c, c ≠ 45 → c ≠ 46 → c ≠ 47 → c ≠ 48 → u c = t c) → (∀ o, o ≠ 0 → u 45 o = t 45 o) → u 45 0 = ((S + 1 : Nat) : Int) → (∀ j, u 46 j = if j = S then v1 else t 46 j) → (∀ j, u 47 j = if j = S then v2 else t 47 j) → (∀ j, u 48 j = if j = S then v3 else t 48 j) → post u) : w_X8_add t v1 v2 v3 post := by
  unfold w_X8_add jn
  rw [h]
  refine ⟨fun z => by omega, fun _ => ⟨by omega, ?_⟩⟩
  intro s4 e4
  have a4 : s4 45 = t 45 := by rw [e4, up_ne _ _ _ (by omega)]
  rw [a4, h]
  refine ⟨by omega, fun s6 e6 => ?_⟩
  have a6 : s6 45 = t 45 := by rw [e6, up_ne _ _ _ (by omega), a4]
  rw [a6, h]
  refine ⟨by omega, fun s8 e8 => ?_⟩
  have a8 : s8 45 = t 45 := by rw [e8, up_ne _ _ _ (by omega), a6]
  rw [a8, h, w32_id (show ok32 ((S : Int) + 1) from ⟨by omega, by omega⟩)]
  intro s9 e9
  rw [Int.toNat_natCast] at e4 e6 e8
  refine hp _ (fun c k1 k2 k3 k4 => by rw [e9, up_ne _ _ _ k1, e8, up_ne _ _ _ k4, e6, up_ne _ _ _ k3, e4, up_ne _ _ _ k2]) (fun o k1 => by rw [e9, up_apply, if_neg (fun z => k1 z.2), a8]) (by rw [e9, up_apply, if_pos ⟨rfl, rfl⟩]; omega) (fun j => ?_) (fun j => ?_) (fun j => ?_)
  · rw [e9, up_ne _ _ _ (by omega), e8, up_ne _ _ _ (by omega), e6, up_ne _ _ _ (by omega), e4, up_apply]
    simp
  · rw [e9, up_ne _ _ _ (by omega), e8, up_ne _ _ _ (by omega), e6, up_apply, e4, up_ne _ _ _ (by omega)]
    simp
  · rw [e9, up_ne _ _ _ (by omega), e8, up_apply, e6, up_ne _ _ _ (by omega), e4, up_ne _ _ _ (by omega)]
    simp
theorem ps_mono {D : Nat → Nat → Int} {g : Nat → Int × Int} {n M s c r r' : Nat} (h : r ≤ r') : psC D g n M s c r ≤ psC D g n M s c r' := cnt_mono fun q _ z => by rw [decide_eq_true_iff] at z ⊢; omega
theorem s_X8_find {s : Sg} {D : Nat → Nat → Int} {n m M : Nat} {f : Nat → Int × Int × Int × Int} {g : Nat → Int × Int} {post : Sg → Prop} (hS : Swp D n m f M g) (hn : s 1 0 = (n : Int)) (hat : LnAt s 2 (n : Int) D) (hSl : SlAt s D n M g)
    (hp : ∀ t : Sg, (∀ c, (c < 45 ∨ 52 < c) → t c = s c) → StA t D n M g → post t) : w_X8_find s post := by
  unfold w_X8_find
  rintro _ rfl
  obtain ⟨l0, l1, lx, lf, lc⟩ := hSl
  have hM := hS.2.2.2.2
  have sb := SB_725 hS
  have f66 := fC_le (g := g) (M := M) hS.1
  have hn10 := hS.1.1
  have fr : ∀ t : Sg, (∀ c, (c < 45 ∨ 52 < c) → t c = s c) → t 1 0 = (n : Int) ∧ LnAt t 2 (n : Int) D := fun t ho => by
    refine ⟨by rw [ho 1 (by omega)]; exact hn, fun i hi => ?_⟩
    rw [ho 2 (by omega), ho (2 + 1) (by omega), ho (2 + 2) (by omega), ho (2 + 3) (by omega)]
    exact hat i hi
  refine lr_1s (fun v t => ∃ c : Nat, v = (c : Int) ∧ c ≤ M ∧ (∀ c, (c < 45 ∨ 52 < c) → t c = s c) ∧ t 45 0 = (SB D g n c : Int) ∧ ∀ c', c' < c → ∀ r, r ≤ tK D g n c' → t 46 (SB D g n c' + r) = ((fC D g n M c' + psC D g n M c' c' r : Nat) : Int) ∧ t 47 (SB D g n c' + r) = ((fC D g n M (c' + 1) + psC D g n M (c' + 1) c' r : Nat) : Int) ∧ t 48 (SB D g n c' + r) = bitsOf (upS D g n c' r) n) (fun v _ => ((M : Int) - v).toNat) ?_ 0 _ ⟨0, rfl, Nat.zero_le _, fun c hc => up_ne _ _ _ (by omega), by rw [up_apply, if_pos ⟨rfl, rfl⟩]; rfl, fun c hc => absurd hc (Nat.not_lt_zero _)⟩
  rintro again _ t ⟨c, rfl, hc, to, t0, ta⟩ ih
  rw [to 38 (by omega), l0]
  refine ⟨fun q => ?_, fun q => ?_⟩
  · have e : c = M := by omega
    subst e
    exact hp t to ⟨t0, ta⟩
  · have hcM : c < M := by omega
    have b1 : ok32 ((c : Int) + 1) := ⟨by omega, by omega⟩
    have b2 : (c : Int) + 1 = ((c + 1 : Nat) : Int) := by omega
    have b4 : w32 ((c : Int) + 2) = ((c + 2 : Nat) : Int) := by rw [w32_id (show ok32 ((c : Int) + 2) from ⟨by omega, by omega⟩)]; omega
    have b3 : w32 ((c : Int) + 1) = ((c + 1 : Nat) : Int) := by rw [w32_id b1, b2]
    obtain ⟨tn, tat⟩ := fr t to
    have tx := lx c hcM
    rw [b3, b4]
    clear b3 b4
    simp only [Int.toNat_natCast]
    rw [to 39 (by omega), to 40 (by omega), tx.1, tx.2]
    refine ⟨by omega, by omega, s_X8_findSteps hS hcM tn tat fun u uo uo2 u4 ur => ⟨by omega, ?_⟩⟩
    have uR : StpR u D g n c := ⟨u4, ur⟩
    have uo3 : ∀ c, (c < 45 ∨ 52 < c) → u c = s c := fun c hc => by rw [uo c (by omega) (by omega) (by omega) (by omega) (by omega), to c hc]
    have u46 : u 46 = t 46 ∧ u 47 = t 47 ∧ u 48 = t 48 := ⟨uo 46 (by omega) (by omega) (by omega) (by omega) (by omega), uo 47 (by omega) (by omega) (by omega) (by omega) (by omega), uo 48 (by omega) (by omega) (by omega) (by omega) (by omega)⟩
    have u0 : u 45 0 = (SB D g n c : Int) := by rw [uo2 0 (by omega)]; exact t0
    rw [uo3 41 (by omega), lf c (by omega), lf (c + 1) (by omega)]
    rintro _ rfl
    refine ⟨by omega, ?_⟩
    rintro _ rfl
    refine lr_3s (fun a b v w => ∃ r : Nat, v = (r : Int) ∧ r ≤ tK D g n c + 1 ∧ (∃ q0, a = ((fC D g n M c + q0 : Nat) : Int) ∧ q0 ≤ psC D g n M c c r) ∧ (∃ q0, b = ((fC D g n M (c + 1) + q0 : Nat) : Int) ∧ q0 ≤ psC D g n M (c + 1) c r) ∧ (∀ c, c ≠ 45 → c ≠ 46 → c ≠ 47 → c ≠ 48 → w c = u c) ∧ (∀ o, o ≠ 0 → w 45 o = u 45 o) ∧ w 45 0 = ((SB D g n c + r : Nat) : Int) ∧ (∀ j, j < SB D g n c → w 46 j = u 46 j ∧ w 47 j = u 47 j ∧ w 48 j = u 48 j) ∧ ∀ r', r' < r → w 46 (SB D g n c + r') = ((fC D g n M c + psC D g n M c c r' : Nat) : Int) ∧ w 47 (SB D g n c + r') = ((fC D g n M (c + 1) + psC D g n M (c + 1) c r' : Nat) : Int) ∧ w 48 (SB D g n c + r') = bitsOf (upS D g n c r') n) (fun _ _ v _ => ((tK D g n c : Int) + 1 - v).toNat) ?_ _ _ 0 u ⟨0, rfl, Nat.zero_le _, ⟨0, rfl, Nat.zero_le _⟩, ⟨0, rfl, Nat.zero_le _⟩, fun _ _ _ _ _ => rfl, fun _ _ => rfl, u0, fun _ _ => ⟨rfl, rfl, rfl⟩, fun r' hr' => absurd hr' (Nat.not_lt_zero _)⟩
    rintro again2 _ _ _ w ⟨r, rfl, hr, ⟨qa, rfl, hqa⟩, ⟨qb, rfl, hqb⟩, wo, wo2, w0, wlo, wr⟩ ih2
    have hk20 := tK_20 (D := D) (g := g) (c := c) (show n ≤ 10 by omega)
    have sbm := SB_mono (D := D) (g := g) (n := n) (show c + 1 ≤ M by omega)
    rw [SB_s] at sbm
    rw [wo2 4 (by omega), u4]
    refine ⟨fun z v ev => ?_, fun z => ⟨by omega, ?_⟩⟩
    · have e : r = tK D g n c + 1 := by omega
      subst e
      rw [ev]
      clear ev
      refine ih _ _ ⟨c + 1, rfl, by omega, fun c' hc' => by rw [wo c' (by omega) (by omega) (by omega) (by omega), uo3 c' hc'], by rw [w0, SB_s], fun c' hc' r' hr' => ?_⟩ (by omega)
      by_cases e : c' = c
      · subst e
        exact wr r' (by omega)
      · have lt : SB D g n c' + r' < SB D g n c := by
          have := SB_mono (D := D) (g := g) (n := n) (show c' + 1 ≤ c by omega)
          rw [SB_s] at this
          omega
        obtain ⟨x1, x2, x3⟩ := wlo _ lt
        rw [x1, x2, x3, u46.1, u46.2.1, u46.2.2]
        exact ta c' (by omega) r' hr'
    · have wo3 : ∀ c, (c < 45 ∨ 52 < c) → w c = s c := fun c hc => by rw [wo c (by omega) (by omega) (by omega) (by omega), uo3 c hc]
      have wR : StpR w D g n c := by
        refine ⟨by rw [wo2 4 (by omega)]; exact u4, fun i hi hrc => ?_⟩
        rw [wo 51 (by omega) (by omega) (by omega) (by omega), wo 52 (by omega) (by omega) (by omega) (by omega)]
        exact ur i hi hrc
      obtain ⟨wn, wat⟩ := fr w wo3
      have w41a : w 41 (c + 1) = ((fC D g n M c + nC D g n M c : Nat) : Int) := by rw [wo3 41 (by omega), lf (c + 1) (by omega), fC_s]
      have w41b : w 41 (c + 2) = ((fC D g n M (c + 1) + nC D g n M (c + 1) : Nat) : Int) := by rw [wo3 41 (by omega), lf (c + 2) (by omega), fC_s]
      refine s_X8_cellAt (s := c) (c := c) (q0 := qa) hS (by omega) (Or.inl rfl) (fun q hq => by rw [wo3 44 (by omega)]; exact (lc c (by omega) q hq).2.2) wR (by omega) hqa rfl w41a ⟨by omega, ?_⟩
      refine s_X8_cellAt (s := c + 1) (c := c) (q0 := qb) hS (by omega) (Or.inr rfl) (fun q hq => by rw [wo3 44 (by omega)]; exact (lc (c + 1) (by omega) q hq).2.2) wR (by omega) hqb rfl w41b ⟨by omega, by omega, ?_⟩
      rw [wo3 39 (by omega), wo3 40 (by omega), tx.1, tx.2]
      refine s_X8_uprightsAt hS hcM wn wat wR ?_
      refine s_X8_add (S := SB D g n c + r) w0 (by omega) fun y yo yo2 y0 y46 y47 y48 v ev => ?_
      rw [ev, w32_id (show ok32 ((r : Int) + 1) from ⟨by omega, by omega⟩), show (r : Int) + 1 = ((r + 1 : Nat) : Int) by omega]
      clear ev
      refine ih2 _ _ _ _ ⟨r + 1, rfl, by omega, ⟨_, rfl, ps_mono (by omega)⟩, ⟨_, rfl, ps_mono (by omega)⟩, fun c' k1 k2 k3 k4 => by rw [yo c' k1 k2 k3 k4, wo c' k1 k2 k3 k4], fun o k1 => by rw [yo2 o k1, wo2 o k1], by rw [y0]; rfl, fun j hj => ?_, fun r' hr' => ?_⟩ (by omega)
      · rw [y46, y47, y48, if_neg (by omega), if_neg (by omega), if_neg (by omega)]
        exact wlo j hj
      · rw [y46, y47, y48]
        by_cases e : r' = r
        · subst e
          rw [if_pos rfl, if_pos rfl, if_pos rfl]
          exact ⟨rfl, rfl, rfl⟩
        · rw [if_neg (by omega), if_neg (by omega), if_neg (by omega)]
          exact wr r' (by omega)
