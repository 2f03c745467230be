/-! the class: cells joined to faces -/
noncomputable def pB (P : Prop) : Bool := by
  classical exact decide P
theorem pB_iff {P : Prop} : pB P = true ↔ P := by
  classical
  unfold pB
  exact decide_eq_true_iff
theorem pB_congr {P Q : Prop} (h : P ↔ Q) : pB P = pB Q := bool_ext (by rw [pB_iff, pB_iff, h])
theorem pB_or (P Q : Prop) : (pB P || pB Q) = pB (P ∨ Q) := bool_ext (by rw [Bool.or_eq_true, pB_iff, pB_iff, pB_iff])
theorem pB_eq {i k : Nat} : (i == k) = pB (i = k) := bool_ext (by rw [pB_iff, beq_iff_eq])
theorem pB_F {P : Prop} (h : ¬ P) : pB P = false := by
  cases e : pB P
  · rfl
  · exact absurd (pB_iff.mp e) h
def lkN (a b F G : Nat) : Prop := F ≠ G ∧ ((a = F ∧ b = G) ∨ (a = G ∧ b = F))
theorem s_X0_link {s : Sg} {K a b : Nat} {R : Nat → Nat → Prop} {post : Sg → Prop} (hK : K ≤ 60) (hR : ∀ F, F < K → s 59 F = bts (fun G => pB (R F G)) K) (ha : a < K) (hb : b < K)
    (hp : ∀ t, (∀ c, c ≠ 59 → t c = s c) → (∀ F, F < K → t 59 F = bts (fun G => pB (R F G ∨ lkN a b F G)) K) → post t) : w_X0_link s (a : Int) (b : Int) post := by
  unfold w_X0_link jn
  rw [Int.toNat_natCast, Int.toNat_natCast, hR a ha, lor_bit _ hK hb]
  refine ⟨fun z => ?_, fun z => ⟨by omega, by omega, fun t et => ⟨by omega, by omega, fun u eu => ?_⟩⟩⟩
  · refine hp s (fun _ _ => rfl) fun F hF => ?_
    rw [hR F hF]
    refine bts_congr fun G hG => pB_congr ⟨Or.inl, fun w => w.resolve_right ?_⟩
    unfold lkN
    omega
  · have hab : a ≠ b := by omega
    have tb : t 59 b = bts (fun G => pB (R b G)) K := by
      rw [et, up_apply, if_neg (fun w => hab w.2.symm)]
      exact hR b hb
    rw [tb, lor_bit _ hK ha] at eu
    refine hp u (fun c hc => by rw [eu, up_ne _ _ _ hc, et, up_ne _ _ _ hc]) fun F hF => ?_
    rw [eu, up_apply]
    by_cases e1 : F = b
    · rw [if_pos ⟨rfl, e1⟩]
      refine bts_congr fun G hG => ?_
      rw [pB_eq, pB_or]
      refine pB_congr (or_congr (by rw [e1]) ?_)
      unfold lkN
      omega
    · rw [if_neg (fun w => e1 w.2), et, up_apply]
      by_cases e2 : F = a
      · rw [if_pos ⟨rfl, e2⟩]
        refine bts_congr fun G hG => ?_
        rw [pB_eq, pB_or]
        refine pB_congr (or_congr (by rw [e2]) ?_)
        unfold lkN
        omega
      · rw [if_neg (fun w => e2 w.2), hR F hF]
        refine bts_congr fun G hG => pB_congr ⟨Or.inl, fun w => w.resolve_right ?_⟩
        unfold lkN
        omega
/-- stretches by their numbers -/
theorem str_form {D : Nat → Nat → Int} {g : Nat → Int × Int} {n : Nat} : ∀ C i, i < SB D g n C → ∃ c r, c < C ∧ r ≤ tK D g n c ∧ i = SB D g n c + r := by
  intro C
  induction C with
  | zero => intro j hj; exact absurd hj (Nat.not_lt_zero _)
  | succ C ih =>
    intro j hj
    by_cases c : j < SB D g n C
    · obtain ⟨s, q, h1, h2, h3⟩ := ih j c
      exact ⟨s, q, by omega, h2, h3⟩
    · rw [SB_s] at hj
      exact ⟨C, j - SB D g n C, by omega, by omega, by omega⟩
theorem str_one {D : Nat → Nat → Int} {g : Nat → Int × Int} {n c c' r r' : Nat} (h1 : r ≤ tK D g n c) (h2 : r' ≤ tK D g n c') (e : SB D g n c + r = SB D g n c' + r') : c = c' ∧ r = r' := by
  rcases Nat.lt_trichotomy c c' with z | z | z
  · have := SB_mono (D := D) (g := g) (n := n) (show c + 1 ≤ c' by omega)
    rw [SB_s] at this
    omega
  · subst z; omega
  · have := SB_mono (D := D) (g := g) (n := n) (show c' + 1 ≤ c by omega)
    rw [SB_s] at this
    omega
noncomputable def lfC (D : Nat → Nat → Int) (g : Nat → Int × Int) (n M c r : Nat) : Nat := fC D g n M c + psC D g n M c c r
noncomputable def rgC (D : Nat → Nat → Int) (g : Nat → Int × Int) (n M c r : Nat) : Nat := fC D g n M (c + 1) + psC D g n M (c + 1) c r
theorem lr_lt {D : Nat → Nat → Int} {g : Nat → Int × Int} {n M c : Nat} (h : LsD D (n : Int)) (hc : c < M) (r : Nat) : lfC D g n M c r < fC D g n M (M + 1) ∧ rgC D g n M c r < fC D g n M (M + 1) := by
  have n1 := nC_le (g := g) (M := M) (s := c) h
  have n2 := nC_le (g := g) (M := M) (s := c + 1) h
  have p1 := ps_le D g n M c c r
  have p2 := ps_le D g n M (c + 1) c r
  have f1 := fC_s D g n M c
  have f2 : fC D g n M (c + 2) = fC D g n M (c + 1) + nC D g n M (c + 1) := fC_s D g n M (c + 1)
  have fm := fC_mono (D := D) (g := g) (n := n) (M := M) (show c + 2 ≤ M + 1 by omega)
  unfold lfC rgC
  omega
def JnI (D : Nat → Nat → Int) (g : Nat → Int × Int) (n M i a b : Nat) : Prop := ∃ c r, c < M ∧ r ≤ tK D g n c ∧ SB D g n c + r < i ∧ ¬ cov D g n c r = true ∧ a = lfC D g n M c r ∧ b = rgC D g n M c r
theorem JnI_s {D : Nat → Nat → Int} {g : Nat → Int × Int} {n M c r : Nat} (hc : c < M) (hr : r ≤ tK D g n c) (a b : Nat) : JnI D g n M (SB D g n c + r + 1) a b ↔ (JnI D g n M (SB D g n c + r) a b ∨ (¬ cov D g n c r = true ∧ a = lfC D g n M c r ∧ b = rgC D g n M c r)) := by
  constructor
  · rintro ⟨c', r', h1, h2, h3, h4, h5⟩
    by_cases e : SB D g n c' + r' = SB D g n c + r
    · obtain ⟨rfl, rfl⟩ := str_one h2 hr e
      exact Or.inr ⟨h4, h5⟩
    · exact Or.inl ⟨c', r', h1, h2, by omega, h4, h5⟩
  · rintro (⟨c', r', h1, h2, h3, h4, h5⟩ | ⟨h4, h5⟩)
    · exact ⟨c', r', h1, h2, by omega, h4, h5⟩
    · exact ⟨c, r, hc, hr, by omega, h4, h5⟩
theorem JnI_all {D : Nat → Nat → Int} {g : Nat → Int × Int} {n M : Nat} (a b : Nat) : JnI D g n M (SB D g n M) a b ↔ JnR D g n M a b := by
  constructor
  · rintro ⟨c, r, h1, h2, -, h4, h5, h6⟩
    exact ⟨c, h1, r, h2, h4, h5, h6⟩
  · rintro ⟨c, h1, r, h2, h4, h5, h6⟩
    refine ⟨c, r, h1, h2, ?_, h4, h5, h6⟩
    have := SB_mono (D := D) (g := g) (n := n) (show c + 1 ≤ M by omega)
    rw [SB_s] at this
    omega
theorem up_0 {D : Nat → Nat → Int} {g : Nat → Int × Int} {n c r : Nat} (hn : n ≤ 30) : bitsOf (upS D g n c r) n = 0 ↔ ¬ cov D g n c r = true := by
  rw [bits_0 _ hn, cov_iff]
  exact ⟨fun h ⟨i, hi, u⟩ => h i hi u, fun h i hi u => h ⟨i, hi, u⟩⟩
theorem s_jroots {s : Sg} {D : Nat → Nat → Int} {n m M : Nat} {f : Nat → Int × Int × Int × Int} {g : Nat → Int × Int} {post : Sg → Prop} (hS : Swp D n m f M g) (hSl : SlAt s D n M g) (hSt : StA s D n M g)
    (hp : ∀ (t : Sg) (p : Nat → Nat), (∀ c, c ≠ 54 → t c = s c) → (∀ i, i < fC D g n M (M + 1) → p i ≤ i) → (∀ i, i < fC D g n M (M + 1) → t 54 i = (p i : Int)) → LabOf (JnR D g n M) (fC D g n M (M + 1)) (rt p) → w_X0_number t (t 38 1) (fun s_7 => w_X0_boundByCells s_7 (fun s_8 => w_X0_boundByUprights s_8 (fun s_9 => post s_9)))) : w_X0_join s post := by
  have h := hS.1
  have hn := h.1
  have hM := hS.2.2.2.2
  have fN := (fC_le (g := g) (M := M) h (M + 1)).2
  have sb := SB_725 hS
  unfold w_X0_join
  refine lr_1s (fun v t => ∃ k : Nat, v = (k : Int) ∧ k ≤ fC D g n M (M + 1) ∧ (∀ c, c ≠ 54 → t c = s c) ∧ ∀ j, j < k → t 54 j = (j : Int)) (fun v _ => ((fC D g n M (M + 1) : Int) - v).toNat) ?_ 0 s ⟨0, rfl, Nat.zero_le _, fun _ _ => rfl, fun j hj => absurd hj (Nat.not_lt_zero _)⟩
  rintro again _ t ⟨k, rfl, hk, to, t54⟩ ih
  rw [to 38 (by omega), hSl.2.1]
  refine ⟨fun q => ?_, fun q => ⟨by omega, fun a ea v ev => ?_⟩⟩
  · have e : k = fC D g n M (M + 1) := by omega
    subst e
    clear ih
    refine lr_1s (fun v u => ∃ (i : Nat) (p : Nat → Nat), v = (i : Int) ∧ i ≤ SB D g n M ∧ (∀ c, c ≠ 54 → u c = s c) ∧ (∀ j, j < fC D g n M (M + 1) → p j ≤ j) ∧ (∀ j, j < fC D g n M (M + 1) → u 54 j = (p j : Int)) ∧ LabOf (JnI D g n M i) (fC D g n M (M + 1)) (rt p)) (fun v _ => ((SB D g n M : Int) - v).toNat) ?_ 0 t ⟨0, fun j => j, rfl, Nat.zero_le _, to, fun j _ => Nat.le_refl _, t54, Lab_id (fun a b _ _ z => by
      obtain ⟨c, r, h1, h2, h3, -⟩ := z
      omega) (fun j hj => rt_fix (m := fC D g n M (M + 1)) (fun j _ => Nat.le_refl _) hj rfl)⟩
    rintro again2 _ u ⟨i, p, rfl, hi, uo, hpl, ua, ul⟩ ih2
    rw [uo 45 (by omega), hSt.1]
    refine ⟨fun q2 => ?_, fun q2 => ⟨by omega, ?_⟩⟩
    · have e : i = SB D g n M := by omega
      subst e
      exact hp u p uo hpl ua (Lab_congr ul (fun a b _ _ => JnI_all a b) (fun _ _ => rfl))
    · obtain ⟨c, r, hc, hr, rfl⟩ := str_form (D := D) (g := g) (n := n) M i (by omega)
      obtain ⟨s46, s47, s48⟩ := hSt.2 c hc r hr
      obtain ⟨ll, lr⟩ := lr_lt (g := g) h hc r
      have b1 : ok32 (((SB D g n c + r : Nat) : Int) + 1) := ⟨by omega, by omega⟩
      have b2 : ((SB D g n c + r : Nat) : Int) + 1 = ((SB D g n c + r + 1 : Nat) : Int) := by omega
      unfold jn
      rw [Int.toNat_natCast, uo 46 (by omega), uo 47 (by omega), uo 48 (by omega), s46, s47, s48, up_0 (by omega)]
      refine ⟨fun z v ev => ?_, fun z => ⟨by omega, by omega, ?_⟩⟩
      · rw [ev, w32_id b1, b2]
        clear ev
        refine ih2 _ _ ⟨SB D g n c + r + 1, p, rfl, by omega, uo, hpl, ua, Lab_congr ul (fun a b _ _ => ?_) (fun _ _ => rfl)⟩ (by omega)
        rw [JnI_s hc hr]
        exact ⟨Or.inl, fun w => w.resolve_right fun w2 => z w2.1⟩
      · refine s_X0_unite (by omega) hpl ua ll lr fun w wo wa v ev => ?_
        rw [ev, w32_id b1, b2]
        clear ev
        refine ih2 _ _ ⟨SB D g n c + r + 1, unP p (lfC D g n M c r) (rgC D g n M c r), rfl, by omega, fun c' h1 => by rw [wo c' h1, uo c' h1], unP_le hpl, wa, Lab_congr (Lab_mrg ul ll lr) (fun a b _ _ => ?_) (fun j hj => unP_rt hpl ll lr j hj)⟩ (by omega)
        rw [JnI_s hc hr]
        exact ⟨fun w => w.imp id fun w2 => ⟨z, w2⟩, fun w => w.imp id fun w2 => w2.2⟩
  · have b1 : ok32 ((k : Int) + 1) := ⟨by omega, by omega⟩
    have b2 : (k : Int) + 1 = ((k + 1 : Nat) : Int) := by omega
    rw [ev, w32_id b1, b2, ea]
    clear ev ea
    refine ih _ _ ⟨k + 1, rfl, by omega, fun c hc => by rw [up_ne _ _ _ hc, to c hc], fun j hj => ?_⟩ (by omega)
    rw [up_apply, Int.toNat_natCast]
    by_cases e : j = k
    · rw [if_pos ⟨rfl, e⟩, e]
    · rw [if_neg (fun z => e z.2)]
      exact t54 j (by omega)
/-- numbers of faces -/
theorem s_X0_number {s : Sg} {R : Nat → Nat → Prop} {N : Nat} {p : Nat → Nat} {post : Sg → Prop} (hN : N ≤ 726) (hpl : ∀ i, i < N → p i ≤ i) (ha : ∀ i, i < N → s 54 i = (p i : Int)) (hl : LabOf R N (rt p)) (hK : cntN (rootB (rt p)) N ≤ 60)
    (hp : ∀ t, (∀ c, (c < 53 ∨ c = 54 ∨ 59 < c) → t c = s c) → t 53 0 = (cntN (rootB (rt p)) N : Int) → (∀ j, j < N → t 55 j = (fno (rt p) j : Int)) → (∀ i, i < N → rootB (rt p) i = true → t 56 (cntN (rootB (rt p)) i) = (i : Int)) → (∀ F, F < cntN (rootB (rt p)) N → t 57 F = (cntN (fun j => fno (rt p) j == F) N : Int) ∧ t 58 F = 0 ∧ t 59 F = 0) → post t) : w_X0_number s (N : Int) post := by
  unfold w_X0_number
  rintro _ rfl
  obtain ⟨lab, el⟩ : ∃ lab, lab = rt p := ⟨_, rfl⟩
  rw [← el] at hl hK hp
  refine lr_1s (fun v t => ∃ k : Nat, v = (k : Int) ∧ k ≤ N ∧ (∀ c, (c < 53 ∨ c = 54 ∨ 59 < c) → t c = s c) ∧ t 53 0 = (cntN (rootB lab) k : Int) ∧ (∀ j, j < k → t 55 j = (fno lab j : Int)) ∧ (∀ i, i < k → rootB lab i = true → t 56 (cntN (rootB lab) i) = (i : Int)) ∧ ∀ F, F < cntN (rootB lab) k → t 57 F = (cntN (fun j => fno lab j == F) k : Int) ∧ t 58 F = 0 ∧ t 59 F = 0) (fun v _ => ((N : Int) - v).toNat) ?_ 0 _ ⟨0, rfl, Nat.zero_le _, fun c hc => up_ne _ _ _ (by omega), by rw [up_apply, if_pos ⟨rfl, rfl⟩]; rfl, fun j hj => absurd hj (Nat.not_lt_zero _), fun j hj => absurd hj (Nat.not_lt_zero _), fun j hj => absurd hj (Nat.not_lt_zero _)⟩
  rintro again _ t ⟨k, rfl, hk, to, t53, t55, t56, tF⟩ ih
  refine ⟨fun q => ?_, fun q => ?_⟩
  · have e : k = N := by omega
    subst e
    exact hp t to t53 t55 t56 tF
  · have hk2 : k < N := by omega
    have b1 : ok32 ((k : Int) + 1) := ⟨by omega, by omega⟩
    have b2 : (k : Int) + 1 = ((k + 1 : Nat) : Int) := by omega
    have lk := hl.1 k hk2
    have cl := cnt_le2 (p := rootB lab) (show k ≤ N by omega)
    have cs : cntN (rootB lab) (k + 1) = cntN (rootB lab) k + ind (rootB lab k) := by
      rw [cntN_s]; unfold ind; split <;> omega
    refine s_X0_rootOf hN hpl (fun i hi => by rw [to 54 (by omega)]; exact ha i hi) hk2 ?_
    rw [← el]
    have fl := fno_lt hl hk2
    -- the rest: one more cell of a face
    have fin : ∀ x : Sg, (∀ c, (c < 53 ∨ c = 54 ∨ 59 < c) → x c = s c) → x 53 0 = (cntN (rootB lab) (k + 1) : Int) → (∀ j, j < k + 1 → x 55 j = (fno lab j : Int)) → (∀ i, i < k + 1 → rootB lab i = true → x 56 (cntN (rootB lab) i) = (i : Int)) → (∀ F, F < cntN (rootB lab) (k + 1) → x 57 F = (cntN (fun j => fno lab j == F) k : Int) ∧ x 58 F = 0 ∧ x 59 F = 0) → fno lab k < cntN (rootB lab) (k + 1) → (0 ≤ (k : Int) ∧ (k : Int) < 726) ∧ ((0 ≤ x 55 k ∧ x 55 k < 64) ∧ ((0 ≤ x 55 k ∧ x 55 k < 64) ∧ (∀ s_11, s_11 = up x 57 ((x 55 k).toNat) (w32 ((x 57 (x 55 k).toNat) + 1)) → (∀ v2_12, v2_12 = w32 ((k : Int) + 1) → (again v2_12 s_11))))) := by
      intro x xo x53 x55 x56 xF lt
      rw [x55 k (by omega), Int.toNat_natCast, (xF _ lt).1]
      refine ⟨by omega, by omega, by omega, fun y ey v ev => ?_⟩
      rw [ev, w32_id b1, b2, ey]
      clear ev ey
      have cc := cntN_le (fun j => fno lab j == fno lab k) k
      refine ih _ _ ⟨k + 1, rfl, by omega, fun c hc => by rw [up_ne _ _ _ (by omega), xo c hc], by rw [up_ne _ _ _ (by omega)]; exact x53, fun j hj => by rw [up_ne _ _ _ (by omega)]; exact x55 j hj, fun i hi hr => by rw [up_ne _ _ _ (by omega)]; exact x56 i hi hr, fun F hF => ⟨?_, by rw [up_ne _ _ _ (by omega)]; exact (xF F hF).2.1, by rw [up_ne _ _ _ (by omega)]; exact (xF F hF).2.2⟩⟩ (by omega)
      rw [up_apply, cntN_s]
      by_cases e : F = fno lab k
      · subst e
        rw [if_pos ⟨rfl, rfl⟩, if_pos (by simp), w32_id ⟨by omega, by omega⟩]
        omega
      · rw [if_neg (fun z => e z.2), if_neg (by rw [beq_iff_eq]; exact fun z => e z.symm)]
        exact (xF F hF).1
    unfold jn
    rw [Int.toNat_natCast]
    refine ⟨fun z => ⟨fun y => by omega, fun y => ⟨by omega, fun a ea => ?_⟩⟩, fun z => ⟨by omega, by omega, fun a ea => ?_⟩⟩
    · have hr : rootB lab k = true := by unfold rootB; rw [beq_iff_eq]; omega
      have ef : fno lab k = cntN (rootB lab) k := by unfold fno; rw [show lab k = k by omega]
      rw [t53] at ea
      have a53 : a 53 0 = (cntN (rootB lab) k : Int) := by rw [ea, up_ne _ _ _ (by omega)]; exact t53
      have ao : ∀ c, c ≠ 55 → a c = t c := fun c hc => by rw [ea, up_ne _ _ _ hc]
      have a55 : ∀ j, j < k + 1 → a 55 j = (fno lab j : Int) := by
        intro j hj
        rw [ea, up_apply]
        by_cases e : j = k
        · rw [if_pos ⟨rfl, e⟩, e, ef]
        · rw [if_neg (fun y => e y.2)]
          exact t55 j (by omega)
      clear ea
      rw [a53, Int.toNat_natCast]
      refine ⟨by omega, fun b eb => ?_⟩
      have bo : ∀ c, c ≠ 56 → b c = a c := fun c hc => by rw [eb, up_ne _ _ _ hc]
      have b53 : b 53 0 = (cntN (rootB lab) k : Int) := by rw [bo 53 (by omega)]; exact a53
      have b56 : ∀ i, i < k + 1 → rootB lab i = true → b 56 (cntN (rootB lab) i) = (i : Int) := by
        intro i hi hri
        rw [eb, up_apply]
        by_cases e : i = k
        · subst e; rw [if_pos ⟨rfl, rfl⟩]
        · have := cnt_lt (show i < k by omega) hri
          rw [if_neg (by omega), ao 56 (by omega)]
          exact t56 i (by omega) hri
      clear eb
      rw [b53, Int.toNat_natCast]
      refine ⟨by omega, fun d ed => ?_⟩
      have dO : ∀ c, c ≠ 57 → d c = b c := fun c hc => by rw [ed, up_ne _ _ _ hc]
      have d53 : d 53 0 = (cntN (rootB lab) k : Int) := by rw [dO 53 (by omega)]; exact b53
      have d57 : ∀ F, d 57 F = if F = cntN (rootB lab) k then 0 else t 57 F := by
        intro F
        rw [ed, up_apply]
        by_cases e : F = cntN (rootB lab) k
        · rw [if_pos ⟨rfl, e⟩, if_pos e]
        · rw [if_neg (fun y => e y.2), if_neg e, bo 57 (by omega), ao 57 (by omega)]
      clear ed
      rw [d53, Int.toNat_natCast]
      refine ⟨by omega, fun x ex => ?_⟩
      have xo : ∀ c, c ≠ 58 → x c = d c := fun c hc => by rw [ex, up_ne _ _ _ hc]
      have x53 : x 53 0 = (cntN (rootB lab) k : Int) := by rw [xo 53 (by omega)]; exact d53
      have x58 : ∀ F, x 58 F = if F = cntN (rootB lab) k then 0 else t 58 F := by
        intro F
        rw [ex, up_apply]
        by_cases e : F = cntN (rootB lab) k
        · rw [if_pos ⟨rfl, e⟩, if_pos e]
        · rw [if_neg (fun y => e y.2), if_neg e, dO 58 (by omega), bo 58 (by omega), ao 58 (by omega)]
      clear ex
      rw [x53, Int.toNat_natCast]
      refine ⟨by omega, fun y ey => ?_⟩
      have yo : ∀ c, c ≠ 59 → y c = x c := fun c hc => by rw [ey, up_ne _ _ _ hc]
      have y53 : y 53 0 = (cntN (rootB lab) k : Int) := by rw [yo 53 (by omega)]; exact x53
      have y59 : ∀ F, y 59 F = if F = cntN (rootB lab) k then 0 else t 59 F := by
        intro F
        rw [ey, up_apply]
        by_cases e : F = cntN (rootB lab) k
        · rw [if_pos ⟨rfl, e⟩, if_pos e]
        · rw [if_neg (fun y => e y.2), if_neg e, xo 59 (by omega), dO 59 (by omega), bo 59 (by omega), ao 59 (by omega)]
      clear ey
      rw [y53, w32_id (show ok32 ((cntN (rootB lab) k : Int) + 1) from ⟨by omega, by omega⟩)]
      intro w ew
      have wo : ∀ c, c ≠ 53 → w c = y c := fun c hc => by rw [ew, up_ne _ _ _ hc]
      have w53 : w 53 0 = (cntN (rootB lab) (k + 1) : Int) := by
        rw [ew, up_apply, if_pos ⟨rfl, rfl⟩, cs, ind_t hr]; omega
      clear ew
      refine fin w (fun c hc => by rw [wo c (by omega), yo c (by omega), xo c (by omega), dO c (by omega), bo c (by omega), ao c (by omega), to c hc]) w53 (fun j hj => by rw [wo 55 (by omega), yo 55 (by omega), xo 55 (by omega), dO 55 (by omega), bo 55 (by omega)]; exact a55 j hj) (fun i hi hri => by rw [wo 56 (by omega), yo 56 (by omega), xo 56 (by omega), dO 56 (by omega)]; exact b56 i hi hri) (fun F hF => ?_) (by rw [ef, cs, ind_t hr]; omega)
      rw [wo 57 (by omega), wo 58 (by omega), wo 59 (by omega), yo 57 (by omega), yo 58 (by omega), xo 57 (by omega), d57, x58, y59]
      by_cases e : F = cntN (rootB lab) k
      · rw [if_pos e, if_pos e, if_pos e]
        refine ⟨?_, rfl, rfl⟩
        rw [cnt_none fun j hj z => ?_]
        · rfl
        · rw [beq_iff_eq] at z
          have := fno_lt hl (show j < N by omega)
          have m1 : cntN (rootB lab) (lab j) ≤ cntN (rootB lab) k := cnt_le2 (by have := hl.1 j (by omega); omega)
          have lj := hl.1 j (by omega)
          have rj : rootB lab (lab j) = true := by unfold rootB; rw [beq_iff_eq]; exact Lab_root hl (by omega)
          have m2 := cnt_lt (show lab j < k by omega) rj
          unfold fno at z
          omega
      · rw [if_neg e, if_neg e, if_neg e]
        exact tF F (by rw [cs, ind_t hr] at hF; omega)
    · have hr : ¬ rootB lab k = true := by unfold rootB; rw [beq_iff_eq]; omega
      have er := Lab_root hl hk2
      have el2 := t55 (lab k) (by omega)
      have ef : fno lab (lab k) = fno lab k := by unfold fno; rw [er]
      have lj : rootB lab (lab k) = true := by unfold rootB; rw [beq_iff_eq]; exact er
      have m2 := cnt_lt (show lab k < k by omega) lj
      refine fin a (fun c hc => by rw [ea, up_ne _ _ _ (by omega), to c hc]) (by rw [ea, up_ne _ _ _ (by omega), cs, ind_f hr]; exact t53) (fun j hj => ?_) (fun i hi hri => ?_) (fun F hF => ?_) (by rw [cs]; unfold fno; omega)
      · rw [ea, up_apply]
        by_cases e : j = k
        · rw [if_pos ⟨rfl, e⟩, e, Int.toNat_natCast, el2, ef]
        · rw [if_neg (fun y => e y.2)]
          exact t55 j (by omega)
      · rw [ea, up_ne _ _ _ (by omega)]
        by_cases e : i = k
        · subst e; exact absurd hri hr
        · exact t56 i (by omega) hri
      · rw [ea, up_ne _ _ _ (by omega), up_ne _ _ _ (by omega), up_ne _ _ _ (by omega)]
        exact tF F (by rw [cs, ind_f hr] at hF; exact hF)
