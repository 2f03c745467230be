/-! the reference: cells joined to faces, numbered -/
def rootB (lab : Nat → Nat) (i : Nat) : Bool := lab i == i
theorem cnt_le2 {p : Nat → Bool} {i n : Nat} (h : i ≤ n) : cntN p i ≤ cntN p n := by
  have : ∀ d, cntN p i ≤ cntN p (i + d) := by
    intro d
    induction d with
    | zero => exact Nat.le_refl _
    | succ d ihd => rw [show i + (d + 1) = (i + d) + 1 by omega, cntN_s p (i + d)]; split <;> omega
  have h2 := this (n - i)
  rwa [show i + (n - i) = n by omega] at h2
theorem cnt_lt {p : Nat → Bool} {n i : Nat} (hi : i < n) (hp : p i = true) : cntN p i < cntN p n := by
  have h := cnt_le2 (p := p) (show i + 1 ≤ n by omega)
  rw [cntN_s, if_pos hp] at h
  omega
def fno (lab : Nat → Nat) (j : Nat) : Nat := cntN (rootB lab) (lab j)
def Opn (D : Nat → Nat → Int) (g : Nat → Int × Int) (n M c xa xb : Nat) : Prop := ∃ r, InR D g n M c xa xb r ∧ ¬ cov D g n c r = true
def JnTo (D : Nat → Nat → Int) (g : Nat → Int × Int) (n M k qa qb a b : Nat) : Prop := ∃ c xa xb, c < M ∧ xa < nC D g n M c ∧ xb < nC D g n M (c + 1) ∧ (c < k ∨ (c = k ∧ (xa < qa ∨ (xa = qa ∧ xb < qb)))) ∧ Opn D g n M c xa xb ∧ a = fC D g n M c + xa ∧ b = fC D g n M (c + 1) + xb
theorem Jn_all {D : Nat → Nat → Int} {n m M : Nat} {f : Nat → Int × Int × Int × Int} {g : Nat → Int × Int} (hS : Swp D n m f M g) (a b : Nat) : JnTo D g n M M 0 0 a b ↔ JnR D g n M a b := by
  constructor
  · rintro ⟨c, xa, xb, hc, ha, hb, -, ⟨r, ⟨r1, r2, r3⟩, hv⟩, ea, eb⟩
    exact ⟨c, hc, r, r1, hv, by rw [r2]; exact ea, by rw [r3]; exact eb⟩
  · rintro ⟨c, hc, r, hr, hv, ea, eb⟩
    have l1 := ps_le D g n M c c r
    have l2 := ps_le D g n M (c + 1) c r
    have n1 := nC_le (g := g) (M := M) (s := c) hS.1
    have n2 := nC_le (g := g) (M := M) (s := c + 1) hS.1
    exact ⟨c, psC D g n M c c r, psC D g n M (c + 1) c r, hc, by omega, by omega, Or.inl hc, ⟨r, ⟨hr, rfl, rfl⟩, hv⟩, ea, eb⟩
theorem Jn_s {D : Nat → Nat → Int} {n m M : Nat} {f : Nat → Int × Int × Int × Int} {g : Nat → Int × Int} (hS : Swp D n m f M g) {k qa qb : Nat} (hk : k < M) (ha : qa < nC D g n M k) (hb : qb < nC D g n M (k + 1)) (a b : Nat) : JnTo D g n M k qa (qb + 1) a b ↔ (JnTo D g n M k qa qb a b ∨ (Opn D g n M k qa qb ∧ a = fC D g n M k + qa ∧ b = fC D g n M (k + 1) + qb)) := by
  constructor
  · rintro ⟨c, xa, xb, hc, h1, h2, h3, h4, e1, e2⟩
    by_cases z : c = k ∧ xa = qa ∧ xb = qb
    · obtain ⟨rfl, rfl, rfl⟩ := z
      exact Or.inr ⟨h4, e1, e2⟩
    · exact Or.inl ⟨c, xa, xb, hc, h1, h2, by omega, h4, e1, e2⟩
  · rintro (⟨c, xa, xb, hc, h1, h2, h3, h4, e1, e2⟩ | ⟨h4, e1, e2⟩)
    · exact ⟨c, xa, xb, hc, h1, h2, by omega, h4, e1, e2⟩
    · exact ⟨k, qa, qb, hk, ha, hb, by omega, h4, e1, e2⟩
theorem Jn_row {D : Nat → Nat → Int} {g : Nat → Int × Int} {n M k qa : Nat} (a b : Nat) : JnTo D g n M k qa (nC D g n M (k + 1)) a b ↔ JnTo D g n M k (qa + 1) 0 a b := by
  constructor
  · rintro ⟨c, xa, xb, hc, h1, h2, h3, h4, e1, e2⟩
    exact ⟨c, xa, xb, hc, h1, h2, by omega, h4, e1, e2⟩
  · rintro ⟨c, xa, xb, hc, h1, h2, h3, h4, e1, e2⟩
    refine ⟨c, xa, xb, hc, h1, h2, ?_, h4, e1, e2⟩
    by_cases z : c = k
    · subst z; omega
    · omega
theorem Jn_col {D : Nat → Nat → Int} {g : Nat → Int × Int} {n M k : Nat} (a b : Nat) : JnTo D g n M k (nC D g n M k) 0 a b ↔ JnTo D g n M (k + 1) 0 0 a b := by
  constructor
  · rintro ⟨c, xa, xb, hc, h1, h2, h3, h4, e1, e2⟩
    exact ⟨c, xa, xb, hc, h1, h2, by omega, h4, e1, e2⟩
  · rintro ⟨c, xa, xb, hc, h1, h2, h3, h4, e1, e2⟩
    refine ⟨c, xa, xb, hc, h1, h2, ?_, h4, e1, e2⟩
    by_cases z : c = k
    · subst z; omega
    · omega
/-- the whole sheet of the reference -/
def FrT (s t : Sg) : Prop := (∀ c, c ≠ 68 → (c < 73 ∨ (76 < c ∧ c < 83) ∨ 91 < c) → t c = s c) ∧ ∀ o, (o < 5 ∨ (9 < o ∧ o < 22) ∨ 36 < o) → t 68 o = s 68 o
def RFc (t : Sg) (D : Nat → Nat → Int) (n M : Nat) (g : Nat → Int × Int) (lab : Nat → Nat) : Prop := t 68 24 = (cntN (rootB lab) (fC D g n M (M + 1)) : Int) ∧ (∀ j, j < fC D g n M (M + 1) → t 89 j = (fno lab j : Int)) ∧ ∀ i, i < fC D g n M (M + 1) → rootB lab i = true → t 91 (cntN (rootB lab) i) = (i : Int)
def NrG (s t : Sg) : Prop := (∀ c, c ≠ 68 → c ≠ 89 → t c = s c) ∧ ∀ o, (o < 33 ∨ 36 < o) → t 68 o = s 68 o
theorem NrG_F {s t u : Sg} (h : NrG s t) (h' : NrF t u) : NrG s u := ⟨fun c h1 h2 => (h'.1 c h1).trans (h.1 c h1 h2), fun o ho => (h'.2 o ho).trans (h.2 o ho)⟩
theorem RSl_G {s t : Sg} {D : Nat → Nat → Int} {n m M : Nat} {f : Nat → Int × Int × Int × Int} {g : Nat → Int × Int} (h : RSl s D n m M f g) (hs : NrG s t) : RSl t D n m M f g := by
  obtain ⟨⟨a1, a2, a3, a4⟩, h1, h2, h3, h4, h5⟩ := h
  refine ⟨⟨by rw [hs.2 0 (by omega)]; exact a1, fun i hi => ?_, by rw [hs.2 9 (by omega)]; exact a3, fun j hj => ?_⟩, by rw [hs.2 22 (by omega)]; exact h1, by rw [hs.2 23 (by omega)]; exact h2, fun b hb => by rw [hs.1 83 (by omega) (by omega), hs.1 84 (by omega) (by omega)]; exact h3 b hb, fun b hb => by rw [hs.1 85 (by omega) (by omega)]; exact h4 b hb, fun b hb q hq => by rw [hs.1 86 (by omega) (by omega), hs.1 87 (by omega) (by omega), hs.1 88 (by omega) (by omega)]; exact h5 b hb q hq⟩
  · rw [hs.1 69 (by omega) (by omega), hs.1 (69 + 1) (by omega) (by omega), hs.1 (69 + 2) (by omega) (by omega), hs.1 (69 + 3) (by omega) (by omega)]
    exact a2 i hi
  · rw [hs.1 73 (by omega) (by omega), hs.1 74 (by omega) (by omega), hs.1 75 (by omega) (by omega), hs.1 76 (by omega) (by omega)]
    exact a4 j hj
/-- numbers of faces -/
theorem s_rnumber {s : Sg} {D : Nat → Nat → Int} {n m M : Nat} {f : Nat → Int × Int × Int × Int} {g : Nat → Int × Int} {lab : Nat → Nat} {post : Sg → Prop} (hS : Swp D n m f M g) (hR : RSl s D n m M f g) (hl : LabOf (JnR D g n M) (fC D g n M (M + 1)) lab) (ha : ∀ j, j < fC D g n M (M + 1) → s 89 j = (lab j : Int))
    (hp : ∀ t, (∀ c, c ≠ 68 → c ≠ 89 → c ≠ 91 → t c = s c) → (∀ o, o ≠ 24 → t 68 o = s 68 o) → RFc t D n M g lab → post t) :
    ∀ s_7, s_7 = up s 68 24 0 → (lp_1s (fun (again_10 : Int → Sg → Prop) (v1_8 : Int) (s_9 : Sg) => (s_9 68 23 ≤ v1_8 → post s_9) ∧ (¬ s_9 68 23 ≤ v1_8 → (0 ≤ v1_8 ∧ v1_8 < 900) ∧ (jn (fun (K_13 : Sg → Prop) => (s_9 89 v1_8.toNat = v1_8 → (0 ≤ v1_8 ∧ v1_8 < 900) ∧ (∀ s_16, s_16 = up s_9 89 (v1_8.toNat) (s_9 68 24) → ((0 ≤ s_16 68 24 ∧ s_16 68 24 < 900) ∧ (∀ s_18, s_18 = up s_16 91 ((s_16 68 24).toNat) v1_8 → (∀ s_19, s_19 = up s_18 68 24 (w32 ((s_18 68 24) + 1)) → (K_13 s_19)))))) ∧ (¬ s_9 89 v1_8.toNat = v1_8 → (0 ≤ v1_8 ∧ v1_8 < 900) ∧ ((0 ≤ s_9 89 v1_8.toNat ∧ s_9 89 v1_8.toNat < 900) ∧ ((0 ≤ v1_8 ∧ v1_8 < 900) ∧ (∀ s_23, s_23 = up s_9 89 (v1_8.toNat) (s_9 89 (s_9 89 v1_8.toNat).toNat) → (K_13 s_23)))))) (fun (s_12 : Sg) => ∀ v1_14, v1_14 = w32 (v1_8 + 1) → (again_10 v1_14 s_12))))) 0 s_7) := by
  rintro _ rfl
  have h := hS.1
  have hM := hS.2.2.2.2
  have fl := fC_le (g := g) (M := M) h (M + 1)
  obtain ⟨N, eN⟩ : ∃ N, N = fC D g n M (M + 1) := ⟨_, rfl⟩
  rw [← eN] at ha fl hl
  have h23 : s 68 23 = (N : Int) := by rw [eN]; exact hR.2.2.1
  refine lr_1s (fun v t => ∃ k : Nat, v = (k : Int) ∧ k ≤ N ∧ (∀ c, c ≠ 68 → c ≠ 89 → c ≠ 91 → t c = s c) ∧ (∀ o, o ≠ 24 → t 68 o = s 68 o) ∧ t 68 24 = (cntN (rootB lab) k : Int) ∧ (∀ j, j < N → t 89 j = ((if j < k then fno lab j else lab j : Nat) : Int)) ∧ ∀ i, i < k → rootB lab i = true → t 91 (cntN (rootB lab) i) = (i : Int)) (fun v _ => ((N : Int) - v).toNat) ?_ 0 _ ⟨0, rfl, Nat.zero_le _, fun c h1 _ _ => up_ne _ _ _ h1, fun o ho => by rw [up_apply, if_neg (fun z => ho z.2)], by rw [up_apply, if_pos ⟨rfl, rfl⟩]; rfl, fun j hj => by rw [up_ne _ _ _ (by omega), if_neg (by omega)]; exact ha j hj, fun i hi => absurd hi (Nat.not_lt_zero _)⟩
  rintro again _ t ⟨k, rfl, hk, to, to2, t24, t89, t91⟩ ih
  rw [to2 23 (by omega), h23]
  refine ⟨fun q => ?_, fun q => ⟨by omega, ?_⟩⟩
  · have e : k = N := by omega
    subst e
    refine hp t to to2 ⟨by rw [← eN]; exact t24, fun j hj => ?_, fun i hi hr => t91 i (by omega) hr⟩
    rw [← eN] at hj
    rw [t89 j hj, if_pos hj]
  · have hk2 : k < N := by omega
    have b1 : ok32 ((k : Int) + 1) := ⟨by omega, by omega⟩
    have b2 : (k : Int) + 1 = ((k + 1 : Nat) : Int) := by omega
    have ek := t89 k hk2
    rw [if_neg (by omega)] at ek
    have lk := hl.1 k hk2
    have cl := cntN_le (rootB lab) k
    have cs : cntN (rootB lab) (k + 1) = cntN (rootB lab) k + ind (rootB lab k) := by
      rw [cntN_s]; unfold ind; split <;> omega
    unfold jn
    rw [Int.toNat_natCast, ek]
    refine ⟨fun z => ⟨by omega, ?_⟩, fun z => ⟨by omega, by omega, by omega, ?_⟩⟩
    · have hr : rootB lab k = true := by unfold rootB; rw [beq_iff_eq]; omega
      have ef : fno lab k = cntN (rootB lab) k := by unfold fno; rw [show lab k = k by omega]
      intro a ea
      have a24 : a 68 24 = (cntN (rootB lab) k : Int) := by rw [ea, up_ne _ _ _ (by omega)]; exact t24
      have a89 : ∀ j, j < N → a 89 j = ((if j < k + 1 then fno lab j else lab j : Nat) : Int) := by
        intro j hj
        rw [ea, up_apply, t24]
        by_cases e : j = k
        · rw [if_pos ⟨rfl, e⟩, if_pos (by omega), e, ef]
        · rw [if_neg (fun y => e y.2), t89 j hj]
          by_cases y : j < k
          · rw [if_pos y, if_pos (by omega)]
          · rw [if_neg y, if_neg (by omega)]
      have ao : ∀ c, c ≠ 89 → a c = t c := fun c hc => by rw [ea, up_ne _ _ _ hc]
      clear ea
      refine ⟨by omega, fun b eb c ec v ev => ?_⟩
      rw [ev, w32_id b1, b2]
      clear ev
      have bo : ∀ c, c ≠ 91 → b c = a c := fun c hc => by rw [eb, up_ne _ _ _ hc]
      have b91 : ∀ i, i < k + 1 → rootB lab i = true → b 91 (cntN (rootB lab) i) = (i : Int) := by
        intro i hi hri
        rw [eb, up_apply, a24, Int.toNat_natCast]
        by_cases e : i = k
        · subst e; rw [if_pos ⟨rfl, rfl⟩]
        · have m1 : cntN (rootB lab) (i + 1) ≤ cntN (rootB lab) k := by
            exact cnt_le2 (by omega)
          rw [cntN_s, if_pos hri] at m1
          rw [if_neg (by omega), ao 91 (by omega)]
          exact t91 i (by omega) hri
      have b24 : b 68 24 = (cntN (rootB lab) k : Int) := by rw [bo 68 (by omega)]; exact a24
      clear eb
      rw [ec]
      refine ih _ _ ⟨k + 1, rfl, by omega, fun c' h1 h2 h3 => by rw [up_ne _ _ _ h1, bo c' h3, ao c' h2, to c' h1 h2 h3], fun o ho => by rw [up_apply, if_neg (fun z => ho z.2), bo 68 (by omega), ao 68 (by omega), to2 o ho], ?_, fun j hj => by rw [up_ne _ _ _ (by omega), bo 89 (by omega)]; exact a89 j hj, fun i hi hri => by rw [up_ne _ _ _ (by omega)]; exact b91 i hi hri⟩ (by omega)
      rw [up_apply, if_pos ⟨rfl, rfl⟩, b24, cs, ind_t hr, w32_id (show ok32 ((cntN (rootB lab) k : Int) + 1) from ⟨by omega, by omega⟩)]
      omega
    · have hr : ¬ rootB lab k = true := by unfold rootB; rw [beq_iff_eq]; omega
      intro a ea v ev
      rw [ev, w32_id b1, b2, ea]
      clear ev ea
      have er := Lab_root hl hk2
      have el := t89 (lab k) (by omega)
      rw [if_pos (by omega)] at el
      have ef : fno lab (lab k) = fno lab k := by unfold fno; rw [er]
      refine ih _ _ ⟨k + 1, rfl, by omega, fun c' h1 h2 h3 => by rw [up_ne _ _ _ h2, to c' h1 h2 h3], fun o ho => by rw [up_ne _ _ _ (by omega), to2 o ho], by rw [up_ne _ _ _ (by omega), cs, ind_f hr]; exact t24, fun j hj => ?_, fun i hi hri => ?_⟩ (by omega)
      · rw [up_apply]
        by_cases e : j = k
        · rw [if_pos ⟨rfl, e⟩, if_pos (by omega), e, Int.toNat_natCast, el, ef]
        · rw [if_neg (fun y => e y.2), t89 j hj]
          by_cases y : j < k
          · rw [if_pos y, if_pos (by omega)]
          · rw [if_neg y, if_neg (by omega)]
      · rw [up_ne _ _ _ (by omega)]
        by_cases e : i = k
        · subst e; exact absurd hri hr
        · exact t91 i (by omega) hri
theorem s_X10_joinCells {s : Sg} {D : Nat → Nat → Int} {n m M : Nat} {f : Nat → Int × Int × Int × Int} {g : Nat → Int × Int} {post : Sg → Prop} (hS : Swp D n m f M g) (hR : RSl s D n m M f g)
    (hp : ∀ (t : Sg) (lab : Nat → Nat), (∀ c, c ≠ 68 → c ≠ 89 → c ≠ 91 → t c = s c) → (∀ o, o ≠ 24 → (o < 33 ∨ 36 < o) → t 68 o = s 68 o) → LabOf (JnR D g n M) (fC D g n M (M + 1)) lab → RFc t D n M g lab → post t) : w_X10_joinCells s post := by
  unfold w_X10_joinCells
  have h := hS.1
  have hM := hS.2.2.2.2
  have fl := fC_le (g := g) (M := M) h
  have h23 := hR.2.2.1
  have fN := (fl (M + 1)).2
  refine lr_1s (fun v t => ∃ k : Nat, v = (k : Int) ∧ k ≤ fC D g n M (M + 1) ∧ (∀ c, c ≠ 89 → t c = s c) ∧ ∀ j, j < k → t 89 j = (j : Int)) (fun v _ => ((fC D g n M (M + 1) : Int) - v).toNat) ?_ 0 s ⟨0, rfl, Nat.zero_le _, fun _ _ => rfl, fun j hj => absurd hj (Nat.not_lt_zero _)⟩
  rintro again _ t ⟨k, rfl, hk, to, t89⟩ ih
  rw [to 68 (by omega), h23]
  refine ⟨fun q => ?_, fun q => ⟨by omega, ?_⟩⟩
  · have e : k = fC D g n M (M + 1) := by omega
    subst e
    clear ih
    have Rt : ∀ u, NrG s u → RSl u D n m M f g := fun u hu => RSl_G hR hu
    refine lr_1s (fun v u => ∃ (k : Nat) (lab : Nat → Nat), v = ((k + 1 : Nat) : Int) ∧ k ≤ M ∧ NrG s u ∧ (∀ j, j < fC D g n M (M + 1) → u 89 j = (lab j : Int)) ∧ LabOf (JnTo D g n M k 0 0) (fC D g n M (M + 1)) lab) (fun v _ => ((M : Int) + 1 - v).toNat) ?_ 1 t ⟨0, fun j => j, rfl, Nat.zero_le _, ⟨fun c _ h2 => to c h2, fun o _ => by rw [to 68 (by omega)]⟩, t89, Lab_id (fun a b _ _ z => by
      obtain ⟨c, xa, xb, hc, h1, h2, h3, -⟩ := z
      omega) (fun _ _ => rfl)⟩
    rintro again2 _ u ⟨k, lab, rfl, hk, uo, ua, ul⟩ ih2
    have Ru := Rt u uo
    rw [Ru.2.1]
    refine ⟨fun q2 => ?_, fun q2 => ⟨?_, fun v2 ev2 => ?_⟩⟩
    · have e : k = M := by omega
      subst e
      have ul2 : LabOf (JnR D g n k) (fC D g n k (k + 1)) lab := Lab_congr ul (fun a b _ _ => Jn_all hS a b) (fun _ _ => rfl)
      refine s_rnumber hS Ru ul2 ua fun w w1 w2 w3 => hp w lab (fun c h1 h2 h3 => by rw [w1 c h1 h2 h3, uo.1 c h1 h2]) (fun o h1 h2 => by rw [w2 o h1, uo.2 o h2]) ul2 w3
    · rw [w32_id ⟨by omega, by omega⟩]; omega
    · have hkM : k < M := by omega
      have ek : w32 (((k + 1 : Nat) : Int) - 1) = (k : Int) := by rw [w32_id ⟨by omega, by omega⟩]; omega
      have ek2 : w32 (((k + 1 : Nat) : Int) + 1) = ((k + 2 : Nat) : Int) := by rw [w32_id ⟨by omega, by omega⟩]; omega
      rw [ek, Int.toNat_natCast, Ru.2.2.2.2.1 k (by omega)] at ev2
      rw [ev2]
      clear ev2
      have na := nC_le (g := g) (M := M) (s := k) h
      have nb := nC_le (g := g) (M := M) (s := k + 1) h
      have fs1 := fC_s D g n M k
      have fs2 : fC D g n M (k + 2) = fC D g n M (k + 1) + nC D g n M (k + 1) := fC_s D g n M (k + 1)
      have fm := fC_mono (D := D) (g := g) (n := n) (M := M) (show k + 2 ≤ M + 1 by omega)
      refine lr_1s (fun v u => ∃ (qa : Nat) (lab : Nat → Nat), v = ((fC D g n M k + qa : Nat) : Int) ∧ qa ≤ nC D g n M k ∧ NrG s u ∧ (∀ j, j < fC D g n M (M + 1) → u 89 j = (lab j : Int)) ∧ LabOf (JnTo D g n M k qa 0) (fC D g n M (M + 1)) lab) (fun v _ => ((fC D g n M (k + 1) : Int) - v).toNat) ?_ _ u ⟨0, lab, rfl, Nat.zero_le _, uo, ua, ul⟩
      rintro again3 _ w ⟨qa, lab3, rfl, hqa, wo, wa, wl⟩ ih3
      have Rw := Rt w wo
      rw [Int.toNat_natCast, Rw.2.2.2.2.1 (k + 1) (by omega)]
      refine ⟨by omega, fun q3 v ev => ?_, fun q3 => ⟨by omega, fun v3 ev3 => ?_⟩⟩
      · have e : qa = nC D g n M k := by omega
        subst e
        rw [ev, ek2]
        clear ev
        exact ih2 _ _ ⟨k + 1, lab3, rfl, by omega, wo, wa, Lab_congr wl (fun a b _ _ => Jn_col a b) (fun _ _ => rfl)⟩ (by omega)
      · have hqa2 : qa < nC D g n M k := by omega
        rw [ev3]
        clear ev3
        refine lr_1s (fun v u => ∃ (qb : Nat) (lab : Nat → Nat), v = ((fC D g n M (k + 1) + qb : Nat) : Int) ∧ qb ≤ nC D g n M (k + 1) ∧ NrG s u ∧ (∀ j, j < fC D g n M (M + 1) → u 89 j = (lab j : Int)) ∧ LabOf (JnTo D g n M k qa qb) (fC D g n M (M + 1)) lab) (fun v _ => ((fC D g n M (k + 2) : Int) - v).toNat) ?_ _ w ⟨0, lab3, rfl, Nat.zero_le _, wo, wa, wl⟩
        rintro again4 _ x ⟨qb, lab4, rfl, hqb, xo, xa, xl⟩ ih4
        have Rx := Rt x xo
        rw [ek2, Int.toNat_natCast, Rx.2.2.2.2.1 (k + 2) (by omega)]
        refine ⟨by omega, fun q4 v ev => ?_, fun q4 => ?_⟩
        · have e : qb = nC D g n M (k + 1) := by omega
          subst e
          have b1 : ok32 (((fC D g n M k + qa : Nat) : Int) + 1) := ⟨by omega, by omega⟩
          have b2 : ((fC D g n M k + qa : Nat) : Int) + 1 = ((fC D g n M k + (qa + 1) : Nat) : Int) := by omega
          rw [ev, w32_id b1, b2]
          clear ev
          exact ih3 _ _ ⟨qa + 1, lab4, rfl, by omega, xo, xa, Lab_congr xl (fun a b _ _ => Jn_row a b) (fun _ _ => rfl)⟩ (by omega)
        · have hqb2 : qb < nC D g n M (k + 1) := by omega
          have b1 : ok32 (((fC D g n M (k + 1) + qb : Nat) : Int) + 1) := ⟨by omega, by omega⟩
          have b2 : ((fC D g n M (k + 1) + qb : Nat) : Int) + 1 = ((fC D g n M (k + 1) + (qb + 1) : Nat) : Int) := by omega
          have la : fC D g n M k + qa < fC D g n M (M + 1) := by omega
          have lb : fC D g n M (k + 1) + qb < fC D g n M (M + 1) := by omega
          obtain ⟨kF, kT⟩ := F_K hS (c := k) hqa2 hqb2
          have fin : ∀ (y : Sg) (lab5 : Nat → Nat), NrG s y → (∀ j, j < fC D g n M (M + 1) → y 89 j = (lab5 j : Int)) → LabOf (JnTo D g n M k qa (qb + 1)) (fC D g n M (M + 1)) lab5 → ∀ v, v = w32 (((fC D g n M (k + 1) + qb : Nat) : Int) + 1) → again4 v y := by
            intro y lab5 y1 y2 y3 v ev
            rw [ev, w32_id b1, b2]
            clear ev
            exact ih4 _ _ ⟨qb + 1, lab5, rfl, by omega, y1, y2, y3⟩ (by omega)
          have opn_F : Opn D g n M k qa qb → loF D g n k qa qb < hiF D g n M k qa qb := by
            rintro ⟨r, hr, -⟩
            exact (str_ex hS hkM kF kT).mpr ⟨r, (InR_iff hS hkM hqa2 hqb2).mp hr⟩
          have no : ∀ y : Sg, NrG s y → y 89 = x 89 → ¬ Opn D g n M k qa qb → ∀ v, v = w32 (((fC D g n M (k + 1) + qb : Nat) : Int) + 1) → again4 v y := by
            intro y y1 y2 y3
            refine fin y lab4 y1 (fun j hj => by rw [y2]; exact xa j hj) (Lab_congr xl (fun a b _ _ => ?_) (fun _ _ => rfl))
            rw [Jn_s hS hkM hqa2 hqb2]
            exact ⟨Or.inl, fun z => z.resolve_right fun z2 => y3 z2.1⟩
          refine s_wide2 hS Rx hkM hqa2 hqb2 rfl rfl _ rfl fun y yo yF yT => ?_
          have Gy := NrG_F xo yo
          have Ry := Rt y Gy
          have y89 : y 89 = x 89 := yo.1 89 (by omega)
          refine s_X10_isMore yF yT fun r hr => ?_
          unfold jn
          refine ⟨fun z => no y Gy y89 fun o => ?_, fun z => ⟨by omega, by omega, ?_⟩⟩
          · rcases hr with e | e
            · omega
            · exact e.2 (opn_F o)
          · rw [Int.toNat_natCast]
            refine s_X10_isOpen hS Ry hkM yF yT kF kT (Ry.2.2.2.1 k hkM).1 (Ry.2.2.2.1 k hkM).2 fun r2 hr2 => ⟨fun z2 => ?_, fun z2 => no y Gy y89 fun o => ?_⟩
            · have op : Opn D g n M k qa qb := by
                rcases hr2 with e | e
                · obtain ⟨-, r', r1, r3, r4, r5⟩ := e
                  exact ⟨r', (InR_iff hS hkM hqa2 hqb2).mpr ⟨r1, r3, r4⟩, r5⟩
                · exact absurd e.1 z2
              have w1 := xa _ la
              have w2 := xa _ lb
              rw [← y89] at w1 w2
              have l1 := xl.1 _ la
              have l2 := xl.1 _ lb
              rw [Int.toNat_natCast, w1, w2]
              refine ⟨by omega, by omega, fun x1 ex1 => ⟨by omega, by omega, fun x2 ex2 => ?_⟩⟩
              have e1 : x1 = ((min (lab4 (fC D g n M k + qa)) (lab4 (fC D g n M (k + 1) + qb)) : Nat) : Int) := by rw [ex1]; split <;> omega
              have e2 : x2 = ((max (lab4 (fC D g n M k + qa)) (lab4 (fC D g n M (k + 1) + qb)) : Nat) : Int) := by rw [ex2]; split <;> omega
              refine s_relabel (lab := lab4) Ry.2.2.1 (by omega) (by omega) (by decide) (fun j hj => by rw [y89]; exact xa j hj) e1 e2 fun p po pa => ?_
              clear ex1 ex2 e1 e2
              refine fin p (mrg lab4 (fC D g n M k + qa) (fC D g n M (k + 1) + qb)) ⟨fun c h1 h2 => by rw [po c h2, Gy.1 c h1 h2], fun o ho => by rw [po 68 (by omega), Gy.2 o ho]⟩ pa (Lab_congr (Lab_mrg xl la lb) (fun a b _ _ => ?_) (fun _ _ => rfl))
              rw [Jn_s hS hkM hqa2 hqb2]
              exact ⟨fun z3 => z3.imp id fun z4 => ⟨op, z4⟩, fun z3 => z3.imp id fun z4 => z4.2⟩
            · obtain ⟨r', hr', hv⟩ := o
              rcases hr2 with e | e
              · omega
              · exact e.2 ⟨r', ((InR_iff hS hkM hqa2 hqb2).mp hr').1, ((InR_iff hS hkM hqa2 hqb2).mp hr').2.1, ((InR_iff hS hkM hqa2 hqb2).mp hr').2.2, hv⟩
  · intro a ea v ev
    have b1 : ok32 ((k : Int) + 1) := ⟨by omega, by omega⟩
    have b2 : (k : Int) + 1 = ((k + 1 : Nat) : Int) := by omega
    rw [ev, w32_id b1, b2, ea]
    clear ev ea
    refine ih _ _ ⟨k + 1, rfl, by omega, fun c hc => by rw [up_ne _ _ _ hc, to c hc], fun j hj => ?_⟩ (by omega)
    rw [up_apply, Int.toNat_natCast]
    by_cases e : j = k
    · rw [if_pos ⟨rfl, e⟩, e]
    · rw [if_neg (fun z => e z.2)]
      exact t89 j (by omega)
theorem s_X10_tellSheet {s : Sg} {D : Nat → Nat → Int} {n m M : Nat} {f : Nat → Int × Int × Int × Int} {g : Nat → Int × Int} {post : Sg → Prop} (hS : Swp D n m f M g) (hn : s 68 0 = (n : Int)) (hat : LnAt s 69 (n : Int) D)
    (hp : ∀ (t : Sg) (lab : Nat → Nat), FrT s t → RSl t D n m M f g → LabOf (JnR D g n M) (fC D g n M (M + 1)) lab → RFc t D n M g lab → post t) : w_X10_tellSheet s post := by
  refine s_X10_tellSheetA hS hn hat fun t ht hR => ?_
  refine s_X10_joinCells hS hR fun u lab u1 u2 hl hF => ?_
  refine hp u lab ⟨fun c h1 h2 => by rw [u1 c h1 (by omega) (by omega)]; exact ht.1 c h1 h2, fun o ho => by rw [u2 o (by omega) (by omega)]; exact ht.2 o (by omega)⟩ ?_ hl hF
  obtain ⟨⟨a1, a2, a3, a4⟩, h1, h2, h3, h4, h5⟩ := hR
  refine ⟨⟨by rw [u2 0 (by omega) (by omega)]; exact a1, fun i hi => ?_, by rw [u2 9 (by omega) (by omega)]; exact a3, fun j hj => ?_⟩, by rw [u2 22 (by omega) (by omega)]; exact h1, by rw [u2 23 (by omega) (by omega)]; exact h2, fun b hb => by rw [u1 83 (by omega) (by omega) (by omega), u1 84 (by omega) (by omega) (by omega)]; exact h3 b hb, fun b hb => by rw [u1 85 (by omega) (by omega) (by omega)]; exact h4 b hb, fun b hb q hq => by rw [u1 86 (by omega) (by omega) (by omega), u1 87 (by omega) (by omega) (by omega), u1 88 (by omega) (by omega) (by omega)]; exact h5 b hb q hq⟩
  · rw [u1 69 (by omega) (by omega) (by omega), u1 (69 + 1) (by omega) (by omega) (by omega), u1 (69 + 2) (by omega) (by omega) (by omega), u1 (69 + 3) (by omega) (by omega) (by omega)]
    exact a2 i hi
  · rw [u1 73 (by omega) (by omega) (by omega), u1 74 (by omega) (by omega) (by omega), u1 75 (by omega) (by omega) (by omega), u1 76 (by omega) (by omega) (by omega)]
    exact a4 j hj
