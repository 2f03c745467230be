/-! the class: what bounds the faces, what is next to them -/
def BcTo (D : Nat → Nat → Int) (g : Nat → Int × Int) (n M : Nat) (lab : Nat → Nat) (k F l : Nat) : Prop := ∃ s q, s ≤ M ∧ q < nC D g n M s ∧ fC D g n M s + q < k ∧ fno lab (fC D g n M s + q) = F ∧ (loPB D g n M s q l = true ∨ hiPB D g n M s q l = true)
theorem Bc_s {D : Nat → Nat → Int} {g : Nat → Int × Int} {n M : Nat} {lab : Nat → Nat} {s q F l : Nat} (hs : s ≤ M) (hq : q < nC D g n M s) : BcTo D g n M lab (fC D g n M s + q + 1) F l ↔ (BcTo D g n M lab (fC D g n M s + q) F l ∨ (fno lab (fC D g n M s + q) = F ∧ (loPB D g n M s q l = true ∨ hiPB D g n M s q l = true))) := by
  constructor
  · rintro ⟨s', q', h1, h2, h3, h4, h5⟩
    by_cases e : fC D g n M s' + q' = fC D g n M s + q
    · obtain ⟨rfl, rfl⟩ := cell_one h2 hq e
      exact Or.inr ⟨h4, h5⟩
    · exact Or.inl ⟨s', q', h1, h2, by omega, h4, h5⟩
  · rintro (⟨s', q', h1, h2, h3, h4, h5⟩ | ⟨h4, h5⟩)
    · exact ⟨s', q', h1, h2, by omega, h4, h5⟩
    · exact ⟨s, q, hs, hq, by omega, h4, h5⟩
theorem Vt_s {D : Nat → Nat → Int} {g : Nat → Int × Int} {n M : Nat} {lab : Nat → Nat} {s q F G : Nat} (hs : s ≤ M) (hq : q < nC D g n M s) : VtTo D g n M lab (fC D g n M s + q + 1 + 1) F G ↔ (VtTo D g n M lab (fC D g n M s + q + 1) F G ∨ (q + 1 < nC D g n M s ∧ lkR lab (fC D g n M s + q) (fC D g n M s + q + 1) F G)) := by
  constructor
  · rintro ⟨s', q', h1, h2, h3, h4⟩
    by_cases e : fC D g n M s' + q' = fC D g n M s + q
    · obtain ⟨rfl, rfl⟩ := cell_one (show q' < nC D g n M s' by omega) hq e
      exact Or.inr ⟨h2, h4⟩
    · exact Or.inl ⟨s', q', h1, h2, by omega, h4⟩
  · rintro (⟨s', q', h1, h2, h3, h4⟩ | ⟨h2, h4⟩)
    · exact ⟨s', q', h1, h2, by omega, h4⟩
    · exact ⟨s, q, hs, h2, by omega, h4⟩
theorem hi_0 {D : Nat → Nat → Int} {n m M : Nat} {f : Nat → Int × Int × Int × Int} {g : Nat → Int × Int} (hS : Swp D n m f M g) {s q : Nat} (hs : s ≤ M) : hiS D g n M s q = 0 ↔ ¬ q + 1 < nC D g n M s := by
  have hn := hS.1.1
  obtain ⟨P, e, b1, b2⟩ := hi_bits hS (q := q) (c := s) hs (Or.inl rfl)
  rw [e, bits_0 _ (by omega)]
  constructor
  · intro h z
    obtain ⟨i, hi, pi⟩ := (b2 (fun w => w z)).1
    exact h i hi pi
  · intro z
    exact b1 z
theorem s_X0_boundByCells {s : Sg} {D : Nat → Nat → Int} {n m M K : Nat} {f : Nat → Int × Int × Int × Int} {g : Nat → Int × Int} {lab : Nat → Nat} {R : Nat → Nat → Prop} {post : Sg → Prop} (hS : Swp D n m f M g) (hSl : SlAt s D n M g) (hl : LabOf R (fC D g n M (M + 1)) lab) (hK : K = cntN (rootB lab) (fC D g n M (M + 1))) (hK2 : K ≤ 60) (h55 : ∀ j, j < fC D g n M (M + 1) → s 55 j = (fno lab j : Int)) (h0 : ∀ F, F < K → s 58 F = 0 ∧ s 59 F = 0)
    (hp : ∀ t, (∀ c, c ≠ 58 → c ≠ 59 → t c = s c) → (∀ F, F < K → t 58 F = bitsOf (fun l => pB (BcTo D g n M lab (fC D g n M (M + 1)) F l)) n ∧ t 59 F = bts (fun G => pB (VtTo D g n M lab (fC D g n M (M + 1) + 1) F G)) K) → post t) : w_X0_boundByCells s post := by
  have h := hS.1
  have hn := h.1
  have hM := hS.2.2.2.2
  have fN := (fC_le (g := g) (M := M) h (M + 1)).2
  unfold w_X0_boundByCells
  refine lr_1s (fun v t => ∃ k : Nat, v = (k : Int) ∧ k ≤ fC D g n M (M + 1) ∧ (∀ c, c ≠ 58 → c ≠ 59 → t c = s c) ∧ (∀ F, F < K → t 58 F = bitsOf (fun l => pB (BcTo D g n M lab k F l)) n ∧ t 59 F = bts (fun G => pB (VtTo D g n M lab (k + 1) F G)) K)) (fun v _ => ((fC D g n M (M + 1) : Int) - v).toNat) ?_ 0 s ⟨0, rfl, Nat.zero_le _, fun _ _ _ => rfl, fun F hF => ⟨?_, ?_⟩⟩
  · rintro again _ t ⟨k, rfl, hk, to, tF⟩ ih
    rw [to 38 (by omega) (by omega), hSl.2.1]
    refine ⟨fun z0 => ?_, fun z0 => ?_⟩
    · have e : k = fC D g n M (M + 1) := by omega
      subst e
      exact hp t to tF
    · have hk2 : k < fC D g n M (M + 1) := by omega
      obtain ⟨sl, q, hs, hq, rfl⟩ := cell_form (M + 1) k hk2
      have hs : sl ≤ M := by omega
      have b1 : ok32 (((fC D g n M sl + q : Nat) : Int) + 1) := ⟨by omega, by omega⟩
      have b2 : ((fC D g n M sl + q : Nat) : Int) + 1 = ((fC D g n M sl + q + 1 : Nat) : Int) := by omega
      have fl := fno_lt hl hk2
      rw [← hK] at fl
      obtain ⟨c42, c43, c44⟩ := hSl.2.2.2.2 sl hs q hq
      rw [Int.toNat_natCast, to 55 (by omega) (by omega), h55 _ hk2, Int.toNat_natCast, to 43 (by omega) (by omega), c43, to 44 (by omega) (by omega), c44, loS_P (by omega), (tF _ fl).1]
      refine ⟨by omega, by omega, by omega, by omega, by omega, fun a ea => ⟨by omega, ?_⟩⟩
      rw [hiS_P (by omega), ior_bits _ _ (by omega), ior_bits _ _ (by omega)] at ea
      have ao : ∀ c, c ≠ 58 → a c = t c := fun c hc => by rw [ea, up_ne _ _ _ hc]
      have a58 : ∀ F, F < K → a 58 F = bitsOf (fun l => pB (BcTo D g n M lab (fC D g n M sl + q + 1) F l)) n := by
        intro F hF
        rw [ea, up_apply]
        by_cases e : F = fno lab (fC D g n M sl + q)
        · rw [if_pos ⟨rfl, e⟩]
          refine bitsOf_congr fun l hl' => bool_ext ?_
          rw [Bool.or_eq_true, Bool.or_eq_true, pB_iff, pB_iff, Bc_s hs hq, e]
          exact or_congr Iff.rfl ⟨fun w => ⟨rfl, w⟩, fun w => w.2⟩
        · rw [if_neg (fun w => e w.2), (tF F hF).1]
          refine bitsOf_congr fun l hl' => pB_congr ?_
          rw [Bc_s hs hq]
          exact ⟨Or.inl, fun w => w.resolve_right fun w2 => e w2.1.symm⟩
      clear ea
      have a59 : ∀ F, F < K → a 59 F = bts (fun G => pB (VtTo D g n M lab (fC D g n M sl + q + 1) F G)) K := fun F hF => by rw [ao 59 (by omega)]; exact (tF F hF).2
      have fin : ∀ x : Sg, (∀ c, c ≠ 58 → c ≠ 59 → x c = s c) → (∀ F, F < K → x 58 F = bitsOf (fun l => pB (BcTo D g n M lab (fC D g n M sl + q + 1) F l)) n ∧ x 59 F = bts (fun G => pB (VtTo D g n M lab (fC D g n M sl + q + 1 + 1) F G)) K) → ∀ v, v = w32 (((fC D g n M sl + q : Nat) : Int) + 1) → again v x := by
        intro x x1 x2 v ev
        rw [ev, w32_id b1, b2]
        clear ev
        exact ih _ _ ⟨_, rfl, by omega, x1, x2⟩ (by omega)
      have as : ∀ c, c ≠ 58 → c ≠ 59 → a c = s c := fun c h1 h2 => by rw [ao c h1, to c h1 h2]
      have e44 : a 44 (fC D g n M sl + q) = hiS D g n M sl q := by rw [as 44 (by omega) (by omega)]; exact c44
      unfold jn
      rw [e44, hi_0 hS hs, as 38 (by omega) (by omega), hSl.2.1, w32_id b1, b2]
      have no : ¬ q + 1 < nC D g n M sl → ∀ v, v = w32 (((fC D g n M sl + q : Nat) : Int) + 1) → again v a := fun z => fin a as fun F hF => ⟨a58 F hF, by
        rw [a59 F hF]
        refine bts_congr fun G hG => pB_congr ?_
        rw [Vt_s hs hq]
        exact ⟨Or.inl, fun w => w.resolve_right fun w2 => z w2.1⟩⟩
      rw [w32_id b1, b2] at no
      refine ⟨fun z => no z, fun z => ⟨fun z2 => ?_, fun z2 => ⟨by omega, by omega, ?_⟩⟩⟩
      · exfalso
        have z := Decidable.not_not.mp z
        have fs := fC_s D g n M sl
        have fm := fC_mono (D := D) (g := g) (n := n) (M := M) (show sl + 1 ≤ M + 1 by omega)
        omega
      · have z := Decidable.not_not.mp z
        have lt2 : fC D g n M sl + q + 1 < fC D g n M (M + 1) := by omega
        have fl2 := fno_lt hl lt2
        rw [← hK] at fl2
        rw [as 55 (by omega) (by omega), h55 _ hk2, Int.toNat_natCast, h55 _ lt2]
        refine s_X0_link hK2 a59 fl fl2 fun x xo xF => ?_
        have := fin x (fun c h1 h2 => by rw [xo c h2, as c h1 h2]) fun F hF => ⟨by rw [xo 58 (by omega)]; exact a58 F hF, by
          rw [xF F hF]
          refine bts_congr fun G hG => pB_congr ?_
          rw [Vt_s hs hq]
          exact or_congr Iff.rfl ⟨fun w => ⟨z, w⟩, fun w => w.2⟩⟩
        rw [w32_id b1, b2] at this
        exact this
  · rw [(h0 F hF).1, ← bits_none (show n ≤ 30 by omega)]
    exact bitsOf_congr fun l _ => (pB_F fun ⟨s', q', h1, h2, h3, _⟩ => by omega).symm
  · rw [(h0 F hF).2, ← bts_none K]
    exact bts_congr fun l _ => (pB_F fun ⟨s', q', h1, h2, h3, _⟩ => by omega).symm
def UpI (D : Nat → Nat → Int) (g : Nat → Int × Int) (n M : Nat) (lab : Nat → Nat) (i F l : Nat) : Prop := ∃ c r, c < M ∧ r ≤ tK D g n c ∧ SB D g n c + r < i ∧ upS D g n c r l = true ∧ (fno lab (lfC D g n M c r) = F ∨ fno lab (rgC D g n M c r) = F)
def HzI (D : Nat → Nat → Int) (g : Nat → Int × Int) (n M : Nat) (lab : Nat → Nat) (i F G : Nat) : Prop := ∃ c r, c < M ∧ r ≤ tK D g n c ∧ SB D g n c + r < i ∧ cov D g n c r = true ∧ lkR lab (lfC D g n M c r) (rgC D g n M c r) F G
theorem UpI_s {D : Nat → Nat → Int} {g : Nat → Int × Int} {n M : Nat} {lab : Nat → Nat} {c r F l : Nat} (hc : c < M) (hr : r ≤ tK D g n c) : UpI D g n M lab (SB D g n c + r + 1) F l ↔ (UpI D g n M lab (SB D g n c + r) F l ∨ (upS D g n c r l = true ∧ (fno lab (lfC D g n M c r) = F ∨ fno lab (rgC D g n M c r) = F))) := by
  constructor
  · rintro ⟨c', r', h1, h2, h3, h4, h5⟩
    by_cases e : SB D g n c' + r' = SB D g n c + r
    · obtain ⟨rfl, rfl⟩ := str_one h2 hr e
      exact Or.inr ⟨h4, h5⟩
    · exact Or.inl ⟨c', r', h1, h2, by omega, h4, h5⟩
  · rintro (⟨c', r', h1, h2, h3, h4, h5⟩ | ⟨h4, h5⟩)
    · exact ⟨c', r', h1, h2, by omega, h4, h5⟩
    · exact ⟨c, r, hc, hr, by omega, h4, h5⟩
theorem HzI_s {D : Nat → Nat → Int} {g : Nat → Int × Int} {n M : Nat} {lab : Nat → Nat} {c r F G : Nat} (hc : c < M) (hr : r ≤ tK D g n c) : HzI D g n M lab (SB D g n c + r + 1) F G ↔ (HzI D g n M lab (SB D g n c + r) F G ∨ (cov D g n c r = true ∧ lkR lab (lfC D g n M c r) (rgC D g n M c r) F G)) := by
  constructor
  · rintro ⟨c', r', h1, h2, h3, h4, h5⟩
    by_cases e : SB D g n c' + r' = SB D g n c + r
    · obtain ⟨rfl, rfl⟩ := str_one h2 hr e
      exact Or.inr ⟨h4, h5⟩
    · exact Or.inl ⟨c', r', h1, h2, by omega, h4, h5⟩
  · rintro (⟨c', r', h1, h2, h3, h4, h5⟩ | ⟨h4, h5⟩)
    · exact ⟨c', r', h1, h2, by omega, h4, h5⟩
    · exact ⟨c, r, hc, hr, by omega, h4, h5⟩
theorem s_X0_boundByUprights {s : Sg} {D : Nat → Nat → Int} {n m M K : Nat} {f : Nat → Int × Int × Int × Int} {g : Nat → Int × Int} {lab : Nat → Nat} {R : Nat → Nat → Prop} {post : Sg → Prop} {B N : Nat → Nat → Prop} (hS : Swp D n m f M g) (hSt : StA s D n M g) (hl : LabOf R (fC D g n M (M + 1)) lab) (hK : K = cntN (rootB lab) (fC D g n M (M + 1))) (hK2 : K ≤ 60) (h55 : ∀ j, j < fC D g n M (M + 1) → s 55 j = (fno lab j : Int)) (h0 : ∀ F, F < K → s 58 F = bitsOf (fun l => pB (B F l)) n ∧ s 59 F = bts (fun G => pB (N F G)) K)
    (hp : ∀ t, (∀ c, c ≠ 58 → c ≠ 59 → t c = s c) → (∀ F, F < K → t 58 F = bitsOf (fun l => pB (B F l ∨ UpI D g n M lab (SB D g n M) F l)) n ∧ t 59 F = bts (fun G => pB (N F G ∨ HzI D g n M lab (SB D g n M) F G)) K) → post t) : w_X0_boundByUprights s post := by
  have h := hS.1
  have hn := h.1
  have hM := hS.2.2.2.2
  have fN := (fC_le (g := g) (M := M) h (M + 1)).2
  have sb := SB_725 hS
  unfold w_X0_boundByUprights
  refine lr_1s (fun v t => ∃ i : Nat, v = (i : Int) ∧ i ≤ SB D g n M ∧ (∀ c, c ≠ 58 → c ≠ 59 → t c = s c) ∧ (∀ F, F < K → t 58 F = bitsOf (fun l => pB (B F l ∨ UpI D g n M lab i F l)) n ∧ t 59 F = bts (fun G => pB (N F G ∨ HzI D g n M lab i F G)) K)) (fun v _ => ((SB D g n M : Int) - v).toNat) ?_ 0 s ⟨0, rfl, Nat.zero_le _, fun _ _ _ => rfl, fun F hF => ⟨?_, ?_⟩⟩
  · rintro again _ t ⟨i, rfl, hi, to, tF⟩ ih
    rw [to 45 (by omega) (by omega), hSt.1]
    refine ⟨fun q => ?_, fun q => ⟨by omega, ?_⟩⟩
    · have e : i = SB D g n M := by omega
      subst e
      exact hp t to tF
    · obtain ⟨c, r, hc, hr, rfl⟩ := str_form (D := D) (g := g) (n := n) M i (by omega)
      obtain ⟨s46, s47, s48⟩ := hSt.2 c hc r hr
      obtain ⟨ll, lr⟩ := lr_lt (g := g) h hc r
      have b1 : ok32 (((SB D g n c + r : Nat) : Int) + 1) := ⟨by omega, by omega⟩
      have b2 : ((SB D g n c + r : Nat) : Int) + 1 = ((SB D g n c + r + 1 : Nat) : Int) := by omega
      have e46 : s 46 (SB D g n c + r) = (lfC D g n M c r : Int) := s46
      have e47 : s 47 (SB D g n c + r) = (rgC D g n M c r : Int) := s47
      have f1 := fno_lt hl ll
      have f2 := fno_lt hl lr
      rw [← hK] at f1 f2
      have fin : ∀ x : Sg, (∀ c, c ≠ 58 → c ≠ 59 → x c = s c) → (∀ F, F < K → x 58 F = bitsOf (fun l => pB (B F l ∨ UpI D g n M lab (SB D g n c + r + 1) F l)) n ∧ x 59 F = bts (fun G => pB (N F G ∨ HzI D g n M lab (SB D g n c + r + 1) F G)) K) → ∀ v, v = w32 (((SB D g n c + r : Nat) : Int) + 1) → again v x := by
        intro x x1 x2 v ev
        rw [ev, w32_id b1, b2]
        clear ev
        exact ih _ _ ⟨_, rfl, by omega, x1, x2⟩ (by omega)
      unfold jn
      rw [Int.toNat_natCast, to 46 (by omega) (by omega), to 47 (by omega) (by omega), to 48 (by omega) (by omega), to 55 (by omega) (by omega), e46, e47, s48, up_0 (by omega), Int.toNat_natCast, Int.toNat_natCast, h55 _ ll, h55 _ lr]
      refine ⟨fun z => fin t to fun F hF => ⟨?_, ?_⟩, fun z => ⟨by omega, by omega, fun v3 e3 => ⟨by omega, by omega, fun v4 e4 => ?_⟩⟩⟩
      · rw [(tF F hF).1]
        refine bitsOf_congr fun l hl' => pB_congr (or_congr Iff.rfl ?_)
        rw [UpI_s hc hr]
        exact ⟨Or.inl, fun w => w.resolve_right fun w2 => z (cov_iff.mpr ⟨l, hl', w2.1⟩)⟩
      · rw [(tF F hF).2]
        refine bts_congr fun G hG => pB_congr (or_congr Iff.rfl ?_)
        rw [HzI_s hc hr]
        exact ⟨Or.inl, fun w => w.resolve_right fun w2 => z w2.1⟩
      · have z := Decidable.not_not.mp z
        rw [e3, e4, Int.toNat_natCast, Int.toNat_natCast, (tF _ f1).1, ior_bits _ _ (by omega)]
        clear e3 e4
        refine ⟨by omega, by omega, by omega, fun a ea => ⟨by omega, by omega, by omega, fun b eb => ?_⟩⟩
        have ao : ∀ c, c ≠ 58 → a c = t c := fun c hc => by rw [ea, up_ne _ _ _ hc]
        have a58 : ∀ F, F < K → a 58 F = bitsOf (fun l => pB ((B F l ∨ UpI D g n M lab (SB D g n c + r) F l) ∨ (upS D g n c r l = true ∧ fno lab (lfC D g n M c r) = F))) n := by
          intro F hF
          rw [ea, up_apply]
          by_cases e : F = fno lab (lfC D g n M c r)
          · rw [if_pos ⟨rfl, e⟩]
            refine bitsOf_congr fun l hl' => bool_ext ?_
            rw [Bool.or_eq_true, pB_iff, pB_iff, e]
            exact or_congr Iff.rfl ⟨fun w => ⟨w, rfl⟩, fun w => w.1⟩
          · rw [if_neg (fun w => e w.2), (tF F hF).1]
            exact bitsOf_congr fun l hl' => pB_congr ⟨Or.inl, fun w => w.resolve_right fun w2 => e w2.2.symm⟩
        clear ea
        rw [ao 48 (by omega), to 48 (by omega) (by omega), s48, a58 _ f2, ior_bits _ _ (by omega)] at eb
        have bo : ∀ c, c ≠ 58 → b c = a c := fun c hc => by rw [eb, up_ne _ _ _ hc]
        have b58 : ∀ F, F < K → b 58 F = bitsOf (fun l => pB (B F l ∨ UpI D g n M lab (SB D g n c + r + 1) F l)) n := by
          intro F hF
          rw [eb, up_apply]
          by_cases e : F = fno lab (rgC D g n M c r)
          · rw [if_pos ⟨rfl, e⟩]
            refine bitsOf_congr fun l hl' => bool_ext ?_
            rw [Bool.or_eq_true, pB_iff, pB_iff, UpI_s hc hr, ← e]
            constructor
            · rintro ((w | w) | w)
              · exact w.imp id Or.inl
              · exact Or.inr (Or.inr ⟨w.1, Or.inl w.2⟩)
              · exact Or.inr (Or.inr ⟨w, Or.inr rfl⟩)
            · rintro (w | w | ⟨w, -⟩)
              · exact Or.inl (Or.inl (Or.inl w))
              · exact Or.inl (Or.inl (Or.inr w))
              · exact Or.inr w
          · rw [if_neg (fun w => e w.2), a58 F hF]
            refine bitsOf_congr fun l hl' => pB_congr ?_
            rw [UpI_s hc hr]
            constructor
            · rintro ((w | w) | w)
              · exact Or.inl w
              · exact Or.inr (Or.inl w)
              · exact Or.inr (Or.inr ⟨w.1, Or.inl w.2⟩)
            · rintro (w | w | ⟨w, w2 | w2⟩)
              · exact Or.inl (Or.inl w)
              · exact Or.inl (Or.inr w)
              · exact Or.inr ⟨w, w2⟩
              · exact absurd w2.symm e
        clear eb
        have b59 : ∀ F, F < K → b 59 F = bts (fun G => pB (N F G ∨ HzI D g n M lab (SB D g n c + r) F G)) K := fun F hF => by rw [bo 59 (by omega), ao 59 (by omega)]; exact (tF F hF).2
        refine s_X0_link hK2 b59 f1 f2 fun x xo xF => fin x (fun c' h1 h2 => by rw [xo c' h2, bo c' h1, ao c' h1, to c' h1 h2]) fun F hF => ⟨by rw [xo 58 (by omega)]; exact b58 F hF, ?_⟩
        rw [xF F hF]
        refine bts_congr fun G hG => pB_congr ?_
        rw [HzI_s hc hr, or_assoc]
        exact or_congr Iff.rfl (or_congr Iff.rfl ⟨fun w => ⟨z, w⟩, fun w => w.2⟩)
  · rw [(h0 F hF).1]
    exact bitsOf_congr fun l _ => pB_congr ⟨Or.inl, fun w => w.resolve_right fun ⟨c, r, h1, h2, h3, _⟩ => by omega⟩
  · rw [(h0 F hF).2]
    exact bts_congr fun l _ => pB_congr ⟨Or.inl, fun w => w.resolve_right fun ⟨c, r, h1, h2, h3, _⟩ => by omega⟩
theorem SB_lt {D : Nat → Nat → Int} {g : Nat → Int × Int} {n M c r : Nat} (hc : c < M) (hr : r ≤ tK D g n c) : SB D g n c + r < SB D g n M := by
  have := SB_mono (D := D) (g := g) (n := n) (show c + 1 ≤ M by omega)
  rw [SB_s] at this
  omega
theorem Brd_all {D : Nat → Nat → Int} {g : Nat → Int × Int} {n M : Nat} {lab : Nat → Nat} (h : LsD D (n : Int)) (F l : Nat) : (BcTo D g n M lab (fC D g n M (M + 1)) F l ∨ UpI D g n M lab (SB D g n M) F l) ↔ BrdTo D g n M lab (fC D g n M (M + 1)) F l := by
  constructor
  · rintro (⟨s, q, h1, h2, h3, h4, h5⟩ | ⟨c, r, h1, h2, h3, h4, h5⟩)
    · exact ⟨s, q, h1, h2, h3, h4, h5.imp id Or.inl⟩
    · obtain ⟨ll, lr⟩ := lr_lt (g := g) h h1 r
      have n1 := nC_le (g := g) (M := M) (s := c) h
      have n2 := nC_le (g := g) (M := M) (s := c + 1) h
      have p1 := ps_le D g n M c c r
      have p2 := ps_le D g n M (c + 1) c r
      rcases h5 with h5 | h5
      · exact ⟨c, psC D g n M c c r, by omega, by omega, ll, h5, Or.inr (Or.inr ⟨c, Or.inl rfl, h1, r, h2, rfl, h4⟩)⟩
      · exact ⟨c + 1, psC D g n M (c + 1) c r, by omega, by omega, lr, h5, Or.inr (Or.inr ⟨c, Or.inr rfl, h1, r, h2, rfl, h4⟩)⟩
  · rintro ⟨s, q, h1, h2, h3, h4, h5 | h5 | ⟨c, hc, h6, r, h7, h8, h9⟩⟩
    · exact Or.inl ⟨s, q, h1, h2, h3, h4, Or.inl h5⟩
    · exact Or.inl ⟨s, q, h1, h2, h3, h4, Or.inr h5⟩
    · refine Or.inr ⟨c, r, h6, h7, SB_lt h6 h7, h9, ?_⟩
      rcases hc with hc | hc
      · subst hc
        left
        unfold lfC
        rw [h8]
        exact h4
      · subst hc
        right
        unfold rgC
        rw [h8]
        exact h4
theorem Nx_all {D : Nat → Nat → Int} {g : Nat → Int × Int} {n M : Nat} {lab : Nat → Nat} (h : LsD D (n : Int)) (F G : Nat) : (VtTo D g n M lab (fC D g n M (M + 1) + 1) F G ∨ HzI D g n M lab (SB D g n M) F G) ↔ NxR D g n M lab F G := by
  refine or_congr ⟨?_, ?_⟩ ⟨?_, ?_⟩
  · rintro ⟨s, q, h1, h2, h3, h4⟩
    refine ⟨s, q, h1, h2, ?_, h4⟩
    have fs := fC_s D g n M s
    have fm := fC_mono (D := D) (g := g) (n := n) (M := M) (show s + 1 ≤ M + 1 by omega)
    omega
  · rintro ⟨s, q, h1, h2, h3, h4⟩
    exact ⟨s, q, h1, h2, by omega, h4⟩
  · rintro ⟨c, r, h1, h2, h3, h4, h5⟩
    have n1 := nC_le (g := g) (M := M) (s := c) h
    have n2 := nC_le (g := g) (M := M) (s := c + 1) h
    have p1 := ps_le D g n M c c r
    have p2 := ps_le D g n M (c + 1) c r
    exact ⟨c, _, _, h1, by omega, by omega, Or.inl h1, ⟨r, ⟨h2, rfl, rfl⟩, h4⟩, h5⟩
  · rintro ⟨c, xa, xb, h1, h2, h3, -, ⟨r, ⟨r1, r2, r3⟩, h4⟩, h5⟩
    refine ⟨c, r, h1, r1, SB_lt h1 r1, h4, ?_⟩
    unfold lfC rgC
    rw [r2, r3]
    exact h5
/-- faces, as the class keeps them -/
def FcAt (t : Sg) (D : Nat → Nat → Int) (n M : Nat) (g : Nat → Int × Int) (lab : Nat → Nat) : Prop :=
  t 53 0 = (cntN (rootB lab) (fC D g n M (M + 1)) : Int) ∧ (∀ j, j < fC D g n M (M + 1) → t 55 j = (fno lab j : Int)) ∧ (∀ i, i < fC D g n M (M + 1) → rootB lab i = true → t 56 (cntN (rootB lab) i) = (i : Int)) ∧ ∀ F, F < cntN (rootB lab) (fC D g n M (M + 1)) → t 57 F = (cntN (fun j => fno lab j == F) (fC D g n M (M + 1)) : Int) ∧ t 58 F = bitsOf (brdB D g n M lab (fC D g n M (M + 1)) F) n ∧ t 59 F = bts (fun G => pB (NxR D g n M lab F G)) (cntN (rootB lab) (fC D g n M (M + 1)))
theorem s_X0_join {s : Sg} {D : Nat → Nat → Int} {n m M : Nat} {f : Nat → Int × Int × Int × Int} {g : Nat → Int × Int} {lab2 : Nat → Nat} {post : Sg → Prop} (hS : Swp D n m f M g) (hl2 : LabOf (nxR D f n) m lab2) (hSl : SlAt s D n M g) (hSt : StA s D n M g)
    (hp : ∀ (t : Sg) (lab : Nat → Nat), (∀ c, (c < 53 ∨ 59 < c) → t c = s c) → LabOf (JnR D g n M) (fC D g n M (M + 1)) lab → cntN (rootB lab) (fC D g n M (M + 1)) ≤ 46 → FcAt t D n M g lab → post t) : w_X0_join s post := by
  have h := hS.1
  have hn := h.1
  have hM := hS.2.2.2.2
  have fN := (fC_le (g := g) (M := M) h (M + 1)).2
  refine s_jroots hS hSl hSt fun t p to hpl ta hl => ?_
  have K46 : cntN (rootB (rt p)) (fC D g n M (M + 1)) ≤ 46 := by
    have e1 := faces_eu hS hl hl2
    have e2 := pc_bound h hS.2.1 hl2
    have e3 : cntN (rootB (rt p)) (fC D g n M (M + 1)) = cntN (fun i => rt p i == i) (fC D g n M (M + 1)) := rfl
    omega
  rw [to 38 (by omega), hSl.2.1]
  refine s_X0_number (by omega) hpl ta hl (by omega) fun u uo u53 u55 u56 uF => ?_
  have u_of : ∀ c, (c < 53 ∨ 59 < c) → u c = s c := fun c hc => by rw [uo c (by omega), to c (by omega)]
  have Sl : SlAt u D n M g := by
    obtain ⟨l0, l1, lx, lf, lc⟩ := hSl
    exact ⟨by rw [u_of 38 (by omega)]; exact l0, by rw [u_of 38 (by omega)]; exact l1, fun b hb => by rw [u_of 39 (by omega), u_of 40 (by omega)]; exact lx b hb, fun s' hs => by rw [u_of 41 (by omega)]; exact lf s' hs, fun s' hs q hq => by rw [u_of 42 (by omega), u_of 43 (by omega), u_of 44 (by omega)]; exact lc s' hs q hq⟩
  refine s_X0_boundByCells hS Sl hl rfl (by omega) u55 (fun F hF => (uF F hF).2) fun v vo vF => ?_
  have St : StA v D n M g := by
    obtain ⟨l0, l1⟩ := hSt
    refine ⟨by rw [vo 45 (by omega) (by omega), u_of 45 (by omega)]; exact l0, fun c hc r hr => ?_⟩
    rw [vo 46 (by omega) (by omega), vo 47 (by omega) (by omega), vo 48 (by omega) (by omega), u_of 46 (by omega), u_of 47 (by omega), u_of 48 (by omega)]
    exact l1 c hc r hr
  refine s_X0_boundByUprights hS St hl rfl (by omega) (fun j hj => by rw [vo 55 (by omega) (by omega)]; exact u55 j hj) vF fun w wo wF => ?_
  refine hp w (rt p) (fun c hc => by rw [wo c (by omega) (by omega), vo c (by omega) (by omega), u_of c hc]) hl K46 ⟨by rw [wo 53 (by omega) (by omega), vo 53 (by omega) (by omega)]; exact u53, fun j hj => by rw [wo 55 (by omega) (by omega), vo 55 (by omega) (by omega)]; exact u55 j hj, fun i hi hr => by rw [wo 56 (by omega) (by omega), vo 56 (by omega) (by omega)]; exact u56 i hi hr, fun F hF => ⟨by rw [wo 57 (by omega) (by omega), vo 57 (by omega) (by omega)]; exact (uF F hF).1, ?_, ?_⟩⟩
  · rw [(wF F hF).1]
    refine bitsOf_congr fun l hl' => bool_ext ?_
    rw [pB_iff, brdB_iff]
    exact Brd_all h F l
  · rw [(wF F hF).2]
    exact bts_congr fun G hG => pB_congr (Nx_all h F G)
