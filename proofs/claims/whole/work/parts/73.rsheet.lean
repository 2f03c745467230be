/-! the reference's sheet, up to the joining of cells -/
def RSl (t : Sg) (D : Nat → Nat → Int) (n m M : Nat) (f : Nat → Int × Int × Int × Int) (g : Nat → Int × Int) : Prop :=
  RPt t D n m f ∧ t 68 22 = ((M + 1 : Nat) : Int) ∧ t 68 23 = (fC D g n M (M + 1) : Int) ∧ (∀ b, b < M → t 83 (b + 1) = (g b).1 ∧ t 84 (b + 1) = (g b).2) ∧ (∀ s, s ≤ M + 1 → t 85 s = (fC D g n M s : Int)) ∧ ∀ s, s ≤ M → ∀ q, q < nC D g n M s → t 86 (fC D g n M s + q) = (s : Int) ∧ t 87 (fC D g n M s + q) = loS D g n M s q ∧ t 88 (fC D g n M s + q) = hiS D g n M s q
def FrS (s t : Sg) : Prop := (∀ c, c ≠ 68 → (c < 73 ∨ (76 < c ∧ c < 83) ∨ 91 < c) → t c = s c) ∧ ∀ o, (o < 5 ∨ (9 < o ∧ o < 22) ∨ 28 < o) → t 68 o = s 68 o
theorem s_X10_tellSheetA {s : Sg} {D : Nat → Nat → Int} {n m M : Nat} {f : Nat → Int × Int × Int × Int} {g : Nat → Int × Int} {post : Sg → Prop} (hS : Swp D n m f M g) (hn : s 68 0 = (n : Int)) (hat : LnAt s 69 (n : Int) D)
    (hp : ∀ t : Sg, FrS s t → RSl t D n m M f g → w_X10_joinCells t (fun u => post u)) : w_X10_tellSheet s post := by
  unfold w_X10_tellSheet
  have h := hS.1
  have hP := hS.2.1
  have hm := hS.2.2.1
  have hM := hS.2.2.2.2
  have hn10 := h.1
  refine s_X10_tellPoints h hn hat hP fun t1 o1 o2 hsz hpt => ?_
  rintro _ rfl
  refine lr_1s (fun v t => ∃ k M' : Nat, v = (k : Int) ∧ k ≤ m ∧ (∀ c, c ≠ 68 → (c < 73 ∨ (76 < c ∧ c < 83) ∨ 84 < c) → t c = s c) ∧ (∀ o, (o < 5 ∨ (9 < o ∧ o ≠ 22)) → t 68 o = s 68 o) ∧ t 68 9 = (m : Int) ∧ PtAt t 73 74 75 76 m f ∧ t 68 22 = ((M' + 1 : Nat) : Int) ∧ XsTo t 83 84 1 M' f k) (fun v _ => ((m : Int) - v).toNat) ?_ 0 _ ⟨0, 0, rfl, Nat.zero_le _, fun c h1 h2 => by rw [up_ne _ _ _ h1, o1 c h1 (by omega)], fun o h1 => by rw [up_apply, if_neg (by omega), o2 o (by omega)], by rw [up_apply, if_neg (by omega)]; exact hsz, fun j hj => by rw [up_ne _ _ _ (by omega), up_ne _ _ _ (by omega), up_ne _ _ _ (by omega), up_ne _ _ _ (by omega)]; exact hpt j hj, by rw [up_apply, if_pos ⟨rfl, rfl⟩]; rfl, XsTo_0 _ _ _ _ _⟩
  rintro again _ t ⟨k, M', rfl, hk, to, to2, t9, tpt, t22, tX⟩ ih
  rw [t9]
  refine ⟨fun c => ?_, fun c => ?_⟩
  · have e : k = m := by omega
    subst e
    clear ih
    have tXe := XsTo_end tX
    obtain ⟨eM, eg⟩ := Xs_one tXe hS.2.2.2.1
    subst eM
    have tx : ∀ b, b < M' → t 83 (b + 1) = (g b).1 ∧ t 84 (b + 1) = (g b).2 := fun b hb => ⟨congrArg Prod.fst (eg b hb), congrArg Prod.snd (eg b hb)⟩
    clear tX tXe eg
    rintro _ rfl
    have f66 := fC_le (g := g) (M := M') h
    refine lr_1s (fun v u => ∃ s' : Nat, v = (s' : Int) ∧ s' ≤ M' + 1 ∧ (∀ c, c ≠ 68 → c ≠ 85 → c ≠ 86 → c ≠ 87 → c ≠ 88 → c ≠ 90 → u c = t c) ∧ (∀ o, o ≠ 23 → u 68 o = t 68 o) ∧ u 68 23 = (fC D g n M' s' : Int) ∧ (∀ s, s < s' → u 85 s = (fC D g n M' s : Int)) ∧ ∀ s, s < s' → ∀ q, q < nC D g n M' s → u 86 (fC D g n M' s + q) = (s : Int) ∧ u 87 (fC D g n M' s + q) = loS D g n M' s q ∧ u 88 (fC D g n M' s + q) = hiS D g n M' s q) (fun v _ => ((M' : Int) + 1 - v).toNat) ?_ 0 _ ⟨0, rfl, Nat.zero_le _, fun c h1 _ _ _ _ _ => up_ne _ _ _ h1, fun o h1 => by rw [up_apply, if_neg (fun z => h1 z.2)], by rw [up_apply, if_pos ⟨rfl, rfl⟩]; rfl, fun s hs => absurd hs (Nat.not_lt_zero _), fun s hs => absurd hs (Nat.not_lt_zero _)⟩
    rintro again2 _ u ⟨s', rfl, hs', uo, uo2, u23, u85, uc⟩ ih2
    have u22 : u 68 22 = ((M' + 1 : Nat) : Int) := by rw [uo2 22 (by omega)]; exact t22
    rw [u22]
    have b1 : ok32 ((s' : Int) + 1) := ⟨by omega, by omega⟩
    have b2 : (s' : Int) + 1 = ((s' + 1 : Nat) : Int) := by omega
    refine ⟨fun c2 => ?_, fun c2 => ?_⟩
    · have e : s' = M' + 1 := by omega
      subst e
      rw [u23, Int.toNat_natCast]
      refine ⟨by omega, ?_⟩
      rintro _ rfl
      refine hp _ ⟨fun c k1 k2 => by rw [up_ne _ _ _ (by omega), uo c k1 (by omega) (by omega) (by omega) (by omega) (by omega), to c k1 (by omega)], fun o k1 => by rw [up_ne _ _ _ (by omega), uo2 o (by omega), to2 o (by omega)]⟩ ⟨⟨?_, ?_, ?_, ?_⟩, ?_, ?_, ?_, ?_, ?_⟩
      · rw [up_ne _ _ _ (by omega), uo2 0 (by omega), to2 0 (by omega)]; exact hn
      · intro i hi
        rw [up_ne _ _ _ (by omega), up_ne _ _ _ (by omega), up_ne _ _ _ (by omega), up_ne _ _ _ (by omega), uo 69 (by omega) (by omega) (by omega) (by omega) (by omega) (by omega), uo (69 + 1) (by omega) (by omega) (by omega) (by omega) (by omega) (by omega), uo (69 + 2) (by omega) (by omega) (by omega) (by omega) (by omega) (by omega), uo (69 + 3) (by omega) (by omega) (by omega) (by omega) (by omega) (by omega), to 69 (by omega) (by omega), to (69 + 1) (by omega) (by omega), to (69 + 2) (by omega) (by omega), to (69 + 3) (by omega) (by omega)]
        exact hat i hi
      · rw [up_ne _ _ _ (by omega), uo2 9 (by omega)]; exact t9
      · intro j hj
        rw [up_ne _ _ _ (by omega), up_ne _ _ _ (by omega), up_ne _ _ _ (by omega), up_ne _ _ _ (by omega), uo 73 (by omega) (by omega) (by omega) (by omega) (by omega) (by omega), uo 74 (by omega) (by omega) (by omega) (by omega) (by omega) (by omega), uo 75 (by omega) (by omega) (by omega) (by omega) (by omega) (by omega), uo 76 (by omega) (by omega) (by omega) (by omega) (by omega) (by omega)]
        exact tpt j hj
      · rw [up_ne _ _ _ (by omega)]; exact u22
      · rw [up_ne _ _ _ (by omega)]; exact u23
      · intro b hb
        rw [up_ne _ _ _ (by omega), up_ne _ _ _ (by omega), uo 83 (by omega) (by omega) (by omega) (by omega) (by omega) (by omega), uo 84 (by omega) (by omega) (by omega) (by omega) (by omega) (by omega)]
        exact tx b hb
      · intro s3 hs3
        rw [up_apply]
        by_cases e : s3 = M' + 1
        · rw [if_pos ⟨rfl, e⟩, e]
        · rw [if_neg (fun z => e z.2)]
          exact u85 s3 (by omega)
      · intro s3 hs3 q hq
        rw [up_ne _ _ _ (by omega), up_ne _ _ _ (by omega), up_ne _ _ _ (by omega)]
        exact uc s3 (by omega) q hq
    · have hsM : s' ≤ M' := by omega
      have fk := f66 s'
      have nk := nC_le (g := g) (M := M') (s := s') h
      refine ⟨by omega, fun w ew => ?_⟩
      rw [Int.toNat_natCast, u23] at ew
      have wo : ∀ c, c ≠ 85 → w c = u c := fun c hc => by rw [ew, up_ne _ _ _ hc]
      have w85 : ∀ s, s < s' + 1 → w 85 s = (fC D g n M' s : Int) := fun s3 hs => by
        rw [ew, up_apply]
        by_cases e : s3 = s'
        · rw [if_pos ⟨rfl, e⟩, e]
        · rw [if_neg (fun z => e z.2)]
          exact u85 s3 (by omega)
      clear ew
      have w23 : w 68 23 = (fC D g n M' s' : Int) := by rw [wo 68 (by omega)]; exact u23
      have fin : ∀ (x : Sg), (∀ c, c ≠ 68 → c ≠ 86 → c ≠ 87 → c ≠ 88 → c ≠ 90 → x c = w c) → (∀ o, o ≠ 23 → x 68 o = w 68 o) → x 68 23 = ((fC D g n M' s' + nC D g n M' s' : Nat) : Int) → (∀ j, j < fC D g n M' s' → x 86 j = w 86 j ∧ x 87 j = w 87 j ∧ x 88 j = w 88 j) → (∀ q, q < nC D g n M' s' → x 86 (fC D g n M' s' + q) = (s' : Int) ∧ x 87 (fC D g n M' s' + q) = loS D g n M' s' q ∧ x 88 (fC D g n M' s' + q) = hiS D g n M' s' q) → ∀ v, v = w32 ((s' : Int) + 1) → again2 v x := by
        intro x w1 w2 w3 w4 w5 v ev
        rw [ev, w32_id b1, b2]
        clear ev
        refine ih2 _ _ ⟨s' + 1, rfl, by omega, fun c k1 k2 k3 k4 k5 k6 => by rw [w1 c k1 k3 k4 k5 k6, wo c k2, uo c k1 k2 k3 k4 k5 k6], fun o k1 => by rw [w2 o k1, wo 68 (by omega), uo2 o k1], by rw [w3, fC_s], fun s3 hs => by rw [w1 85 (by omega) (by omega) (by omega) (by omega) (by omega)]; exact w85 s3 hs, fun s3 hs q hq => ?_⟩ (by omega)
        by_cases e : s3 = s'
        · subst e
          exact w5 q hq
        · have lt : fC D g n M' s3 + q < fC D g n M' s' := by
            have := fC_mono (D := D) (g := g) (n := n) (M := M') (show s3 + 1 ≤ s' by omega)
            rw [fC_s] at this
            omega
          obtain ⟨x1, x2, x3⟩ := w4 _ lt
          rw [x1, x2, x3, wo 86 (by omega), wo 87 (by omega), wo 88 (by omega)]
          exact uc s3 (by omega) q hq
      have edge : (s' = 0 ∨ M' ≤ s') → w_X10_addCell w (s' : Int) 0 0 (fun s_19 => ∀ v1_17, v1_17 = w32 ((s' : Int) + 1) → again2 v1_17 s_19) := by
        intro z
        have en : nC D g n M' s' = 1 := by unfold nC; rw [if_pos z]
        refine s_X10_addCell (lo := loS D g n M' s') (hi := hiS D g n M' s') (CSt_0 w23) (by omega) rfl (by unfold loS; rw [if_pos z]) (by unfold hiS; rw [if_pos z]) fun x hx => ?_
        obtain ⟨w1, w2, w3, w4, w5⟩ := hx
        exact fin x (fun c k1 k2 k3 k4 _ => w1 c k1 k2 k3 k4) w2 (by rw [w3, en]) w4 (fun q hq => w5 q (by omega))
      have e22 : w 68 22 = ((M' + 1 : Nat) : Int) := by rw [wo 68 (by omega)]; exact u22
      unfold jn
      rw [e22, w32_id (show ok32 (((M' + 1 : Nat) : Int) - 1) from ⟨by omega, by omega⟩)]
      refine ⟨fun z => edge (by omega), fun z1 => ⟨fun z2 => ?_, fun z => edge (by omega)⟩⟩
      obtain ⟨b, rfl⟩ : ∃ b, s' = b + 1 := ⟨s' - 1, by omega⟩
      have hb : b + 1 < M' := by omega
      have en : nC D g n M' (b + 1) = gcN D g n b + 1 := by unfold nC; rw [if_neg (by omega), Nat.add_sub_cancel]
      have wx : ∀ b, b < M' → w 83 (b + 1) = (g b).1 ∧ w 84 (b + 1) = (g b).2 := fun b hb => by
        rw [wo 83 (by omega), wo 84 (by omega), uo 83 (by omega) (by omega) (by omega) (by omega) (by omega) (by omega), uo 84 (by omega) (by omega) (by omega) (by omega) (by omega) (by omega)]
        exact tx b hb
      refine s_X10_cut (C0 := fC D g n M' (b + 1)) hS hb (by rw [wo 68 (by omega), uo2 0 (by omega), to2 0 (by omega)]; exact hn) (fun i hi => ?_) (wx b (by omega)) (wx (b + 1) hb) w23 (by omega) fun y x yo hx => ?_
      · rw [wo 69 (by omega), wo (69 + 1) (by omega), wo (69 + 2) (by omega), wo (69 + 3) (by omega), uo 69 (by omega) (by omega) (by omega) (by omega) (by omega) (by omega), uo (69 + 1) (by omega) (by omega) (by omega) (by omega) (by omega) (by omega), uo (69 + 2) (by omega) (by omega) (by omega) (by omega) (by omega) (by omega), uo (69 + 3) (by omega) (by omega) (by omega) (by omega) (by omega) (by omega), to 69 (by omega) (by omega), to (69 + 1) (by omega) (by omega), to (69 + 2) (by omega) (by omega), to (69 + 3) (by omega) (by omega)]
        exact hat i hi
      · obtain ⟨x1, x2, x3, x4, x5⟩ := hx
        refine fin x (fun c k1 k2 k3 k4 k5 => by rw [x1 c k1 k2 k3 k4, yo c k5]) (fun o k1 => by rw [x2 o k1, yo 68 (by omega)]) (by rw [x3, en]) (fun j hj => ?_) (fun q hq => ?_)
        · rw [(x4 j hj).1, (x4 j hj).2.1, (x4 j hj).2.2, yo 86 (by omega), yo 87 (by omega), yo 88 (by omega)]
          exact ⟨rfl, rfl, rfl⟩
        · rw [en] at hq
          unfold loS hiS
          rw [if_neg (by omega), if_neg (by omega), Nat.add_sub_cancel]
          exact x5 q hq
  · have hk2 : k < m := by omega
    have hMk := tX.2.2.2.1
    have b1 : ok32 ((k : Int) + 1) := ⟨by omega, by omega⟩
    have b2 : (k : Int) + 1 = ((k + 1 : Nat) : Int) := by omega
    obtain ⟨p1, p2, -, -⟩ := tpt k hk2
    have go : ∀ (u : Sg) (M2 : Nat), (∀ c, c ≠ 68 → c ≠ 83 → c ≠ 84 → u c = t c) → (∀ o, o ≠ 22 → u 68 o = t 68 o) → u 68 22 = ((M2 + 1 : Nat) : Int) → XsTo u 83 84 1 M2 f (k + 1) → ∀ v, v = w32 ((k : Int) + 1) → again v u := by
      intro u M2 k1 k2 k3 k4 v ev
      rw [ev, w32_id b1, b2]
      clear ev
      refine ih _ _ ⟨k + 1, M2, rfl, by omega, fun c c1 c2 => by rw [k1 c c1 (by omega) (by omega), to c c1 c2], fun o c1 => by rw [k2 o (by omega), to2 o c1], by rw [k2 9 (by omega)]; exact t9, fun j hj => ?_, k3, k4⟩ (by omega)
      rw [k1 73 (by omega) (by omega) (by omega), k1 74 (by omega) (by omega) (by omega), k1 75 (by omega) (by omega) (by omega), k1 76 (by omega) (by omega) (by omega)]
      exact tpt j hj
    have new : (k ≠ 0 → crX (f (k - 1)) (f k) ≠ 0) → (0 ≤ (k : Int) ∧ (k : Int) < 80) ∧ ((0 ≤ t 68 22 ∧ t 68 22 < 81) ∧ (∀ s_27, s_27 = up t 83 ((t 68 22).toNat) (t 73 (k : Int).toNat) → ((0 ≤ (k : Int) ∧ (k : Int) < 80) ∧ ((0 ≤ s_27 68 22 ∧ s_27 68 22 < 81) ∧ (∀ s_30, s_30 = up s_27 84 ((s_27 68 22).toNat) (s_27 74 (k : Int).toNat) → (∀ s_31, s_31 = up s_30 68 22 (w32 ((s_30 68 22) + 1)) → (∀ v1_23, v1_23 = w32 ((k : Int) + 1) → again v1_23 s_31))))))) := by
      intro hne
      rw [t22, Int.toNat_natCast, Int.toNat_natCast]
      refine ⟨by omega, by omega, fun s12 e12 => ?_⟩
      have a1 : s12 68 = t 68 := by rw [e12, up_ne _ _ _ (by omega)]
      have a2 : s12 74 = t 74 := by rw [e12, up_ne _ _ _ (by omega)]
      rw [a1, t22, Int.toNat_natCast]
      refine ⟨by omega, by omega, fun s15 e15 => ?_⟩
      have a3 : s15 68 = t 68 := by rw [e15, up_ne _ _ _ (by omega), a1]
      rw [a3, t22, w32_id (show ok32 (((M' + 1 : Nat) : Int) + 1) from ⟨by omega, by omega⟩)]
      intro s16 e16
      refine go s16 (M' + 1) (fun c c1 c2 c3 => by rw [e16, up_ne _ _ _ c1, e15, up_ne _ _ _ c3, e12, up_ne _ _ _ c2]) (fun o o1 => by rw [e16, up_apply, if_neg (fun z => o1 z.2), a3]) (by rw [e16, up_apply, if_pos ⟨rfl, rfl⟩]; omega) ?_
      refine XsTo_new (by decide) tX hP.1 hk2 hne (fun j => ?_) (fun j => ?_)
      · rw [e16, up_ne _ _ _ (by omega), e15, up_ne _ _ _ (by omega), e12, up_apply, p1]
        simp
      · rw [e16, up_ne _ _ _ (by omega), e15, up_apply, a2, p2, e12, up_ne _ _ _ (by omega)]
        simp
    unfold jn
    refine ⟨fun z => new fun hk0 => absurd (show k = 0 by omega) hk0, fun z => ?_⟩
    have hk0 : k ≠ 0 := by omega
    have e1 : w32 ((k : Int) - 1) = ((k - 1 : Nat) : Int) := by rw [w32_id (show ok32 ((k : Int) - 1) from ⟨by omega, by omega⟩)]; omega
    obtain ⟨p3, p4, -, -⟩ := tpt (k - 1) (by omega)
    have hb1 := (hP.1.2 (k - 1) (by omega))
    have hb2 := (hP.1.2 k hk2)
    rw [e1]
    clear e1
    refine ⟨by omega, by omega, by omega, by omega, ?_⟩
    have ag : w_X10_against (f k).1 (f k).2.1 (f (k - 1)).1 (f (k - 1)).2.1 (fun r_36 => (¬ r_36 = 0 → (0 ≤ (k : Int) ∧ (k : Int) < 80) ∧ ((0 ≤ t 68 22 ∧ t 68 22 < 81) ∧ (∀ s_27, s_27 = up t 83 ((t 68 22).toNat) (t 73 (k : Int).toNat) → ((0 ≤ (k : Int) ∧ (k : Int) < 80) ∧ ((0 ≤ s_27 68 22 ∧ s_27 68 22 < 81) ∧ (∀ s_30, s_30 = up s_27 84 ((s_27 68 22).toNat) (s_27 74 (k : Int).toNat) → (∀ s_31, s_31 = up s_30 68 22 (w32 ((s_30 68 22) + 1)) → (∀ v1_23, v1_23 = w32 ((k : Int) + 1) → again v1_23 s_31)))))))) ∧ (r_36 = 0 → ∀ v1_23, v1_23 = w32 ((k : Int) + 1) → again v1_23 t)) := by
      refine s_X10_against (PlB_x hb2.1 hb1.1) (PlB_x hb1.1 hb2.1) (by decide) ?_
      have sg := sgn_iff ((f k).1 * (f (k - 1)).2.1 - (f (k - 1)).1 * (f k).2.1)
      have sw := crX_sw (f (k - 1)) (f k)
      refine ⟨fun z2 => new fun _ q => z2 (sg.2.1.mpr ?_), fun z2 => go t M' (fun _ _ _ _ => rfl) (fun _ _ => rfl) t22 (XsTo_same tX hk0 ?_)⟩
      · unfold crX at sw q
        omega
      · refine (pair_eq hb1.1 hb2.1 hb1.2 hb2.2 ?_).symm
        have q := sg.2.1.mp z2
        unfold crX at sw ⊢
        omega
    have e73 : t 73 (k : Int).toNat = (f k).1 := by rw [Int.toNat_natCast]; exact p1
    have e74 : t 74 (k : Int).toNat = (f k).2.1 := by rw [Int.toNat_natCast]; exact p2
    have e73' : t 73 ((k - 1 : Nat) : Int).toNat = (f (k - 1)).1 := by rw [Int.toNat_natCast]; exact p3
    have e74' : t 74 ((k - 1 : Nat) : Int).toNat = (f (k - 1)).2.1 := by rw [Int.toNat_natCast]; exact p4
    rw [e73] at ag
    rw [e73, e74, e73', e74']
    exact ag
