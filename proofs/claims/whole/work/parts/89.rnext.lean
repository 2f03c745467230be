/-! the reference: faces that are next to each other -/
def lkR (lab : Nat → Nat) (a b F G : Nat) : Prop := F ≠ G ∧ ((fno lab a = F ∧ fno lab b = G) ∨ (fno lab a = G ∧ fno lab b = F))
def NxAt (t : Sg) (N : Nat) (P : Nat → Nat → Prop) : Prop := ∀ F G, F < N → G < N → BV (t (93 + F) G) (P F G)
theorem NxAt_congr {t u : Sg} {N : Nat} {P Q : Nat → Nat → Prop} (h : NxAt t N P) (e : ∀ c, 93 ≤ c → c < 173 → u c = t c) (hN : N ≤ 80) (hPQ : ∀ F G, P F G ↔ Q F G) : NxAt u N Q := by
  intro F G hF hG
  rw [e _ (by omega) (by omega)]
  have := h F G hF hG
  rw [← hPQ]
  exact this
def NrN (s t : Sg) : Prop := (∀ c, c ≠ 68 → (c < 93 ∨ 172 < c) → t c = s c) ∧ ∀ o, (o < 33 ∨ 36 < o) → t 68 o = s 68 o
theorem RSl_N {s t : Sg} {D : Nat → Nat → Int} {n m M : Nat} {f : Nat → Int × Int × Int × Int} {g : Nat → Int × Int} (h : RSl s D n m M f g) (hs : NrN s t) : RSl t D n m M f g := by
  obtain ⟨⟨a1, a2, a3, a4⟩, h1, h2, h3, h4, h5⟩ := h
  refine ⟨⟨by rw [hs.2 0 (by omega)]; exact a1, fun i hi => ?_, by rw [hs.2 9 (by omega)]; exact a3, fun j hj => ?_⟩, by rw [hs.2 22 (by omega)]; exact h1, by rw [hs.2 23 (by omega)]; exact h2, fun b hb => by rw [hs.1 83 (by omega) (by omega), hs.1 84 (by omega) (by omega)]; exact h3 b hb, fun b hb => by rw [hs.1 85 (by omega) (by omega)]; exact h4 b hb, fun b hb q hq => by rw [hs.1 86 (by omega) (by omega), hs.1 87 (by omega) (by omega), hs.1 88 (by omega) (by omega)]; exact h5 b hb q hq⟩
  · rw [hs.1 69 (by omega) (by omega), hs.1 (69 + 1) (by omega) (by omega), hs.1 (69 + 2) (by omega) (by omega), hs.1 (69 + 3) (by omega) (by omega)]
    exact a2 i hi
  · rw [hs.1 73 (by omega) (by omega), hs.1 74 (by omega) (by omega), hs.1 75 (by omega) (by omega), hs.1 76 (by omega) (by omega)]
    exact a4 j hj
theorem RFc_N {s t : Sg} {D : Nat → Nat → Int} {n M : Nat} {g : Nat → Int × Int} {lab : Nat → Nat} (h : RFc s D n M g lab) (hs : NrN s t) : RFc t D n M g lab := by
  obtain ⟨h1, h2, h3⟩ := h
  exact ⟨by rw [hs.2 24 (by omega)]; exact h1, fun j hj => by rw [hs.1 89 (by omega) (by omega)]; exact h2 j hj, fun i hi hr => by rw [hs.1 91 (by omega) (by omega)]; exact h3 i hi hr⟩
/-- numbers of faces are below how many there are -/
theorem fno_lt {R : Nat → Nat → Prop} {N : Nat} {lab : Nat → Nat} (hl : LabOf R N lab) {j : Nat} (hj : j < N) : fno lab j < cntN (rootB lab) N := by
  have l := hl.1 j hj
  refine cnt_lt (by omega) ?_
  unfold rootB
  rw [beq_iff_eq]
  exact Lab_root hl hj
theorem s_X10_isNext {s : Sg} {N K a b : Nat} {lab : Nat → Nat} {P : Nat → Nat → Prop} {R : Nat → Nat → Prop} {post : Sg → Prop} (hl : LabOf R N lab) (hN : N ≤ 900) (hK : K = cntN (rootB lab) N) (hK2 : K ≤ 80) (h89 : ∀ j, j < N → s 89 j = (fno lab j : Int)) (ha : a < N) (hb : b < N) (hP : NxAt s K P)
    (hp : ∀ t, (∀ c, (c < 93 ∨ 172 < c) → t c = s c) → NxAt t K (fun F G => P F G ∨ lkR lab a b F G) → post t) : w_X10_isNext s (a : Int) (b : Int) post := by
  have fa := fno_lt hl ha
  have fb := fno_lt hl hb
  rw [← hK] at fa fb
  unfold w_X10_isNext
  rw [Int.toNat_natCast, Int.toNat_natCast, h89 a ha, h89 b hb]
  refine ⟨by omega, by omega, fun z => ⟨by omega, by omega, by omega, by omega, fun t et => ?_⟩, fun z => ?_⟩
  · rw [Int.toNat_natCast, Int.toNat_natCast] at et
    have t89 : t 89 = s 89 := by rw [et, up_ne _ _ _ (by omega)]
    rw [t89, h89 a ha, h89 b hb, Int.toNat_natCast, Int.toNat_natCast]
    refine ⟨by omega, by omega, by omega, by omega, fun u eu => ?_⟩
    refine hp u (fun c hc => by rw [eu, up_ne _ _ _ (by omega), et, up_ne _ _ _ (by omega)]) fun F G hF hG => ?_
    have h0 := hP F G hF hG
    rw [eu, up_apply, et, up_apply]
    by_cases e1 : 93 + F = 93 + fno lab b ∧ G = fno lab a
    · rw [if_pos e1]
      exact Or.inl ⟨rfl, Or.inr ⟨by omega, Or.inr ⟨by omega, by omega⟩⟩⟩
    · rw [if_neg e1]
      by_cases e2 : 93 + F = 93 + fno lab a ∧ G = fno lab b
      · rw [if_pos e2]
        exact Or.inl ⟨rfl, Or.inr ⟨by omega, Or.inl ⟨by omega, by omega⟩⟩⟩
      · rw [if_neg e2]
        rcases h0 with ⟨e, y⟩ | ⟨e, y⟩
        · exact Or.inl ⟨e, Or.inl y⟩
        · refine Or.inr ⟨e, fun x => x.elim y ?_⟩
          rintro ⟨-, ⟨x1, x2⟩ | ⟨x1, x2⟩⟩
          · exact e2 ⟨by omega, by omega⟩
          · exact e1 ⟨by omega, by omega⟩
  · refine hp s (fun c _ => rfl) fun F G hF hG => ?_
    rcases hP F G hF hG with ⟨e, y⟩ | ⟨e, y⟩
    · exact Or.inl ⟨e, Or.inl y⟩
    · refine Or.inr ⟨e, fun x => x.elim y ?_⟩
      rintro ⟨x0, ⟨x1, x2⟩ | ⟨x1, x2⟩⟩ <;> omega
/-- cells with a line between in a slab; cells at an x with an upright line between -/
def VtTo (D : Nat → Nat → Int) (g : Nat → Int × Int) (n M : Nat) (lab : Nat → Nat) (k F G : Nat) : Prop := ∃ s q, s ≤ M ∧ q + 1 < nC D g n M s ∧ fC D g n M s + q + 1 < k ∧ lkR lab (fC D g n M s + q) (fC D g n M s + q + 1) F G
def Cvd (D : Nat → Nat → Int) (g : Nat → Int × Int) (n M c xa xb : Nat) : Prop := ∃ r, InR D g n M c xa xb r ∧ cov D g n c r = true
def HzTo (D : Nat → Nat → Int) (g : Nat → Int × Int) (n M : Nat) (lab : Nat → Nat) (k qa qb F G : Nat) : Prop := ∃ c xa xb, c < M ∧ xa < nC D g n M c ∧ xb < nC D g n M (c + 1) ∧ (c < k ∨ (c = k ∧ (xa < qa ∨ (xa = qa ∧ xb < qb)))) ∧ Cvd D g n M c xa xb ∧ lkR lab (fC D g n M c + xa) (fC D g n M (c + 1) + xb) F G
def NxR (D : Nat → Nat → Int) (g : Nat → Int × Int) (n M : Nat) (lab : Nat → Nat) (F G : Nat) : Prop := VtTo D g n M lab (fC D g n M (M + 1)) F G ∨ HzTo D g n M lab M 0 0 F G
theorem Hz_s {D : Nat → Nat → Int} {g : Nat → Int × Int} {n M : Nat} {lab : Nat → Nat} {k qa qb : Nat} (hk : k < M) (ha : qa < nC D g n M k) (hb : qb < nC D g n M (k + 1)) (F G : Nat) : HzTo D g n M lab k qa (qb + 1) F G ↔ (HzTo D g n M lab k qa qb F G ∨ (Cvd D g n M k qa qb ∧ lkR lab (fC D g n M k + qa) (fC D g n M (k + 1) + qb) F G)) := by
  constructor
  · rintro ⟨c, xa, xb, hc, h1, h2, h3, h4, e1⟩
    by_cases z : c = k ∧ xa = qa ∧ xb = qb
    · obtain ⟨rfl, rfl, rfl⟩ := z
      exact Or.inr ⟨h4, e1⟩
    · exact Or.inl ⟨c, xa, xb, hc, h1, h2, by omega, h4, e1⟩
  · rintro (⟨c, xa, xb, hc, h1, h2, h3, h4, e1⟩ | ⟨h4, e1⟩)
    · exact ⟨c, xa, xb, hc, h1, h2, by omega, h4, e1⟩
    · exact ⟨k, qa, qb, hk, ha, hb, by omega, h4, e1⟩
theorem Hz_row {D : Nat → Nat → Int} {g : Nat → Int × Int} {n M : Nat} {lab : Nat → Nat} {k qa : Nat} (F G : Nat) : HzTo D g n M lab k qa (nC D g n M (k + 1)) F G ↔ HzTo D g n M lab k (qa + 1) 0 F G := by
  constructor
  · rintro ⟨c, xa, xb, hc, h1, h2, h3, h4, e1⟩
    exact ⟨c, xa, xb, hc, h1, h2, by omega, h4, e1⟩
  · rintro ⟨c, xa, xb, hc, h1, h2, h3, h4, e1⟩
    refine ⟨c, xa, xb, hc, h1, h2, ?_, h4, e1⟩
    by_cases z : c = k
    · subst z; omega
    · omega
theorem Hz_col {D : Nat → Nat → Int} {g : Nat → Int × Int} {n M : Nat} {lab : Nat → Nat} {k : Nat} (F G : Nat) : HzTo D g n M lab k (nC D g n M k) 0 F G ↔ HzTo D g n M lab (k + 1) 0 0 F G := by
  constructor
  · rintro ⟨c, xa, xb, hc, h1, h2, h3, h4, e1⟩
    exact ⟨c, xa, xb, hc, h1, h2, by omega, h4, e1⟩
  · rintro ⟨c, xa, xb, hc, h1, h2, h3, h4, e1⟩
    refine ⟨c, xa, xb, hc, h1, h2, ?_, h4, e1⟩
    by_cases z : c = k
    · subst z; omega
    · omega
theorem s_X10_tellNext {s : Sg} {D : Nat → Nat → Int} {n m M : Nat} {f : Nat → Int × Int × Int × Int} {g : Nat → Int × Int} {lab : Nat → Nat} {post : Sg → Prop} (hS : Swp D n m f M g) (hR : RSl s D n m M f g) (hl : LabOf (JnR D g n M) (fC D g n M (M + 1)) lab) (hF : RFc s D n M g lab) (hK2 : cntN (rootB lab) (fC D g n M (M + 1)) ≤ 80)
    (hp : ∀ t, NrN s t → NxAt t (cntN (rootB lab) (fC D g n M (M + 1))) (NxR D g n M lab) → post t) : w_X10_tellNext s post := by
  have h := hS.1
  have hn := h.1
  have hM := hS.2.2.2.2
  have fl := fC_le (g := g) (M := M) h
  have fN := fl (M + 1)
  obtain ⟨K, hK⟩ : ∃ K, K = cntN (rootB lab) (fC D g n M (M + 1)) := ⟨_, rfl⟩
  rw [← hK] at hK2 hp
  have R24 : ∀ t, NrN s t → t 68 24 = (K : Int) := fun t ht => by rw [hK]; exact (RFc_N hF ht).1
  have RR : ∀ t, NrN s t → RSl t D n m M f g := fun t ht => RSl_N hR ht
  have nrr : ∀ t u, NrN s t → (∀ c, (c < 93 ∨ 172 < c) → u c = t c) → NrN s u := fun t u ht hu => ⟨fun c h1 h2 => by rw [hu c h2, ht.1 c h1 h2], fun o ho => by rw [hu 68 (by omega), ht.2 o ho]⟩
  unfold w_X10_tellNext
  refine lr_1s (fun v t => ∃ k : Nat, v = (k : Int) ∧ k ≤ K ∧ NrN s t ∧ ∀ F G, F < k → G < K → t (93 + F) G = 0) (fun v _ => ((K : Int) - v).toNat) ?_ 0 s ⟨0, rfl, Nat.zero_le _, ⟨fun _ _ _ => rfl, fun _ _ => rfl⟩, fun F G hF => absurd hF (Nat.not_lt_zero _)⟩
  rintro again _ t ⟨k, rfl, hk, ht, hz⟩ ih
  rw [R24 t ht]
  refine ⟨fun q => ?_, fun q => ?_⟩
  · have e : k = K := by omega
    subst e
    clear ih
    have N0 : NxAt t k (fun F G => VtTo D g n M lab 1 F G) := fun F G hF hG => Or.inr ⟨hz F G hF hG, fun ⟨s', q', h1, h2, h3, _⟩ => by omega⟩
    -- in the slabs
    refine lr_1s (fun v u => ∃ j : Nat, v = (j : Int) ∧ 1 ≤ j ∧ j ≤ fC D g n M (M + 1) ∧ NrN s u ∧ NxAt u k (fun F G => VtTo D g n M lab j F G)) (fun v _ => ((fC D g n M (M + 1) : Int) - v).toNat) ?_ 1 t ⟨1, rfl, Nat.le_refl _, by omega, ht, N0⟩
    rintro again2 _ u ⟨j, rfl, hj1, hj, hu, Nu⟩ ih2
    have Ru := RR u hu
    rw [Ru.2.2.1]
    refine ⟨fun q2 => ?_, fun q2 => ?_⟩
    · have e : j = fC D g n M (M + 1) := by omega
      subst e
      clear ih2
      refine lr_1s (fun v u => ∃ c : Nat, v = ((c + 1 : Nat) : Int) ∧ c ≤ M ∧ NrN s u ∧ NxAt u k (fun F G => VtTo D g n M lab (fC D g n M (M + 1)) F G ∨ HzTo D g n M lab c 0 0 F G)) (fun v _ => ((M : Int) + 1 - v).toNat) ?_ 1 u ⟨0, rfl, Nat.zero_le _, hu, NxAt_congr Nu (fun _ _ _ => rfl) hK2 (fun F G => ⟨Or.inl, fun z => z.resolve_right ?_⟩)⟩
      · rintro again3 _ w ⟨c, rfl, hc, hw, Nw⟩ ih3
        have Rw := RR w hw
        rw [Rw.2.1]
        refine ⟨fun q3 => ?_, fun q3 => ⟨?_, fun v2 ev2 => ?_⟩⟩
        · have e : c = M := by omega
          subst e
          exact hp w hw Nw
        · rw [w32_id ⟨by omega, by omega⟩]; omega
        · have hcM : c < M := by omega
          have ek : w32 (((c + 1 : Nat) : Int) - 1) = (c : Int) := by rw [w32_id ⟨by omega, by omega⟩]; omega
          have ek2 : w32 (((c + 1 : Nat) : Int) + 1) = ((c + 2 : Nat) : Int) := by rw [w32_id ⟨by omega, by omega⟩]; omega
          rw [ek, Int.toNat_natCast, Rw.2.2.2.2.1 c (by omega)] at ev2
          rw [ev2]
          clear ev2
          have na := nC_le (g := g) (M := M) (s := c) h
          have nb := nC_le (g := g) (M := M) (s := c + 1) h
          have fs1 := fC_s D g n M c
          have fs2 : fC D g n M (c + 2) = fC D g n M (c + 1) + nC D g n M (c + 1) := fC_s D g n M (c + 1)
          have fm := fC_mono (D := D) (g := g) (n := n) (M := M) (show c + 2 ≤ M + 1 by omega)
          refine lr_1s (fun v u => ∃ qa : Nat, v = ((fC D g n M c + qa : Nat) : Int) ∧ qa ≤ nC D g n M c ∧ NrN s u ∧ NxAt u k (fun F G => VtTo D g n M lab (fC D g n M (M + 1)) F G ∨ HzTo D g n M lab c qa 0 F G)) (fun v _ => ((fC D g n M (c + 1) : Int) - v).toNat) ?_ _ w ⟨0, rfl, Nat.zero_le _, hw, Nw⟩
          rintro again4 _ x ⟨qa, rfl, hqa, hx, Nx⟩ ih4
          have Rx := RR x hx
          rw [Int.toNat_natCast, Rx.2.2.2.2.1 (c + 1) (by omega)]
          refine ⟨by omega, fun q4 v ev => ?_, fun q4 => ⟨by omega, fun v3 ev3 => ?_⟩⟩
          · have e : qa = nC D g n M c := by omega
            subst e
            rw [ev, ek2]
            clear ev
            exact ih3 _ _ ⟨c + 1, rfl, by omega, hx, NxAt_congr Nx (fun _ _ _ => rfl) hK2 fun F G => or_congr Iff.rfl (Hz_col F G)⟩ (by omega)
          · have hqa2 : qa < nC D g n M c := by omega
            rw [ev3]
            clear ev3
            refine lr_1s (fun v u => ∃ qb : Nat, v = ((fC D g n M (c + 1) + qb : Nat) : Int) ∧ qb ≤ nC D g n M (c + 1) ∧ NrN s u ∧ NxAt u k (fun F G => VtTo D g n M lab (fC D g n M (M + 1)) F G ∨ HzTo D g n M lab c qa qb F G)) (fun v _ => ((fC D g n M (c + 2) : Int) - v).toNat) ?_ _ x ⟨0, rfl, Nat.zero_le _, hx, Nx⟩
            rintro again5 _ y ⟨qb, rfl, hqb, hy, Ny⟩ ih5
            have Ry := RR y hy
            rw [ek2, Int.toNat_natCast, Ry.2.2.2.2.1 (c + 2) (by omega)]
            refine ⟨by omega, fun q5 v ev => ?_, fun q5 => ?_⟩
            · have e : qb = nC D g n M (c + 1) := by omega
              subst e
              have b1 : ok32 (((fC D g n M c + qa : Nat) : Int) + 1) := ⟨by omega, by omega⟩
              have b2 : ((fC D g n M c + qa : Nat) : Int) + 1 = ((fC D g n M c + (qa + 1) : Nat) : Int) := by omega
              rw [ev, w32_id b1, b2]
              clear ev
              exact ih4 _ _ ⟨qa + 1, rfl, by omega, hy, NxAt_congr Ny (fun _ _ _ => rfl) hK2 fun F G => or_congr Iff.rfl (Hz_row F G)⟩ (by omega)
            · have hqb2 : qb < nC D g n M (c + 1) := by omega
              have b1 : ok32 (((fC D g n M (c + 1) + qb : Nat) : Int) + 1) := ⟨by omega, by omega⟩
              have b2 : ((fC D g n M (c + 1) + qb : Nat) : Int) + 1 = ((fC D g n M (c + 1) + (qb + 1) : Nat) : Int) := by omega
              have la : fC D g n M c + qa < fC D g n M (M + 1) := by omega
              have lb : fC D g n M (c + 1) + qb < fC D g n M (M + 1) := by omega
              obtain ⟨kF, kT⟩ := F_K hS (c := c) hqa2 hqb2
              have Hs := Hz_s (D := D) (g := g) (n := n) (lab := lab) hcM hqa2 hqb2
              have fin : ∀ z : Sg, NrN s z → NxAt z k (fun F G => VtTo D g n M lab (fC D g n M (M + 1)) F G ∨ HzTo D g n M lab c qa (qb + 1) F G) → ∀ v, v = w32 (((fC D g n M (c + 1) + qb : Nat) : Int) + 1) → again5 v z := by
                intro z z1 z2 v ev
                rw [ev, w32_id b1, b2]
                clear ev
                exact ih5 _ _ ⟨qb + 1, rfl, by omega, z1, z2⟩ (by omega)
              have cv_F : Cvd D g n M c qa qb → loF D g n c qa qb < hiF D g n M c qa qb := by
                rintro ⟨r, hr, -⟩
                exact (str_ex hS hcM kF kT).mpr ⟨r, (InR_iff hS hcM hqa2 hqb2).mp hr⟩
              have Gof : ∀ a b : Sg, NrN s a → NrF a b → NrN s b := fun a b ha hb => ⟨fun c' h1 h2 => by rw [hb.1 c' h1, ha.1 c' h1 h2], fun o ho => by rw [hb.2 o ho, ha.2 o ho]⟩
              refine s_wide2 hS Ry hcM hqa2 hqb2 rfl rfl _ rfl fun z zo zF zT => ?_
              have Gz := Gof y z hy zo
              have Nz : NxAt z k (fun F G => VtTo D g n M lab (fC D g n M (M + 1)) F G ∨ HzTo D g n M lab c qa qb F G) := NxAt_congr Ny (fun c' h1 h2 => zo.1 c' (by omega)) hK2 (fun _ _ => Iff.rfl)
              refine s_X10_isMore zF zT fun r hr => ?_
              unfold jn
              refine ⟨fun z2 => ?_, fun z2 => fin z Gz (NxAt_congr Nz (fun _ _ _ => rfl) hK2 fun F G => ?_)⟩
              · have ltF : loF D g n c qa qb < hiF D g n M c qa qb := by
                  rcases hr with e | e
                  · exact e.2
                  · exact absurd e.1 z2
                -- upright lines, one by one
                have mr : ∀ l, l < n → D 0 l = D 2 l → rchB D g c l = true → (mxI (loF D g n c qa qb) (D 1 l * KK) < mnI (hiF D g n M c qa qb) (D 3 l * KK) ↔ ∃ r, InR D g n M c qa qb r ∧ upS D g n c r l = true) := by
                  intro l hl' hu' hr'
                  rw [more_r hS hcM hl' hu' hr' kF kT]
                  refine exists_congr fun r => ?_
                  rw [InR_iff hS hcM hqa2 hqb2]
                  exact ⟨fun ⟨a1, a2, a3, a4⟩ => ⟨⟨a1, a2, a3⟩, a4⟩, fun ⟨⟨a1, a2, a3⟩, a4⟩ => ⟨a1, a2, a3, a4⟩⟩
                refine lr_1s (fun v w => ∃ l : Nat, v = (l : Int) ∧ l ≤ n ∧ NrN s w ∧ w 68 = z 68 ∧ NxAt w k (fun F G => (VtTo D g n M lab (fC D g n M (M + 1)) F G ∨ HzTo D g n M lab c qa qb F G) ∨ ((∃ l', l' < l ∧ ∃ r, InR D g n M c qa qb r ∧ upS D g n c r l' = true) ∧ lkR lab (fC D g n M c + qa) (fC D g n M (c + 1) + qb) F G))) (fun v _ => ((n : Int) - v).toNat) ?_ 0 z ⟨0, rfl, Nat.zero_le _, Gz, rfl, NxAt_congr Nz (fun _ _ _ => rfl) hK2 fun F G => ⟨Or.inl, fun y => y.resolve_right fun ⟨⟨l', h1, _⟩, _⟩ => absurd h1 (Nat.not_lt_zero _)⟩⟩
                rintro again6 _ p ⟨l, rfl, hl', Gp, p68, Np⟩ ih6
                have Rp := RR p Gp
                rw [Rp.1.1]
                refine ⟨fun q6 => fin p Gp (NxAt_congr Np (fun _ _ _ => rfl) hK2 fun F G => ?_), fun q6 => ⟨by omega, by omega, ?_⟩⟩
                · have e : l = n := by omega
                  subst e
                  rw [Hs, or_assoc]
                  refine or_congr Iff.rfl (or_congr Iff.rfl (and_congr ?_ Iff.rfl))
                  constructor
                  · rintro ⟨l', h1, r, h2, h3⟩
                    exact ⟨r, h2, cov_iff.mpr ⟨l', h1, h3⟩⟩
                  · rintro ⟨r, h2, h3⟩
                    obtain ⟨l', h1, h4⟩ := cov_iff.mp h3
                    exact ⟨l', h1, r, h2, h4⟩
                · have hl2 : l < n := by omega
                  have c1 : ok32 ((l : Int) + 1) := ⟨by omega, by omega⟩
                  have c2 : (l : Int) + 1 = ((l + 1 : Nat) : Int) := by omega
                  have no : (¬ ∃ r, InR D g n M c qa qb r ∧ upS D g n c r l = true) → ∀ v, v = w32 ((l : Int) + 1) → again6 v p := by
                    intro nu v ev
                    rw [ev, w32_id c1, c2]
                    clear ev
                    refine ih6 _ _ ⟨l + 1, rfl, by omega, Gp, p68, NxAt_congr Np (fun _ _ _ => rfl) hK2 fun F G => or_congr Iff.rfl (and_congr ⟨fun ⟨l', h1, h2⟩ => ⟨l', by omega, h2⟩, fun ⟨l', h1, h2⟩ => ⟨l', ?_, h2⟩⟩ Iff.rfl)⟩ (by omega)
                    by_cases e : l' = l
                    · subst e; exact absurd h2 nu
                    · omega
                  refine s_X10_isUprightAt hS Rp.1.2.1 hcM hl2 (Rp.2.2.2.1 c hcM).1 (Rp.2.2.2.1 c hcM).2 fun r3 hr3 => ⟨fun z3 => no ?_, fun z3 => ?_⟩
                  · rintro ⟨r', r1, us⟩
                    rw [upS_iff] at us
                    rcases hr3 with e | e
                    · omega
                    · exact e.2 ⟨us.1, us.2.1⟩
                  · have hur : D 0 l = D 2 l ∧ rchB D g c l = true := by
                      rcases hr3 with e | e
                      · exact e.2
                      · exact absurd e.1 z3
                    refine s_X10_hasMore h Rp.1.2.1 hl2 (by rw [p68]; exact zF) (by rw [p68]; exact zT) fun r4 hr4 => ⟨fun z4 => no ?_, fun z4 => ?_⟩
                    · rcases hr4 with e | e
                      · omega
                      · exact fun w => e.2 ((mr l hl2 hur.1 hur.2).mpr w)
                    · have yes : ∃ r, InR D g n M c qa qb r ∧ upS D g n c r l = true := by
                        rcases hr4 with e | e
                        · exact (mr l hl2 hur.1 hur.2).mp e.2
                        · exact absurd e.1 z4
                      refine s_X10_isNext hl (by omega) hK hK2 (RFc_N hF Gp).2.1 la lb Np fun o oo No v ev => ?_
                      rw [ev, w32_id c1, c2]
                      clear ev
                      refine ih6 _ _ ⟨l + 1, rfl, by omega, nrr p o Gp oo, by rw [oo 68 (by omega)]; exact p68, NxAt_congr No (fun _ _ _ => rfl) hK2 fun F G => ?_⟩ (by omega)
                      constructor
                      · rintro ((w | ⟨⟨l', h1, h2⟩, w⟩) | w)
                        · exact Or.inl w
                        · exact Or.inr ⟨⟨l', by omega, h2⟩, w⟩
                        · exact Or.inr ⟨⟨l, by omega, yes⟩, w⟩
                      · rintro (w | ⟨_, w⟩)
                        · exact Or.inl (Or.inl w)
                        · exact Or.inr w
              · rw [Hs]
                refine or_congr Iff.rfl ⟨Or.inl, fun w => w.resolve_right fun w2 => ?_⟩
                have := cv_F w2.1
                rcases hr with e | e
                · omega
                · exact e.2 this
      · rintro ⟨c', xa, xb, h1, h2, h3, h4, -⟩
        omega
    · have hj2 : j < fC D g n M (M + 1) := by omega
      have c1 : ok32 ((j : Int) + 1) := ⟨by omega, by omega⟩
      have c2 : (j : Int) + 1 = ((j + 1 : Nat) : Int) := by omega
      have ej : w32 ((j : Int) - 1) = ((j - 1 : Nat) : Int) := by rw [w32_id ⟨by omega, by omega⟩]; omega
      rw [ej]
      obtain ⟨s1, q1, hs1, hq1, e1⟩ := cell_form (M + 1) j hj2
      obtain ⟨s2, q2', hs2, hq2, e2⟩ := cell_form (D := D) (g := g) (n := n) (M := M) (M + 1) (j - 1) (by omega)
      have u1 := (Ru.2.2.2.2.2 s1 (by omega) q1 hq1).1
      have u2 := (Ru.2.2.2.2.2 s2 (by omega) q2' hq2).1
      rw [← e1] at u1
      rw [← e2] at u2
      rw [Int.toNat_natCast, Int.toNat_natCast, u1, u2]
      have fs := fC_s D g n M s2
      unfold jn
      refine ⟨by omega, by omega, fun z v ev => ?_, fun z => ?_⟩
      · rw [ev, w32_id c1, c2]
        clear ev
        refine ih2 _ _ ⟨j + 1, rfl, by omega, by omega, hu, NxAt_congr Nu (fun _ _ _ => rfl) hK2 fun F G => ⟨?_, ?_⟩⟩ (by omega)
        · rintro ⟨s', q', h1, h2, h3, h4⟩
          exact ⟨s', q', h1, h2, by omega, h4⟩
        · rintro ⟨s', q', h1, h2, h3, h4⟩
          refine ⟨s', q', h1, h2, ?_, h4⟩
          apply Decidable.byContradiction
          intro w
          have a1 := cell_one (D := D) (g := g) (M := M) hq1 (show q' + 1 < nC D g n M s' by omega) (by omega)
          have a2 := cell_one (D := D) (g := g) (M := M) hq2 (show q' < nC D g n M s' by omega) (by omega)
          omega
      · have es : s1 = s2 := by omega
        subst es
        have eq : q1 = q2' + 1 := by omega
        subst eq
        refine s_X10_isNext hl (by omega) hK hK2 (RFc_N hF hu).2.1 (show j - 1 < fC D g n M (M + 1) by omega) hj2 Nu fun o oo No v ev => ?_
        rw [ev, w32_id c1, c2]
        clear ev
        refine ih2 _ _ ⟨j + 1, rfl, by omega, by omega, nrr u o hu oo, NxAt_congr No (fun _ _ _ => rfl) hK2 fun F G => ⟨?_, ?_⟩⟩ (by omega)
        · rintro (⟨s', q', h1, h2, h3, h4⟩ | h4)
          · exact ⟨s', q', h1, h2, by omega, h4⟩
          · rw [e2, e1] at h4
            exact ⟨s1, q2', by omega, hq1, by omega, h4⟩
        · rintro ⟨s', q', h1, h2, h3, h4⟩
          by_cases w : fC D g n M s' + q' + 1 < j
          · exact Or.inl ⟨s', q', h1, h2, w, h4⟩
          · right
            rw [show fC D g n M s' + q' = j - 1 by omega, show j - 1 + 1 = j by omega] at h4
            exact h4
  · have hk2 : k < K := by omega
    refine lr_1s (fun v u => ∃ G : Nat, v = (G : Int) ∧ G ≤ K ∧ NrN s u ∧ (∀ F G, F < k → G < K → u (93 + F) G = 0) ∧ ∀ G', G' < G → u (93 + k) G' = 0) (fun v _ => ((K : Int) - v).toNat) ?_ 0 t ⟨0, rfl, Nat.zero_le _, ht, hz, fun G hG => absurd hG (Nat.not_lt_zero _)⟩
    rintro again2 _ u ⟨G, rfl, hG, hu, u1, u2⟩ ih2
    rw [R24 u hu]
    refine ⟨fun q2 v ev => ?_, fun q2 => ⟨by omega, by omega, fun a ea v ev => ?_⟩⟩
    · have b1 : ok32 ((k : Int) + 1) := ⟨by omega, by omega⟩
      have b2 : (k : Int) + 1 = ((k + 1 : Nat) : Int) := by omega
      rw [ev, w32_id b1, b2]
      clear ev
      refine ih _ _ ⟨k + 1, rfl, by omega, hu, fun F G' hF hG' => ?_⟩ (by omega)
      by_cases e : F = k
      · subst e; exact u2 G' (by omega)
      · exact u1 F G' (by omega) hG'
    · have b1 : ok32 ((G : Int) + 1) := ⟨by omega, by omega⟩
      have b2 : (G : Int) + 1 = ((G + 1 : Nat) : Int) := by omega
      rw [ev, w32_id b1, b2, ea, Int.toNat_natCast, Int.toNat_natCast]
      clear ev ea
      refine ih2 _ _ ⟨G + 1, rfl, by omega, nrr u _ hu fun c hc => up_ne _ _ _ (by omega), fun F G' hF hG' => by rw [up_ne _ _ _ (by omega)]; exact u1 F G' hF hG', fun G' hG' => ?_⟩ (by omega)
      rw [up_apply]
      by_cases e : G' = G
      · rw [if_pos ⟨rfl, e⟩]
      · rw [if_neg (fun z => e z.2)]
        exact u2 G' (by omega)
