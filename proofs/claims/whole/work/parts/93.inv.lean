/-! what is kept from call to call -/
def dD (s : Sg) : Nat → Nat → Int := fun k i => if k < 4 then s (2 + k) i else 0
def nL (s : Sg) : Nat := (s 1 0).toNat
def FInv (t : Sg) (D : Nat → Nat → Int) (n : Nat) : Prop := ∃ (m : Nat) (f : Nat → Int × Int × Int × Int) (M : Nat) (g : Nat → Int × Int) (lab lab2 : Nat → Nat), Swp D n m f M g ∧ LabOf (nxR D f n) m lab2 ∧ SlAt t D n M g ∧ LabOf (JnR D g n M) (fC D g n M (M + 1)) lab ∧ cntN (rootB lab) (fC D g n M (M + 1)) ≤ 46 ∧ FcAt t D n M g lab
theorem FInv_fr {s t : Sg} {n : Nat} {D : Nat → Nat → Int} (h : FInv s D n) (ho : ∀ c, ((38 ≤ c ∧ c ≤ 44) ∨ (53 ≤ c ∧ c ≤ 59)) → t c = s c) : FInv t D n := by
  obtain ⟨m, f, M, g, lab, lab2, h1, h2, ⟨l0, l1, lx, lf, lc⟩, h4, h5, ⟨q0, q1, q2, q3⟩⟩ := h
  refine ⟨m, f, M, g, lab, lab2, h1, h2, ⟨by rw [ho 38 (by omega)]; exact l0, by rw [ho 38 (by omega)]; exact l1, fun b hb => by rw [ho 39 (by omega), ho 40 (by omega)]; exact lx b hb, fun s' hs => by rw [ho 41 (by omega)]; exact lf s' hs, fun s' hs q hq => by rw [ho 42 (by omega), ho 43 (by omega), ho 44 (by omega)]; exact lc s' hs q hq⟩, h4, h5, ⟨by rw [ho 53 (by omega)]; exact q0, fun j hj => by rw [ho 55 (by omega)]; exact q1 j hj, fun i hi hr => by rw [ho 56 (by omega)]; exact q2 i hi hr, fun F hF => by rw [ho 57 (by omega), ho 58 (by omega), ho 59 (by omega)]; exact q3 F hF⟩⟩
def Inv (s : Sg) : Prop := Base s ∧ (s 0 13 = 0 ∨ ∃ m f, PInv s 16 (dD s) (nL s) m f) ∧ (s 0 14 = 0 ∨ FInv s (dD s) (nL s)) ∧ (s 0 15 = 0 ∨ HInv s (dD s) (nL s))
theorem dD_eq {s t : Sg} (h : ∀ c, 2 ≤ c → c ≤ 5 → t c = s c) : dD t = dD s := by
  funext k i
  unfold dD
  by_cases c : k < 4
  · rw [if_pos c, if_pos c, h (2 + k) (by omega) (by omega)]
  · rw [if_neg c, if_neg c]
theorem nL_eq {s t : Sg} (h : t 1 = s 1) : nL t = nL s := by unfold nL; rw [h]
/-- of a state: its lines -/
theorem inv_ls {s : Sg} (hB : Base s) : LsD (dD s) (nL s : Int) ∧ s 1 0 = (nL s : Int) ∧ LnAt s 2 (nL s : Int) (dD s) ∧ s 68 0 = (nL s : Int) ∧ LnAt s 69 (nL s : Int) (dD s) ∧ nL s ≤ 10 := by
  have hL := Base_LsD hB
  have h0 := hL.1
  have e : s 1 0 = (nL s : Int) := by unfold nL; omega
  rw [e] at hL
  refine ⟨⟨hL.1, fun i hi => hL.2 i hi⟩, e, fun i hi => ⟨rfl, rfl, rfl, rfl⟩, by rw [hB.1]; exact e, fun i hi => ?_, by omega⟩
  have := Base_At2 hB i (by rw [e]; exact hi)
  exact this
theorem Inv_keep {s t : Sg} (hI : Inv s) (hB : Base t) (hk : Keep s t) : Inv t := by
  rcases hk with ⟨hc, h13, h14, h15⟩ | ⟨h13, h14, h15⟩
  · have k : ∀ c, kc c → t c = s c := hc
    have eD : dD t = dD s := dD_eq fun c h1 h2 => k c (by unfold kc; omega)
    have eN : nL t = nL s := nL_eq (k 1 (by unfold kc; omega))
    unfold Inv
    rw [eD, eN, h13, h14, h15]
    refine ⟨hB, hI.2.1.imp id fun ⟨m, f, hp⟩ => ⟨m, f, PInv_fr hp fun c h1 h2 => k c (by unfold kc; omega)⟩, hI.2.2.1.imp id fun hf => FInv_fr hf fun c h1 => k c (by unfold kc; omega), hI.2.2.2.imp id fun hh => HInv_fr hh fun c h1 h2 => k c (by unfold kc; omega)⟩
  · exact ⟨hB, Or.inl h13, Or.inl h14, Or.inl h15⟩
/-- what the reference does in its own rooms -/
def RefF (s t : Sg) : Prop := (∀ c, (c < 68 ∨ (69 ≤ c ∧ c ≤ 72) ∨ 174 ≤ c) → t c = s c) ∧ t 68 0 = s 68 0 ∧ t 68 43 = s 68 43
theorem RefF_tr {s t u : Sg} (h : RefF s t) (h' : RefF t u) : RefF s u := ⟨fun c hc => (h'.1 c hc).trans (h.1 c hc), h'.2.1.trans h.2.1, h'.2.2.trans h.2.2⟩
theorem RefF_rfl (s : Sg) : RefF s s := ⟨fun _ _ => rfl, rfl, rfl⟩
theorem Inv_ref {s t : Sg} (hI : Inv s) (h : RefF s t) : Inv t := by
  refine Inv_keep hI (Base_scr hI.1 (fun c hc => h.1 c (by unfold bc at hc; omega)) (by rw [h.1 0 (by omega)]) h.2.1 h.2.2) (Or.inl ⟨fun c hc => h.1 c (by unfold kc at hc; omega), by rw [h.1 0 (by omega)], by rw [h.1 0 (by omega)], by rw [h.1 0 (by omega)]⟩)
theorem RefF_at {s t : Sg} {D : Nat → Nat → Int} {n : Nat} (h : RefF s t) (hat : LnAt s 69 (n : Int) D) : LnAt t 69 (n : Int) D := fun i hi => by
  rw [h.1 69 (by omega), h.1 (69 + 1) (by omega), h.1 (69 + 2) (by omega), h.1 (69 + 3) (by omega)]
  exact hat i hi
/-- what the class does in its own rooms -/
def ClsF (s t : Sg) : Prop := (∀ c, ((1 ≤ c ∧ c ≤ 10) ∨ 65 ≤ c) → t c = s c) ∧ t 0 12 = s 0 12
theorem Base_cls {s t : Sg} (hB : Base s) (h : ClsF s t) : Base t := Base_scr hB (fun c hc => h.1 c (by unfold bc at hc; omega)) h.2 (by rw [h.1 68 (by omega)]) (by rw [h.1 68 (by omega)])
theorem cls_D {s t : Sg} (h : ClsF s t) : dD t = dD s ∧ nL t = nL s := ⟨dD_eq fun c h1 h2 => h.1 c (by omega), nL_eq (h.1 1 (by omega))⟩
theorem s_kPts {s : Sg} {post : Sg → Prop} (hI : Inv s) (hp : ∀ (t : Sg) (m : Nat) (f : Nat → Int × Int × Int × Int), Inv t → ClsF s t → PInv t 16 (dD s) (nL s) m f → post t) : w_X9_knowPoints s post := by
  obtain ⟨h1, h2, h3, h4, h5, h6⟩ := inv_ls hI.1
  refine s_X9_knowPoints h1 h2 h3 hI.2.1 fun t m f to to2 tP => ?_
  have hc : ClsF s t := ⟨fun c hc => to c (by omega) (by omega), to2 12 (by omega)⟩
  obtain ⟨eD, eN⟩ := cls_D hc
  refine hp t m f ?_ hc tP
  unfold Inv
  rw [eD, eN, to2 14 (by omega), to2 15 (by omega)]
  exact ⟨Base_cls hI.1 hc, Or.inr ⟨m, f, tP⟩, hI.2.2.1.imp id fun hf => FInv_fr hf fun c h1 => to c (by omega) (by omega), hI.2.2.2.imp id fun hh => HInv_fr hh fun c h1 h2 => to c (by omega) (by omega)⟩
theorem s_kHulls {s : Sg} {post : Sg → Prop} (hI : Inv s) (hp : ∀ (t : Sg), Inv t → ClsF s t → HInv t (dD s) (nL s) → post t) : w_X9_knowHulls s post := by
  obtain ⟨h1, h2, h3, h4, h5, h6⟩ := inv_ls hI.1
  refine s_X9_knowHulls h1 h2 h3 hI.2.2.2 fun t to to2 tP => ?_
  have hc : ClsF s t := ⟨fun c hc => to c (by omega) (by omega), to2 12 (by omega)⟩
  obtain ⟨eD, eN⟩ := cls_D hc
  refine hp t ?_ hc tP
  unfold Inv
  rw [eD, eN, to2 13 (by omega), to2 14 (by omega)]
  exact ⟨Base_cls hI.1 hc, hI.2.1.imp id fun ⟨m, f, hp⟩ => ⟨m, f, PInv_fr hp fun c h1 h2 => to c (by omega) (by omega)⟩, hI.2.2.1.imp id fun hf => FInv_fr hf fun c h1 => to c (by omega) (by omega), Or.inr tP⟩
theorem s_kFaces {s : Sg} {post : Sg → Prop} (hI : Inv s) (hp : ∀ (t : Sg), Inv t → ClsF s t → FInv t (dD s) (nL s) → post t) : w_X9_knowFaces s post := by
  obtain ⟨h1, h2, h3, h4, h5, h6⟩ := inv_ls hI.1
  have go : ∀ (t : Sg) (m : Nat) (f : Nat → Int × Int × Int × Int), ClsF s t → t 0 15 = s 0 15 → (∀ c, (c ≠ 0 ∧ (c < 16 ∨ 24 < c)) → t c = s c) → t 0 13 ≠ 0 → PInv t 16 (dD s) (nL s) m f → w_X6_cut t (fun s_3 => w_X8_find s_3 (fun s_4 => w_X0_join s_4 (fun s_5 => ∀ s_6, s_6 = up s_5 0 14 1 → (post s_6)))) := by
    intro t m f hc t15 to t13 tP
    obtain ⟨p1, p2, p3, p4, p5, ⟨lab2, p6, -⟩, p7⟩ := id tP
    have hat : LnAt t 2 (nL s : Int) (dD s) := fun i hi => by
      rw [hc.1 2 (by omega), hc.1 (2 + 1) (by omega), hc.1 (2 + 2) (by omega), hc.1 (2 + 3) (by omega)]
      exact h3 i hi
    refine s_X6_cut h1 (by rw [hc.1 1 (by omega)]; exact h2) hat p1 p2 p3 p4 fun u g M uo hS uSl => ?_
    have hatu : LnAt u 2 (nL s : Int) (dD s) := fun i hi => by
      rw [uo 2 (by omega), uo (2 + 1) (by omega), uo (2 + 2) (by omega), uo (2 + 3) (by omega)]
      exact hat i hi
    refine s_X8_find hS (by rw [uo 1 (by omega), hc.1 1 (by omega)]; exact h2) hatu uSl fun v vo vSt => ?_
    have vSl : SlAt v (dD s) (nL s) M g := by
      obtain ⟨l0, l1, lx, lf, lc⟩ := uSl
      exact ⟨by rw [vo 38 (by omega)]; exact l0, by rw [vo 38 (by omega)]; exact l1, fun b hb => by rw [vo 39 (by omega), vo 40 (by omega)]; exact lx b hb, fun s' hs => by rw [vo 41 (by omega)]; exact lf s' hs, fun s' hs q hq => by rw [vo 42 (by omega), vo 43 (by omega), vo 44 (by omega)]; exact lc s' hs q hq⟩
    refine s_X0_join hS p6 vSl vSt fun w lab wo wl wK wF => ?_
    rintro _ rfl
    have fo : ∀ c, c ≠ 0 → (c < 16 ∨ (24 < c ∧ c < 35) ∨ 59 < c) → up w 0 14 1 c = s c := fun c h1 h2 => by
      rw [up_ne _ _ _ h1, wo c (by omega), vo c (by omega), uo c (by omega), to c ⟨h1, by omega⟩]
    have f0 : ∀ o, o ≠ 14 → up w 0 14 1 0 o = t 0 o := fun o ho => by
      rw [up_apply, if_neg (fun z => ho z.2), wo 0 (by omega), vo 0 (by omega), uo 0 (by omega)]
    have hcw : ClsF s (up w 0 14 1) := ⟨fun c hc' => fo c (by omega) (by omega), by rw [f0 12 (by omega)]; exact hc.2⟩
    obtain ⟨eD, eN⟩ := cls_D hcw
    have FI : FInv (up w 0 14 1) (dD s) (nL s) := by
      refine FInv_fr (s := w) ⟨m, f, M, g, lab, lab2, hS, p6, ?_, wl, wK, wF⟩ fun c hc' => up_ne _ _ _ (by omega)
      obtain ⟨l0, l1, lx, lf, lc⟩ := vSl
      exact ⟨by rw [wo 38 (by omega)]; exact l0, by rw [wo 38 (by omega)]; exact l1, fun b hb => by rw [wo 39 (by omega), wo 40 (by omega)]; exact lx b hb, fun s' hs => by rw [wo 41 (by omega)]; exact lf s' hs, fun s' hs q hq => by rw [wo 42 (by omega), wo 43 (by omega), wo 44 (by omega)]; exact lc s' hs q hq⟩
    refine hp _ ?_ hcw FI
    unfold Inv
    rw [eD, eN, f0 13 (by omega), f0 15 (by omega), t15]
    exact ⟨Base_cls hI.1 hcw, Or.inr ⟨m, f, PInv_fr tP fun c h1 h2 => by rw [up_ne _ _ _ (by omega), wo c (by omega), vo c (by omega), uo c (by omega)]⟩, Or.inr FI, hI.2.2.2.imp id fun hh => HInv_fr hh fun c h1 h2 => fo c (by omega) (by omega)⟩
  unfold w_X9_knowFaces jn
  refine ⟨fun z => ⟨fun z2 => ?_, fun z2 => ?_⟩, fun z => ?_⟩
  · rcases hI.2.1 with e | ⟨m, f, hP⟩
    · exact absurd e z2
    · exact go s m f ⟨fun _ _ => rfl, rfl⟩ rfl (fun _ _ => rfl) z2 hP
  · refine s_X4_find h1 h2 h3 (by omega) fun t m f to tP => ?_
    rintro _ rfl
    refine go _ m f ⟨fun c hc => by rw [up_ne _ _ _ (by omega), to c (by omega)], by rw [up_apply, if_neg (by omega), to 0 (by omega)]⟩ (by rw [up_apply, if_neg (by omega), to 0 (by omega)]) (fun c hc => by rw [up_ne _ _ _ hc.1, to c (by omega)]) (by rw [up_apply, if_pos ⟨rfl, rfl⟩]; decide) (PInv_fr tP fun c h1 h2 => up_ne _ _ _ (by omega))
  · rcases hI.2.2.1 with e | hF
    · exact absurd e z
    · exact hp s hI ⟨fun _ _ => rfl, rfl⟩ hF
