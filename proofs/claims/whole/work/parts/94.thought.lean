/-! in thought: how many faces there are of any lines -/
theorem lab_ex (R : Nat → Nat → Prop) (m : Nat) : ∃ lab, LabOf R m lab := by
  rcases Nat.eq_zero_or_pos m with z | hm
  · subst z
    exact ⟨fun i => i, fun i hi => absurd hi (Nat.not_lt_zero _), fun a b ha => absurd ha (Nat.not_lt_zero _), fun f _ i hi => absurd hi (Nat.not_lt_zero _)⟩
  · have lt : ∀ e, e < m * m → e / m < m ∧ e % m < m := fun e he => ⟨Nat.div_lt_of_lt_mul he, Nat.mod_lt _ hm⟩
    have ok := lbl_ok (A := fun e => e / m) (B := fun e => e % m) (n := m) ((List.range (m * m)).filter (fun e => pB (R (e / m) (e % m)))) (fun e he => by
      rw [List.mem_filter, List.mem_range] at he
      exact lt e he.1)
    refine ⟨_, Lab_congr ok (fun a b ha hb => ?_) (fun _ _ => rfl)⟩
    constructor
    · rintro ⟨e, he, rfl, rfl⟩
      rw [List.mem_filter] at he
      exact pB_iff.mp he.2
    · intro r
      have e1 : (a * m + b) / m = a := by
        rw [Nat.mul_comm, Nat.mul_add_div hm, Nat.div_eq_of_lt hb, Nat.add_zero]
      have e2 : (a * m + b) % m = b := by
        rw [Nat.mul_comm, Nat.mul_add_mod, Nat.mod_eq_of_lt hb]
      have le : a * m + b < m * m := by
        have := Nat.mul_le_mul_right m (show a + 1 ≤ m by omega)
        rw [Nat.add_mul] at this
        omega
      refine ⟨a * m + b, ?_, e1.symm, e2.symm⟩
      rw [List.mem_filter, List.mem_range]
      exact ⟨le, by rw [e1, e2]; exact pB_iff.mpr r⟩
def IsFc (D : Nat → Nat → Int) (n : Nat) (r : Int) : Prop := ∃ (m : Nat) (f : Nat → Int × Int × Int × Int) (M : Nat) (g : Nat → Int × Int) (lab : Nat → Nat), Swp D n m f M g ∧ LabOf (JnR D g n M) (fC D g n M (M + 1)) lab ∧ r = (cntN (rootB lab) (fC D g n M (M + 1)) : Int)
theorem fc_one {D : Nat → Nat → Int} {n : Nat} {r r' : Int} (h : IsFc D n r) (h' : IsFc D n r') : r = r' := by
  obtain ⟨m, f, M, g, lab, hS, hl, e⟩ := h
  obtain ⟨m', f', M', g', lab', hS', hl', e'⟩ := h'
  obtain ⟨em, ef⟩ := Pts_one hS.2.1 hS'.2.1
  subst em
  have hS2 : Swp D n m f M' g' := by
    obtain ⟨a1, a2, a3, ⟨x1, x2, x3⟩, a5⟩ := hS'
    refine ⟨a1, hS.2.1, a3, ⟨x1, fun b hb => ?_, fun p hp => ?_⟩, a5⟩
    · obtain ⟨p, hp, e⟩ := x2 b hb
      exact ⟨p, hp, by rw [ef p hp]; exact e⟩
    · obtain ⟨b, hb, e⟩ := x3 p hp
      exact ⟨b, hb, by rw [ef p hp]; exact e⟩
  obtain ⟨lab2, hl2⟩ := lab_ex (nxR D f n) m
  have q1 := faces_eu hS hl hl2
  have q2 := faces_eu hS2 hl' hl2
  have c1 : cntN (rootB lab) (fC D g n M (M + 1)) = cntN (fun i => lab i == i) (fC D g n M (M + 1)) := rfl
  have c2 : cntN (rootB lab') (fC D g' n M' (M' + 1)) = cntN (fun i => lab' i == i) (fC D g' n M' (M' + 1)) := rfl
  omega
theorem fc_ex {D : Nat → Nat → Int} {n : Nat} (h : LsD D (n : Int)) : ∃ r, IsFc D n r := by
  obtain ⟨m, f, hP, hm⟩ := pts_ex h
  obtain ⟨M, g, hS⟩ := swp_ex h hP hm
  obtain ⟨lab, hl⟩ := lab_ex (JnR D g n M) (fC D g n M (M + 1))
  exact ⟨_, m, f, M, g, lab, hS, hl, rfl⟩
noncomputable def fcV (D : Nat → Nat → Int) (n : Nat) : Int := by
  classical exact if h : ∃ r, IsFc D n r then Classical.choose h else 0
theorem fcV_eq {D : Nat → Nat → Int} {n : Nat} {r : Int} (h : IsFc D n r) : r = fcV D n := by
  have hx : ∃ r, IsFc D n r := ⟨r, h⟩
  unfold fcV
  rw [dif_pos hx]
  exact fc_one h (Classical.choose_spec hx)
/-- the class's count, by Euler -/
theorem s_cfind {t : Sg} {D : Nat → Nat → Int} {n : Nat} {post : Int → Sg → Prop} (h : LsD D (n : Int)) (hn : t 11 0 = (n : Int)) (hat : LnAt t 12 (n : Int) D) (hp : ∀ u, (∀ c, (c < 25 ∨ 33 < c) → u c = t c) → post (fcV D n) u) : w_X4_find t 25 11 (fun s_3 => w_X4_facesAround s_3 (fun r_4 => post r_4 s_3)) := by
  refine s_X4_find h hn hat (by omega) fun u m f uo uP => ?_
  obtain ⟨p1, p2, p3, p4, p5, ⟨lab2, p6, p7, p8⟩, p9, p10⟩ := uP
  obtain ⟨M, g, hS⟩ := swp_ex h p1 p2
  obtain ⟨lab, hl⟩ := lab_ex (JnR D g n M) (fC D g n M (M + 1))
  have q1 := faces_eu hS hl p6
  have q2 := pcN_le D f n m
  have q3 : m * n ≤ 65 * 10 := Nat.mul_le_mul p2 (by have := h.1; omega)
  have q4 := cntN_le (fun i => lab2 i == i) m
  have c1 : cntN (rootB lab) (fC D g n M (M + 1)) = cntN (fun i => lab i == i) (fC D g n M (M + 1)) := rfl
  have is : IsFc D n (cntN (rootB lab) (fC D g n M (M + 1)) : Int) := ⟨m, f, M, g, lab, hS, hl, rfl⟩
  have e := fcV_eq is
  have z := hp u (fun c hc => uo c (by omega))
  rw [← e, c1] at z
  unfold w_X4_facesAround
  rw [p3, p9, p8, w32_id (show ok32 ((pcN D f n m : Int) - (m : Int)) from ⟨by omega, by omega⟩), w32_id (show ok32 ((pcN D f n m : Int) - (m : Int) + (cntN (fun i => lab2 i == i) m : Int)) from ⟨by omega, by omega⟩), w32_id (show ok32 ((pcN D f n m : Int) - (m : Int) + (cntN (fun i => lab2 i == i) m : Int) + 1) from ⟨by omega, by omega⟩), show (pcN D f n m : Int) - (m : Int) + (cntN (fun i => lab2 i == i) m : Int) + 1 = (cntN (fun i => lab i == i) (fC D g n M (M + 1)) : Int) by omega]
  exact z
/-- the reference's count -/
theorem s_rfn {t : Sg} {D : Nat → Nat → Int} {n : Nat} {post : Int → Sg → Prop} (h : LsD D (n : Int)) (hn : t 68 0 = (n : Int)) (hat : LnAt t 69 (n : Int) D) (hp : ∀ u, FrT t u → post (fcV D n) u) : w_X10_facesNow t post := by
  obtain ⟨m, f, hP, hm⟩ := pts_ex h
  obtain ⟨M, g, hS⟩ := swp_ex h hP hm
  unfold w_X10_facesNow
  refine s_X10_tellSheet hS hn hat fun u lab uF uR ul uC => ?_
  rw [uC.1]
  have e := fcV_eq (D := D) (n := n) ⟨m, f, M, g, lab, hS, ul, rfl⟩
  rw [e]
  exact hp u uF
/-- what a thought touches -/
def ThF (s v : Sg) : Prop := ∀ c, ¬ (11 ≤ c ∧ c ≤ 15) → ¬ (25 ≤ c ∧ c ≤ 33) → v c = s c
theorem ThF_inv {s v : Sg} (hI : Inv s) (h : ThF s v) : Inv v ∧ dD v = dD s ∧ nL v = nL s := by
  refine ⟨Inv_keep hI (Base_scr hI.1 (fun c hc => h c (by unfold bc at hc; omega) (by unfold bc at hc; omega)) (by rw [h 0 (by omega) (by omega)]) (by rw [h 68 (by omega) (by omega)]) (by rw [h 68 (by omega) (by omega)])) (Or.inl ⟨fun c hc => h c (by unfold kc at hc; omega) (by unfold kc at hc; omega), by rw [h 0 (by omega) (by omega)], by rw [h 0 (by omega) (by omega)], by rw [h 0 (by omega) (by omega)]⟩), dD_eq fun c h1 h2 => h c (by omega) (by omega), nL_eq (h 1 (by omega) (by omega))⟩
def RefB (t u : Sg) : Prop := (∀ c, (c < 68 ∨ 180 ≤ c) → u c = t c) ∧ u 68 0 = t 68 0 ∧ u 68 43 = t 68 43 ∧ u 174 1 = t 174 1 ∧ ∀ j, j < 4 → ∀ k : Nat, k < 10 → u (69 + j) k = t (69 + j) k
theorem RefB_base {t u : Sg} (hB : Base t) (h : RefB t u) : Base u := by
  obtain ⟨b1, b2, b3, b4, b5, b6, b7⟩ := hB
  obtain ⟨h1, h2, h3, h4, h5⟩ := h
  have e1 : u 1 = t 1 := h1 1 (by omega)
  refine ⟨by rw [h2, e1]; exact b1, ?_, ?_, by rw [h3, h1 0 (by omega)]; exact b4, by rw [h1 0 (by omega)]; exact b5, fun q => ?_, fun i hi => ?_⟩
  · rw [e1]
    exact LkOK_cells b2 (h1 2 (by omega)) (h1 3 (by omega)) (h1 4 (by omega)) (h1 5 (by omega))
  · rw [e1]
    intro i hi
    have i10 : i < 10 := by have := b2.2.1; omega
    have q0 := h5 0 (by omega) i i10
    have q1 := h5 1 (by omega) i i10
    have q2 := h5 2 (by omega) i i10
    have q3 := h5 3 (by omega) i i10
    rw [h1 2 (by omega), h1 (2 + 1) (by omega), h1 (2 + 2) (by omega), h1 (2 + 3) (by omega)]
    obtain ⟨k0, k1, k2, k3⟩ := b3 i hi
    exact ⟨q0.trans k0, q1.trans k1, q2.trans k2, q3.trans k3⟩
  · rw [h1 0 (by omega)] at q
    obtain ⟨c1, c2, c3⟩ := b6 q
    rw [h4, h1 6 (by omega)]
    refine ⟨c1, LkOK_cells c2 (h1 7 (by omega)) (h1 8 (by omega)) (h1 9 (by omega)) (h1 10 (by omega)), fun i hi => ?_⟩
    rw [h1 180 (by omega), h1 (180 + 1) (by omega), h1 (180 + 2) (by omega), h1 (180 + 3) (by omega), h1 7 (by omega), h1 (7 + 1) (by omega), h1 (7 + 2) (by omega), h1 (7 + 3) (by omega)]
    exact c3 i hi
  · rw [h1 65 (by omega), h1 66 (by omega), h1 67 (by omega), h1 184 (by omega), h1 185 (by omega), h1 (187 + i) (by omega)]
    exact b7 i hi
theorem RefB_inv {t u : Sg} (hI : Inv t) (h : RefB t u) : Inv u ∧ dD u = dD t ∧ nL u = nL t := by
  refine ⟨Inv_keep hI (RefB_base hI.1 h) (Or.inl ⟨fun c hc => h.1 c (by unfold kc at hc; omega), by rw [h.1 0 (by omega)], by rw [h.1 0 (by omega)], by rw [h.1 0 (by omega)]⟩), dD_eq fun c h1 h2 => h.1 c (by omega), nL_eq (h.1 1 (by omega))⟩
/-- without a line -/
def delD (D : Nat → Nat → Int) (i : Nat) : Nat → Nat → Int := fun k j => if i ≤ j then D k (j + 1) else D k j
theorem delD_ok {D : Nat → Nat → Int} {n i : Nat} (h : LsD D (n : Int)) (hi : i < n) : LsD (delD D i) ((n - 1 : Nat) : Int) := by
  have := h.1
  refine ⟨by omega, fun j hj => ?_⟩
  unfold delD
  by_cases c : i ≤ j
  · rw [if_pos c, if_pos c, if_pos c, if_pos c]
    exact h.2 (j + 1) (by omega)
  · rw [if_neg c, if_neg c, if_neg c, if_neg c]
    exact h.2 j (by omega)
theorem s_cfw {s : Sg} {i : Nat} {post : Int → Sg → Prop} (hI : Inv s) (hi : i < nL s) (hp : ∀ v, ThF s v → post (fcV (delD (dD s) i) (nL s - 1)) v) : w_X9_facesWithout s (i : Int) post := by
  obtain ⟨h1, h2, h3, h4, h5, h6⟩ := inv_ls hI.1
  unfold w_X9_facesWithout
  refine s_X2_become (by omega) (by omega) fun t ht => ?_
  obtain ⟨t1, t2, t3, t4⟩ := ht
  refine s_X2_remove (by omega) (by omega) fun u hu => ?_
  obtain ⟨u1, u2, u3, u4⟩ := hu
  have ln : ∀ k, k < 4 → ∀ j : Nat, (j : Int) < ((nL s - 1 : Nat) : Int) → u (11 + (k + 1)) j = delD (dD s) i k j := by
    intro k hk j hj
    have e : ∀ j : Nat, j < nL s → t (11 + (k + 1)) j = dD s k j := by
      intro j hj
      rw [t4 (k + 1) (by omega) (by omega) j, if_pos (by omega)]
      unfold dD
      rw [if_pos hk, show 1 + (k + 1) = 2 + k by omega]
    rw [u4 (k + 1) (by omega) (by omega) j, t1]
    unfold delD
    by_cases c : i ≤ j
    · rw [if_pos (by omega), if_pos c]
      exact e (j + 1) (by omega)
    · rw [if_neg (by omega), if_neg c]
      exact e j (by omega)
  refine s_cfind (delD_ok h1 hi) (by rw [u1, t1]; omega) (fun j hj => ⟨ln 0 (by omega) j hj, ln 1 (by omega) j hj, ln 2 (by omega) j hj, ln 3 (by omega) j hj⟩) fun v vo => ?_
  exact hp v fun c c1 c2 => by rw [vo c (by omega), u3 c (by omega), t3 c (by omega)]
theorem bak_all {t a b c u : Sg} (ht : KepP t 0 a) (hb : ∀ c, (c < 68 ∨ 73 ≤ c) → b c = a c) (hb2 : b 68 43 = a 68 43) (hc : FrT b c) (hu : BakP c 0 u) : RefB t u := by
  obtain ⟨a1, a2, a3, a4⟩ := ht
  obtain ⟨u1, u2, u3, u4⟩ := hu
  refine ⟨fun x hx => by rw [u3 x (by omega), hc.1 x (by omega) (by omega), hb x (by omega), a3 x (by omega) (by omega)], ?_, ?_, ?_, fun j hj k hk => ?_⟩
  · rw [u1, hc.1 174 (by omega) (by omega), hb 174 (by omega), a1]
  · rw [u2 43 (by omega), hc.2 43 (by omega), hb2, a3 68 (by omega) (by omega)]
  · rw [u3 174 (by omega), hc.1 174 (by omega) (by omega), hb 174 (by omega), a2 1 (by omega)]
  · rw [u4 j hj k hk, hc.1 _ (by omega) (by omega), hb _ (by omega), a4 j hj k hk]
theorem s_rfw {t : Sg} {i : Nat} {post : Int → Sg → Prop} (hI : Inv t) (hi : i < nL t) (hp : ∀ u, RefB t u → post (fcV (delD (dD t) i) (nL t - 1)) u) : w_X10_facesWithout t (i : Int) post := by
  obtain ⟨h1, h2, h3, h4, h5, h6⟩ := inv_ls hI.1
  unfold w_X10_facesWithout
  refine s_X10_keep (by omega) fun a ha => ?_
  have ha0 : KepP t 0 a := ha
  have a68 : a 68 = t 68 := ha0.2.2.1 68 (by omega) (by omega)
  have aL : ∀ c, 69 ≤ c → c ≤ 72 → a c = t c := fun c q1 q2 => ha0.2.2.1 c (by omega) (by omega)
  have Lm := Base_m hI.1
  have La : LkOK a 69 (a 68 0) := by
    rw [a68]
    exact LkOK_cells Lm (aL 69 (by omega) (by omega)) (aL (69 + 1) (by omega) (by omega)) (aL (69 + 2) (by omega) (by omega)) (aL (69 + 3) (by omega) (by omega))
  refine s_X10_drops La (by rw [a68]; omega) fun b hb => ?_
  obtain ⟨b1, b2, b3, b4⟩ := hb
  have ln : ∀ k, k < 4 → ∀ j : Nat, (j : Int) < ((nL t - 1 : Nat) : Int) → b (68 + (k + 1)) j = delD (dD t) i k j := by
    intro k hk j hj
    have e : ∀ j : Nat, j < nL t → a (68 + (k + 1)) j = dD t k j := by
      intro j hj
      rw [aL (68 + (k + 1)) (by omega) (by omega)]
      obtain ⟨k0, k1, k2, k3⟩ := h5 j (by omega)
      match k, hk with
      | 0, _ => exact k0
      | 1, _ => exact k1
      | 2, _ => exact k2
      | 3, _ => exact k3
    rw [b4 (k + 1) (by omega) (by omega) j, a68]
    unfold delD
    by_cases c : i ≤ j
    · rw [if_pos (by omega), if_pos c]
      exact e (j + 1) (by omega)
    · rw [if_neg (by omega), if_neg c]
      exact e j (by omega)
  refine s_rfn (delD_ok h1 hi) (by rw [b1, a68]; omega) (fun j hj => ⟨ln 0 (by omega) j hj, ln 1 (by omega) j hj, ln 2 (by omega) j hj, ln 3 (by omega) j hj⟩) fun c hc => ?_
  refine s_X10_layBack (by omega) fun u hu => ?_
  exact hp u (bak_all ha0 (fun x hx => b3 x (by omega)) (b2 43 (by omega)) hc hu)
theorem T_without {s : Sg} {a : Int} (hI : Inv s) : w_X9_without s a (fun r1 s1 => w_X10_without s1 a (fun r2 s2 => r1 = r2 ∧ Inv s2)) := by
  obtain ⟨h1, h2, h3, h4, h5, h6⟩ := inv_ls hI.1
  unfold w_X9_without w_X10_without jn
  refine s_X2_has fun r hr => ⟨fun z => ?_, fun z => ?_⟩
  · refine s_X10_isLine (by omega) fun r2 hr2 => ⟨fun _ => ⟨rfl, hI⟩, fun z2 => ?_⟩
    rcases hr with e | e
    · omega
    · rcases hr2 with e2 | e2
      · omega
      · omega
  · have ha : 0 ≤ a ∧ a < s 1 0 := by
      rcases hr with e | e
      · exact e.2
      · exact absurd e.1 z
    obtain ⟨i, rfl⟩ : ∃ i : Nat, a = (i : Int) := ⟨a.toNat, by omega⟩
    refine s_cfw hI (by omega) fun v hv => ?_
    obtain ⟨hIv, eD, eN⟩ := ThF_inv hI hv
    have nv := inv_ls hIv.1
    refine s_X10_isLine (by omega) fun r2 hr2 => ⟨fun z2 => by rcases hr2 with e | e <;> omega, fun z2 => ?_⟩
    refine s_rfw hIv (by omega) fun u hu => ⟨by rw [eD, eN], (RefB_inv hIv hu).1⟩
/-- the line without which there are fewest -/
def mstF (W : Nat → Int) : Nat → Int × Int
  | 0 => (-1, -1)
  | k + 1 => if (mstF W k).1 = -1 ∨ W k < (mstF W k).2 then ((k : Int), W k) else mstF W k
theorem mst_s (W : Nat → Int) (k : Nat) : mstF W (k + 1) = if (mstF W k).1 = -1 ∨ W k < (mstF W k).2 then ((k : Int), W k) else mstF W k := rfl
theorem T_most {s : Sg} {a : Int} (hI : Inv s) : w_X9_most s a (fun r1 s1 => w_X10_most s1 a (fun r2 s2 => r1 = r2 ∧ Inv s2)) := by
  have bad : ¬ (0 ≤ a ∧ a ≤ 1) → w_X10_most s a (fun r2 s2 => (-2 : Int) = r2 ∧ Inv s2) := by
    intro hk
    unfold w_X10_most
    refine s_X10_in fun r hr => ⟨fun z => ?_, fun z => ⟨rfl, hI⟩⟩
    rcases hr with e | e
    · exact absurd e.2 hk
    · exact absurd e.1 z
  obtain ⟨W, eW⟩ : ∃ W : Nat → Int, W = fun i => fcV (delD (dD s) i) (nL s - 1) := ⟨_, rfl⟩
  have ref : ∀ (t : Sg) (r1 : Int), Inv t → dD t = dD s → nL t = nL s → (0 ≤ a ∧ a ≤ 1) → (a = 0 → r1 = (mstF W (nL s)).1) → (a = 1 → r1 = (mstF W (nL s)).2) → w_X10_most t a (fun r2 s2 => r1 = r2 ∧ Inv s2) := by
    intro t r1 hIt eD eN ha g0 g1
    unfold w_X10_most
    refine s_X10_in fun r hr => ⟨fun z => ?_, fun z => by rcases hr with e | e <;> omega⟩
    refine lr_3s (fun v w x y => ∃ k : Nat, x = (k : Int) ∧ k ≤ nL s ∧ Inv y ∧ dD y = dD s ∧ nL y = nL s ∧ v = (mstF W k).1 ∧ w = (mstF W k).2) (fun _ _ x _ => ((nL s : Int) - x).toNat) ?_ _ _ 0 t ⟨0, rfl, Nat.zero_le _, hIt, eD, eN, rfl, rfl⟩
    rintro again _ _ _ y ⟨k, rfl, hk, hIy, yD, yN, rfl, rfl⟩ ih
    have ny := inv_ls hIy.1
    rw [ny.2.2.2.1, yN]
    refine ⟨fun z2 => ?_, fun z2 => ?_⟩
    · have e : k = nL s := by omega
      subst e
      unfold jn
      exact ⟨fun z3 => ⟨g1 (by omega), hIy⟩, fun z3 => ⟨g0 z3, hIy⟩⟩
    · have b1 : ok32 ((k : Int) + 1) := ⟨by omega, by omega⟩
      have b2 : (k : Int) + 1 = ((k + 1 : Nat) : Int) := by omega
      refine s_rfw hIy (by omega) fun u hu => ?_
      obtain ⟨hIu, uD, uN⟩ := RefB_inv hIy hu
      have ew : fcV (delD (dD y) k) (nL y - 1) = W k := by rw [yD, yN, eW]
      rw [ew]
      unfold jn
      have new : ((mstF W k).1 = -1 ∨ W k < (mstF W k).2) → ∀ v, v = w32 ((k : Int) + 1) → again (k : Int) (W k) v u := by
        intro c v ev
        rw [ev, w32_id b1, b2]
        clear ev
        exact ih _ _ _ _ ⟨k + 1, rfl, by omega, hIu, uD.trans yD, uN.trans yN, by rw [mst_s, if_pos c], by rw [mst_s, if_pos c]⟩ (by omega)
      refine ⟨fun z3 => new (Or.inl z3), fun z3 => ⟨fun z4 => new (Or.inr z4), fun z4 v ev => ?_⟩⟩
      rw [ev, w32_id b1, b2]
      clear ev
      have c : ¬ ((mstF W k).1 = -1 ∨ W k < (mstF W k).2) := fun w => w.elim z3 z4
      exact ih _ _ _ _ ⟨k + 1, rfl, by omega, hIu, uD.trans yD, uN.trans yN, by rw [mst_s, if_neg c], by rw [mst_s, if_neg c]⟩ (by omega)
  unfold w_X9_most jn
  refine ⟨fun q => bad (by omega), fun q => ⟨fun q2 => ?_, fun q2 => bad (by omega)⟩⟩
  have ha : 0 ≤ a ∧ a ≤ 1 := by omega
  refine lr_3s (fun v w x y => ∃ k : Nat, x = (k : Int) ∧ k ≤ nL s ∧ Inv y ∧ dD y = dD s ∧ nL y = nL s ∧ v = (mstF W k).1 ∧ w = (mstF W k).2) (fun _ _ x _ => ((nL s : Int) - x).toNat) ?_ _ _ 0 s ⟨0, rfl, Nat.zero_le _, hI, rfl, rfl, rfl, rfl⟩
  rintro again _ _ _ y ⟨k, rfl, hk, hIy, yD, yN, rfl, rfl⟩ ih
  have ny := inv_ls hIy.1
  rw [ny.2.1, yN]
  refine ⟨fun z2 => ?_, fun z2 => ?_⟩
  · have e : k = nL s := by omega
    subst e
    exact ⟨fun z3 => ref y _ hIy yD yN ha (fun w => by omega) (fun _ => rfl), fun z3 => ref y _ hIy yD yN ha (fun _ => rfl) (fun w => by omega)⟩
  · have b1 : ok32 ((k : Int) + 1) := ⟨by omega, by omega⟩
    have b2 : (k : Int) + 1 = ((k + 1 : Nat) : Int) := by omega
    refine s_cfw hIy (by omega) fun u hu => ?_
    obtain ⟨hIu, uD, uN⟩ := ThF_inv hIy hu
    have ew : fcV (delD (dD y) k) (nL y - 1) = W k := by rw [yD, yN, eW]
    rw [ew]
    have new : ((mstF W k).1 = -1 ∨ W k < (mstF W k).2) → ∀ v, v = w32 ((k : Int) + 1) → again (k : Int) (W k) v u := by
      intro c v ev
      rw [ev, w32_id b1, b2]
      clear ev
      exact ih _ _ _ _ ⟨k + 1, rfl, by omega, hIu, uD.trans yD, uN.trans yN, by rw [mst_s, if_pos c], by rw [mst_s, if_pos c]⟩ (by omega)
    refine ⟨fun z3 => new (Or.inl z3), fun z3 => ⟨fun z4 v ev => ?_, fun z4 => new (Or.inr (by omega))⟩⟩
    rw [ev, w32_id b1, b2]
    clear ev
    have c : ¬ ((mstF W k).1 = -1 ∨ W k < (mstF W k).2) := fun w => w.elim z3 (fun w => by omega)
    exact ih _ _ _ _ ⟨k + 1, rfl, by omega, hIu, uD.trans yD, uN.trans yN, by rw [mst_s, if_neg c], by rw [mst_s, if_neg c]⟩ (by omega)
