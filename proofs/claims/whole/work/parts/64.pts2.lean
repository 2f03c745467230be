/-! what is asked of the points -/
theorem PInv_fr {s t : Sg} {c0 n m : Nat} {D : Nat → Nat → Int} {f : Nat → Int × Int × Int × Int} (h : PInv s c0 D n m f) (ho : ∀ c, c0 ≤ c → c ≤ c0 + 7 → t c = s c) : PInv t c0 D n m f := by
  obtain ⟨h1, h2, h3, h4, h5, ⟨lab, h6, h7, h8⟩, h9, h10⟩ := h
  refine ⟨h1, h2, by rw [ho c0 (by omega) (by omega)]; exact h3, fun j hj => ?_, fun p hp => by rw [ho (c0 + 5) (by omega) (by omega)]; exact h5 p hp, ⟨lab, h6, fun p hp => by rw [ho (c0 + 6) (by omega) (by omega)]; exact h7 p hp, by rw [ho c0 (by omega) (by omega)]; exact h8⟩, by rw [ho c0 (by omega) (by omega)]; exact h9, fun k hk => by rw [ho (c0 + 7) (by omega) (by omega)]; exact h10 k hk⟩
  rw [ho (c0 + 1) (by omega) (by omega), ho (c0 + 2) (by omega) (by omega), ho (c0 + 3) (by omega) (by omega), ho (c0 + 4) (by omega) (by omega)]
  exact h4 j hj
theorem s_X9_knowPoints {s : Sg} {n : Nat} {D : Nat → Nat → Int} {post : Sg → Prop} (h : LsD D (n : Int)) (hn : s 1 0 = (n : Int)) (hat : LnAt s 2 (n : Int) D) (hP : s 0 13 = 0 ∨ ∃ m f, PInv s 16 D n m f)
    (hp : ∀ (t : Sg) (m : Nat) (f : Nat → Int × Int × Int × Int), (∀ c, c ≠ 0 → (c < 16 ∨ 24 < c) → t c = s c) → (∀ o, o ≠ 13 → t 0 o = s 0 o) → PInv t 16 D n m f → post t) : w_X9_knowPoints s post := by
  unfold w_X9_knowPoints jn
  refine ⟨fun c => ?_, fun c => s_X4_find h hn hat (by omega) fun t m f to tP u eu => ?_⟩
  · rcases hP with e | ⟨m, f, hPI⟩
    · exact absurd e c
    · exact hp s m f (fun _ _ _ => rfl) (fun _ _ => rfl) hPI
  · subst eu
    refine hp _ m f (fun c h1 h2 => by rw [up_ne _ _ _ h1, to c (by omega)]) (fun o h1 => by rw [up_apply, if_neg (fun z => h1 z.2), to 0 (by omega)]) (PInv_fr tP fun c h1 h2 => up_ne _ _ _ (by omega))
theorem s_X4_countOn {s : Sg} {n m l : Nat} {D : Nat → Nat → Int} {f : Nat → Int × Int × Int × Int} {post : Int → Prop} (hn : n ≤ 10) (hP : PInv s 16 D n m f) (hl : l < n) (hp : post (cntN (fun p => onD D (f p) l) m : Int)) : w_X4_countOn s (l : Int) post := by
  unfold w_X4_countOn
  obtain ⟨h1, h2, h3, h4, h5, -⟩ := hP
  rw [h3]
  refine lr_2 (fun v w => ∃ p : Nat, w = (p : Int) ∧ p ≤ m ∧ v = (cntN (fun p => onD D (f p) l) p : Int)) (fun _ w => ((m : Int) - w).toNat) ?_ 0 0 ⟨0, rfl, Nat.zero_le _, rfl⟩
  rintro again _ _ ⟨p, rfl, hpm, rfl⟩ ih
  refine ⟨fun c => ?_, fun c => ⟨by omega, fun v ev w ew => ?_⟩⟩
  · have e : p = m := by omega
    rw [e]
    exact hp
  · have b1 : ok32 ((p : Int) + 1) := ⟨by omega, by omega⟩
    have b2 : (p : Int) + 1 = ((p + 1 : Nat) : Int) := by omega
    have cl := cntN_le (fun p => onD D (f p) l) p
    have e5 := h5 p (by omega)
    simp only [Nat.reduceAdd] at e5
    rw [Int.toNat_natCast, e5] at ev
    unfold thrP at ev
    rw [bit_at _ (by omega) (by omega)] at ev
    rw [ev, ew, w32_id b1, b2]
    clear ev ew
    refine ih _ _ ⟨p + 1, rfl, by omega, ?_⟩ (by omega)
    rw [cntN_s]
    by_cases z : onD D (f p) l = true
    · rw [if_pos ⟨hl, z⟩, if_pos z, w32_id (show ok32 ((cntN (fun p => onD D (f p) l) p : Int) + 1) from ⟨by omega, by omega⟩)]
      omega
    · rw [if_neg (fun y => z y.2), if_neg z, w32_id (show ok32 ((cntN (fun p => onD D (f p) l) p : Int) + 0) from ⟨by omega, by omega⟩)]
      omega
/-- how many ends are at a place -/
def enN (D : Nat → Nat → Int) (n : Nat) (q : Int × Int × Int × Int) : Nat := sm (fun l => ind (decide (q = endA D l)) + ind (decide (q = endB D l))) n
theorem enN_le (D : Nat → Nat → Int) (n : Nat) (q : Int × Int × Int × Int) : enN D n q ≤ 2 * n := by
  unfold enN
  rw [← sm_c]
  refine sm_le fun l _ => ?_
  have h1 := ind_le (decide (q = endA D l))
  have h2 := ind_le (decide (q = endB D l))
  omega
theorem q_end {q : Int × Int × Int × Int} {x y : Int} : q = (x, 1, y, 1) ↔ (q.2.1 = 1 ∧ q.2.2.2 = 1 ∧ x = q.1 ∧ y = q.2.2.1) := by
  obtain ⟨a, b, c, d⟩ := q
  simp only [Prod.mk.injEq]
  omega
theorem s_X4_endsAt {s : Sg} {n m p : Nat} {D : Nat → Nat → Int} {f : Nat → Int × Int × Int × Int} {post : Int → Prop} (h : LsD D (n : Int)) (hn : s 1 0 = (n : Int)) (hat : LnAt s 2 (n : Int) D) (hP : PInv s 16 D n m f) (hpm : p < m) (hp : post (enN D n (f p) : Int)) : w_X4_endsAt s (p : Int) post := by
  unfold w_X4_endsAt
  obtain ⟨h1, h2, h3, h4, h5, -⟩ := hP
  obtain ⟨e1, e2, e3, e4⟩ := h4 p hpm
  simp only [Nat.reduceAdd] at e1 e2 e3 e4
  have hn10 := h.1
  rw [Int.toNat_natCast, e1, e2, e3, e4, hn]
  have hEA : ∀ l, f p = endA D l ↔ ((f p).2.1 = 1 ∧ (f p).2.2.2 = 1 ∧ D 0 l = (f p).1 ∧ D 1 l = (f p).2.2.1) := fun l => q_end
  have hEB : ∀ l, f p = endB D l ↔ ((f p).2.1 = 1 ∧ (f p).2.2.2 = 1 ∧ D 2 l = (f p).1 ∧ D 3 l = (f p).2.2.1) := fun l => q_end
  have zero : ¬ ((f p).2.1 = 1 ∧ (f p).2.2.2 = 1) → post 0 := by
    intro z
    have : enN D n (f p) = 0 := by
      unfold enN
      refine sm_0 fun l _ => ?_
      rw [ind_f (by rw [decide_eq_true_iff, hEA]; omega), ind_f (by rw [decide_eq_true_iff, hEB]; omega)]
    rw [this] at hp
    exact hp
  refine ⟨by omega, ?_⟩
  unfold jn
  refine ⟨fun z => zero (fun y => z y.1), fun z1 => ⟨by omega, fun z2 => ?_, fun z => zero (fun y => z y.2)⟩⟩
  refine lr_2 (fun v w => ∃ l : Nat, w = (l : Int) ∧ l ≤ n ∧ v = (enN D l (f p) : Int)) (fun _ w => ((n : Int) - w).toNat) ?_ 0 0 ⟨0, rfl, Nat.zero_le _, rfl⟩
  rintro again _ _ ⟨l, rfl, hl, rfl⟩ ih
  refine ⟨fun c => ?_, fun c => ⟨by omega, by omega, ?_⟩⟩
  · have e : l = n := by omega
    rw [e]
    exact hp
  · obtain ⟨a1, a2, a3, a4⟩ := hat l (by omega)
    simp only [Nat.reduceAdd] at a1 a2 a3 a4
    rw [Int.toNat_natCast, a1, a2, a3, a4]
    have en : enN D (l + 1) (f p) = enN D l (f p) + (ind (decide (f p = endA D l)) + ind (decide (f p = endB D l))) := rfl
    have el := enN_le D l (f p)
    have b1 : ok32 ((l : Int) + 1) := ⟨by omega, by omega⟩
    have b2 : (l : Int) + 1 = ((l + 1 : Nat) : Int) := by omega
    have last : ∀ v : Int, v = ((enN D l (f p) + ind (decide (f p = endA D l)) : Nat) : Int) → (0 ≤ (l : Int) ∧ (l : Int) < 10) ∧ ((0 ≤ (p : Int) ∧ (p : Int) < 65) ∧ (jn (fun (K_14 : Int → Prop) => (¬ D 2 l = (f p).1 → K_14 v) ∧ (D 2 l = (f p).1 → (0 ≤ (l : Int) ∧ (l : Int) < 10) ∧ ((0 ≤ (p : Int) ∧ (p : Int) < 65) ∧ ((¬ D 3 l = (f p).2.2.1 → K_14 v) ∧ (D 3 l = (f p).2.2.1 → ∀ v3_18, v3_18 = w32 (v + 1) → (K_14 v3_18)))))) (fun (v3_13 : Int) => ∀ v4_15, v4_15 = w32 ((l : Int) + 1) → (again v3_13 v4_15)))) := by
      rintro v ev
      have i1 := ind_le (decide (f p = endA D l))
      have fin : ∀ w : Int, w = (enN D (l + 1) (f p) : Int) → ∀ v4_15, v4_15 = w32 ((l : Int) + 1) → (again w v4_15) := by
        rintro w rfl v4 e4
        rw [e4, w32_id b1, b2]
        clear e4
        exact ih _ _ ⟨l + 1, rfl, by omega, rfl⟩ (by omega)
      unfold jn
      refine ⟨by omega, by omega, fun z => fin _ ?_, fun z3 => ⟨by omega, by omega, fun z => fin _ ?_, fun z4 w ew => fin _ ?_⟩⟩
      · rw [ev, en, ind_f (p := decide (f p = endB D l)) (by rw [decide_eq_true_iff, hEB]; omega)]
        omega
      · rw [ev, en, ind_f (p := decide (f p = endB D l)) (by rw [decide_eq_true_iff, hEB]; omega)]
        omega
      · rw [ew, ev, w32_id (show ok32 (((enN D l (f p) + ind (decide (f p = endA D l)) : Nat) : Int) + 1) from ⟨by omega, by omega⟩), en, ind_t (p := decide (f p = endB D l)) (by rw [decide_eq_true_iff, hEB]; omega)]
        omega
    unfold jn at last
    refine ⟨fun z => last _ ?_, fun z3 => ⟨by omega, by omega, fun z => last _ ?_, fun z4 w ew => last _ ?_⟩⟩
    · rw [ind_f (p := decide (f p = endA D l)) (by rw [decide_eq_true_iff, hEA]; omega)]
      omega
    · rw [ind_f (p := decide (f p = endA D l)) (by rw [decide_eq_true_iff, hEA]; omega)]
      omega
    · rw [ew, w32_id (show ok32 ((enN D l (f p) : Int) + 1) from ⟨by omega, by omega⟩), ind_t (p := decide (f p = endA D l)) (by rw [decide_eq_true_iff, hEA]; omega)]
      omega
theorem s_X10_endsAt {s : Sg} {n m p : Nat} {D : Nat → Nat → Int} {f : Nat → Int × Int × Int × Int} {post : Int → Prop} (h : LsD D (n : Int)) (hP : PtsOf D n f m) (hm : m ≤ 65) (hR : RPt s D n m f) (hpm : p < m) (hp : post (enN D n (f p) : Int)) : w_X10_endsAt s (p : Int) post := by
  unfold w_X10_endsAt
  obtain ⟨hn, hat, hsz, hpt⟩ := hR
  have hn10 := h.1
  obtain ⟨pb, pr⟩ := hP.1.2 p hpm
  rw [hn]
  refine lr_2 (fun v w => ∃ l : Nat, w = (l : Int) ∧ l ≤ n ∧ v = (enN D l (f p) : Int)) (fun _ w => ((n : Int) - w).toNat) ?_ 0 0 ⟨0, rfl, Nat.zero_le _, rfl⟩
  rintro again _ _ ⟨l, rfl, hl, rfl⟩ ih
  refine ⟨fun c => ?_, fun c => ⟨by omega, by omega, ?_⟩⟩
  · have e : l = n := by omega
    rw [e]
    exact hp
  · obtain ⟨a1, a2, a3, a4⟩ := hat l (by omega)
    simp only [Nat.reduceAdd] at a1 a2 a3 a4
    have he := end_ok h (i := l) (by omega)
    have en : enN D (l + 1) (f p) = enN D l (f p) + (ind (decide (f p = endA D l)) + ind (decide (f p = endB D l))) := rfl
    have el := enN_le D l (f p)
    have b1 : ok32 ((l : Int) + 1) := ⟨by omega, by omega⟩
    have b2 : (l : Int) + 1 = ((l + 1 : Nat) : Int) := by omega
    have hA : cmpP (f p) (endA D l) = 0 ↔ f p = endA D l := ⟨fun z => cmpP_eq pb he.1.1 pr he.1.2 z, fun z => by rw [z]; exact (cmpP_iff _ _).2.1.mpr ⟨by have := crX_sw (endA D l) (endA D l); omega, by have := crY_sw (endA D l) (endA D l); omega⟩⟩
    have hB : cmpP (f p) (endB D l) = 0 ↔ f p = endB D l := ⟨fun z => cmpP_eq pb he.2.1 pr he.2.2 z, fun z => by rw [z]; exact (cmpP_iff _ _).2.1.mpr ⟨by have := crX_sw (endB D l) (endB D l); omega, by have := crY_sw (endB D l) (endB D l); omega⟩⟩
    have i1 := ind_le (decide (f p = endA D l))
    have fin : ∀ w : Int, w = (enN D (l + 1) (f p) : Int) → ∀ v4_15, v4_15 = w32 ((l : Int) + 1) → (again w v4_15) := by
      rintro w rfl v4 e4
      rw [e4, w32_id b1, b2]
      clear e4
      exact ih _ _ ⟨l + 1, rfl, by omega, rfl⟩ (by omega)
    rw [Int.toNat_natCast, a1, a2, a3, a4]
    have last : ∀ v : Int, v = ((enN D l (f p) + ind (decide (f p = endA D l)) : Nat) : Int) → (0 ≤ (l : Int) ∧ (l : Int) < 10) ∧ ((0 ≤ (l : Int) ∧ (l : Int) < 10) ∧ (w_X10_pointAgainst s (p : Int) (D 2 l) 1 (D 3 l) 1 (fun r_11 => jn (fun (K_13 : Int → Prop) => (¬ r_11 = 0 → K_13 v) ∧ (r_11 = 0 → ∀ v2_15, v2_15 = w32 (v + 1) → (K_13 v2_15))) (fun (v2_12 : Int) => ∀ v3_14, v3_14 = w32 ((l : Int) + 1) → (again v2_12 v3_14))))) := by
      intro v ev
      refine ⟨by omega, by omega, s_X10_pointAgainst (p := f p) (q := endB D l) (by omega) pb he.2.1 (hpt p hpm) ?_⟩
      unfold jn
      refine ⟨fun z => fin _ ?_, fun z w ew => fin _ ?_⟩
      · rw [ev, en, ind_f (p := decide (f p = endB D l)) (by rw [decide_eq_true_iff]; exact fun y => z (hB.mpr y))]
        omega
      · rw [ew, ev, w32_id (show ok32 (((enN D l (f p) + ind (decide (f p = endA D l)) : Nat) : Int) + 1) from ⟨by omega, by omega⟩), en, ind_t (p := decide (f p = endB D l)) (by rw [decide_eq_true_iff]; exact hB.mp z)]
        omega
    refine s_X10_pointAgainst (p := f p) (q := endA D l) (by omega) pb he.1.1 (hpt p hpm) ?_
    unfold jn at last ⊢
    refine ⟨fun z => last _ ?_, fun z w ew => last _ ?_⟩
    · rw [ind_f (p := decide (f p = endA D l)) (by rw [decide_eq_true_iff]; exact fun y => z (hA.mpr y))]
      omega
    · rw [ew, w32_id (show ok32 ((enN D l (f p) : Int) + 1) from ⟨by omega, by omega⟩), ind_t (p := decide (f p = endA D l)) (by rw [decide_eq_true_iff]; exact hA.mp z)]
      omega
theorem s_X10_pointsOn {s : Sg} {n m l : Nat} {D : Nat → Nat → Int} {f : Nat → Int × Int × Int × Int} {post : Int → Prop} (h : LsD D (n : Int)) (hP : PtsOf D n f m) (hm : m ≤ 65) (hR : RPt s D n m f) (hl : l < n) (hp : post (cntN (fun p => onD D (f p) l) m : Int)) : w_X10_pointsOn s (l : Int) post := by
  unfold w_X10_pointsOn
  have hn10 := h.1
  rw [hR.2.2.1]
  refine lr_2 (fun v w => ∃ p : Nat, w = (p : Int) ∧ p ≤ m ∧ v = (cntN (fun p => onD D (f p) l) p : Int)) (fun _ w => ((m : Int) - w).toNat) ?_ 0 0 ⟨0, rfl, Nat.zero_le _, rfl⟩
  rintro again _ _ ⟨p, rfl, hpm, rfl⟩ ih
  refine ⟨fun c => ?_, fun c => s_X10_linesAt h hP hm hR (by omega) ?_⟩
  · have e : p = m := by omega
    rw [e]
    exact hp
  · have b1 : ok32 ((p : Int) + 1) := ⟨by omega, by omega⟩
    have b2 : (p : Int) + 1 = ((p + 1 : Nat) : Int) := by omega
    have cl := cntN_le (fun p => onD D (f p) l) p
    unfold thrP jn
    rw [bit_at _ (by omega) (by omega)]
    have fin : ∀ w : Int, w = (cntN (fun p => onD D (f p) l) (p + 1) : Int) → ∀ v3, v3 = w32 ((p : Int) + 1) → again w v3 := by
      rintro w rfl v3 e3
      rw [e3, w32_id b1, b2]
      clear e3
      exact ih _ _ ⟨p + 1, rfl, by omega, rfl⟩ (by omega)
    by_cases z : onD D (f p) l = true
    · rw [if_pos ⟨hl, z⟩]
      refine ⟨fun y => absurd rfl y, fun _ w ew => fin _ ?_⟩
      rw [ew, w32_id (show ok32 ((cntN (fun p => onD D (f p) l) p : Int) + 1) from ⟨by omega, by omega⟩), cntN_s, if_pos z]
      omega
    · rw [if_neg (fun y => z y.2)]
      refine ⟨fun _ => fin _ ?_, fun y => absurd y (by decide)⟩
      rw [cntN_s, if_neg z]
theorem s_X10_partsMany {s : Sg} {n m : Nat} {D : Nat → Nat → Int} {f : Nat → Int × Int × Int × Int} {post : Int → Sg → Prop} (h : LsD D (n : Int)) (hP : PtsOf D n f m) (hm : m ≤ 65) (hR : RPt s D n m f) (hp : ∀ (t : Sg) (lab : Nat → Nat), (∀ c, c ≠ 77 → t c = s c) → LabOf (nxR D f n) m lab → post (cntN (fun i => lab i == i) m : Int) t) : w_X10_partsMany s post := by
  unfold w_X10_partsMany
  refine s_X10_tellPieces h hP hm hR fun t lab to tl ta => ?_
  have e9 : t 68 9 = (m : Int) := by rw [to 68 (by omega)]; exact hR.2.2.1
  rw [e9]
  refine lr_2 (fun v w => ∃ p : Nat, w = (p : Int) ∧ p ≤ m ∧ v = (cntN (fun i => lab i == i) p : Int)) (fun _ w => ((m : Int) - w).toNat) ?_ 0 0 ⟨0, rfl, Nat.zero_le _, rfl⟩
  rintro again _ _ ⟨p, rfl, hpm, rfl⟩ ih
  refine ⟨fun c => ?_, fun c => ⟨by omega, ?_⟩⟩
  · have e : p = m := by omega
    rw [e]
    exact hp t lab to tl
  · have b1 : ok32 ((p : Int) + 1) := ⟨by omega, by omega⟩
    have b2 : (p : Int) + 1 = ((p + 1 : Nat) : Int) := by omega
    have cl := cntN_le (fun i => lab i == i) p
    have fin : ∀ w : Int, w = (cntN (fun i => lab i == i) (p + 1) : Int) → ∀ v3, v3 = w32 ((p : Int) + 1) → again w v3 := by
      rintro w rfl v3 e3
      rw [e3, w32_id b1, b2]
      clear e3
      exact ih _ _ ⟨p + 1, rfl, by omega, rfl⟩ (by omega)
    unfold jn
    rw [Int.toNat_natCast, ta p (by omega)]
    refine ⟨fun z => fin _ ?_, fun z w ew => fin _ ?_⟩
    · rw [cntN_s, if_neg (by rw [beq_iff_eq]; omega)]
    · rw [ew, w32_id (show ok32 ((cntN (fun i => lab i == i) p : Int) + 1) from ⟨by omega, by omega⟩), cntN_s, if_pos (by rw [beq_iff_eq]; omega)]
      omega
def twR (D : Nat → Nat → Int) (n : Nat) (k : Int) : Nat := sm (fun a => cntN (fun b => decide (mK D a b = k)) a) n
theorem tw_eq {D : Nat → Nat → Int} {n : Nat} (h : LsD D (n : Int)) (k : Int) : twR D n k = twN D n k := by
  have e1 : twR D n k = sm (fun a => sm (fun b => ind (decide (b < a ∧ mK D a b = k))) n) n := by
    unfold twR
    refine sm_congr fun a ha => ?_
    have : sm (fun b => ind (decide (b < a ∧ mK D a b = k))) n = sm (fun b => ind (decide (b < a ∧ mK D a b = k))) a := by
      have e : n = a + (n - a) := by omega
      rw [e, sm_split, sm_0 (f := fun i => ind (decide (a + i < a ∧ mK D a (a + i) = k))) (fun i _ => ind_f (by rw [decide_eq_true_iff]; omega))]
      omega
    rw [this, cnt_sm]
    refine sm_congr fun b hb => ?_
    congr 1
    exact decide_eq_decide.mpr ⟨fun z => ⟨hb, z⟩, fun z => z.2⟩
  have e2 : twN D n k = sm (fun b => sm (fun a => ind (decide (b < a ∧ mK D a b = k))) n) n := by
    unfold twN
    refine sm_congr fun b hb => ?_
    rw [cnt_sm]
    refine sm_congr fun a ha => ?_
    congr 1
    refine decide_eq_decide.mpr (and_congr Iff.rfl ?_)
    rw [mK_sw h (a := a) (b := b) (by omega) (by omega)]
  rw [e1, e2, sm_swap]
theorem s_X10_twos {s : Sg} {n : Nat} {k : Int} {D : Nat → Nat → Int} {post : Int → Sg → Prop} (h : LsD D (n : Int)) (hn : s 68 0 = (n : Int)) (hat : LnAt s 69 (n : Int) D) (hp : ∀ t : Sg, (∀ c, c ≠ 68 → t c = s c) → (∀ o, (o < 5 ∨ 8 < o) → t 68 o = s 68 o) → post (twR D n k : Int) t) : w_X10_twos s k post := by
  unfold w_X10_twos
  have hn10 := h.1
  have hbd : ∀ a, a ≤ n → sm (fun a => cntN (fun b => decide (mK D a b = k)) a) a ≤ 45 := by
    intro a ha
    have h1 : sm (fun a => cntN (fun b => decide (mK D a b = k)) a) a ≤ sm (fun a => a) a := sm_le fun i _ => cntN_le _ _
    have h2 := tri2 a (by omega)
    omega
  refine lr_2s (fun v w t => ∃ a : Nat, w = (a : Int) ∧ a ≤ n ∧ v = (sm (fun a => cntN (fun b => decide (mK D a b = k)) a) a : Int) ∧ (∀ c, c ≠ 68 → t c = s c) ∧ (∀ o, (o < 5 ∨ 8 < o) → t 68 o = s 68 o)) (fun _ w _ => ((n : Int) - w).toNat) ?_ 0 0 s ⟨0, rfl, Nat.zero_le _, rfl, fun _ _ => rfl, fun _ _ => rfl⟩
  rintro again _ _ t ⟨a, rfl, ha, rfl, to, to2⟩ ih
  rw [to2 0 (by omega), hn]
  refine ⟨fun c => ?_, fun c => ?_⟩
  · have e : a = n := by omega
    subst e
    exact hp t to to2
  · have b1 : ok32 ((a : Int) + 1) := ⟨by omega, by omega⟩
    have b2 : (a : Int) + 1 = ((a + 1 : Nat) : Int) := by omega
    have hb := hbd a ha
    refine lr_2s (fun v w t => ∃ b : Nat, w = (b : Int) ∧ b ≤ a ∧ v = ((sm (fun a => cntN (fun b => decide (mK D a b = k)) a) a + cntN (fun b => decide (mK D a b = k)) b : Nat) : Int) ∧ (∀ c, c ≠ 68 → t c = s c) ∧ (∀ o, (o < 5 ∨ 8 < o) → t 68 o = s 68 o)) (fun _ w _ => ((a : Int) - w).toNat) ?_ _ 0 t ⟨0, rfl, Nat.zero_le _, rfl, to, to2⟩
    rintro again2 _ _ u ⟨b, rfl, hba, rfl, uo, uo2⟩ ih2
    have cl := cntN_le (fun b => decide (mK D a b = k)) b
    refine ⟨fun q v ev => ?_, fun q => ?_⟩
    · have e : b = a := by omega
      subst e
      rw [ev, w32_id b1, b2]
      clear ev
      exact ih _ _ _ ⟨b + 1, rfl, by omega, rfl, uo, uo2⟩ (by omega)
    · have b3 : ok32 ((b : Int) + 1) := ⟨by omega, by omega⟩
      have b4 : (b : Int) + 1 = ((b + 1 : Nat) : Int) := by omega
      refine s_X10_meet h (fun x hx => by rw [uo 69 (by omega), uo (69 + 1) (by omega), uo (69 + 2) (by omega), uo (69 + 3) (by omega)]; exact hat x hx) (by omega) (by omega) fun z zo zo2 zm => ?_
      have fin : ∀ w : Int, w = ((sm (fun a => cntN (fun b => decide (mK D a b = k)) a) a + cntN (fun b => decide (mK D a b = k)) (b + 1) : Nat) : Int) → ∀ v3, v3 = w32 ((b : Int) + 1) → again2 w v3 z := by
        rintro w rfl v3 e3
        rw [e3, w32_id b3, b4]
        clear e3
        exact ih2 _ _ _ ⟨b + 1, rfl, by omega, rfl, fun c hc => by rw [zo c hc, uo c hc], fun o h1 => by rw [zo2 o (by omega) (by omega) (by omega) (by omega), uo2 o h1]⟩ (by omega)
      unfold jn
      rw [zm.1]
      refine ⟨fun y => fin _ ?_, fun y w ew => fin _ ?_⟩
      · rw [cntN_s, if_neg (by rw [decide_eq_true_iff]; exact y)]
      · rw [ew, w32_id (show ok32 (((sm (fun a => cntN (fun b => decide (mK D a b = k)) a) a + cntN (fun b => decide (mK D a b = k)) b : Nat) : Int) + 1) from ⟨by omega, by omega⟩), cntN_s, if_pos (by rw [decide_eq_true_iff]; exact y)]
        omega
