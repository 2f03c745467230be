/-! told, point -/
theorem ref_pts {s t : Sg} (h1 : ∀ c, c ≠ 68 → (c < 73 ∨ 77 ≤ c) → t c = s c) (h2 : ∀ o, (o < 5 ∨ 9 < o) → t 68 o = s 68 o) : RefF s t := ⟨fun c hc => h1 c (by omega) (by omega), h2 0 (by omega), h2 43 (by omega)⟩
/-- after the class: what the reference has -/
theorem cls_ref {s t : Sg} (hI : Inv t) (h : ClsF s t) : LsD (dD s) (nL s : Int) ∧ t 68 0 = (nL s : Int) ∧ LnAt t 69 (nL s : Int) (dD s) ∧ nL s ≤ 10 ∧ t 1 0 = (nL s : Int) ∧ LnAt t 2 (nL s : Int) (dD s) := by
  obtain ⟨eD, eN⟩ := cls_D h
  obtain ⟨h1, h2, h3, h4, h5, h6⟩ := inv_ls hI.1
  rw [eD, eN] at h1 h3 h5
  rw [eN] at h2 h4 h6
  exact ⟨h1, h4, h5, h6, h2, h3⟩
theorem s_rtold {s : Sg} {a k : Int} {post : Int → Sg → Prop} (hn : 0 ≤ s 68 0 ∧ s 68 0 ≤ 10) (hno : ¬ ((0 ≤ a ∧ a < s 68 0) ∧ 0 ≤ k ∧ k ≤ 7) → post (-2) s)
    (h0 : (0 ≤ a ∧ a < s 68 0) → k = 0 → post (s 69 a.toNat) s) (h1 : (0 ≤ a ∧ a < s 68 0) → k = 1 → post (s 70 a.toNat) s) (h2 : (0 ≤ a ∧ a < s 68 0) → k = 2 → post (s 71 a.toNat) s) (h3 : (0 ≤ a ∧ a < s 68 0) → k = 3 → post (s 72 a.toNat) s)
    (h4 : (0 ≤ a ∧ a < s 68 0) → k = 4 → post (if s 69 a.toNat = s 71 a.toNat then 1 else 0) s)
    (h5 : (0 ≤ a ∧ a < s 68 0) → k = 5 → w_X10_tellPoints s (fun s_18 => w_X10_pointsOn s_18 a (fun r_19 => post r_19 s_18)))
    (h6 : (0 ≤ a ∧ a < s 68 0) → k = 6 → w_X10_tellHulls s (fun _ s_5 => w_X10_placeAt s_5 (s_5 69 a.toNat) (s_5 70 a.toNat) (fun t_6 s_7 => (0 ≤ t_6 ∧ t_6 < 20) ∧ (post (s_7 80 t_6.toNat) s_7))))
    (h7 : (0 ≤ a ∧ a < s 68 0) → k = 7 → w_X10_tellHulls s (fun _ s_5 => w_X10_placeAt s_5 (s_5 71 a.toNat) (s_5 72 a.toNat) (fun t_6 s_7 => (0 ≤ t_6 ∧ t_6 < 20) ∧ (post (s_7 80 t_6.toNat) s_7)))) : w_X10_told s a k post := by
  unfold w_X10_told jn
  refine s_X10_isLine hn fun r hr => ⟨fun z => ?_, fun z => ?_⟩
  · rcases hr with e | e
    · omega
    · exact hno fun w => e.2 w.1
  · have ha : 0 ≤ a ∧ a < s 68 0 := by
      rcases hr with e | e
      · exact e.2
      · exact absurd e.1 z
    have a10 : 0 ≤ a ∧ a < 10 := by omega
    refine s_X10_in fun r2 hr2 => ⟨fun z2 => ?_, fun z2 => ?_⟩
    · have hk : 0 ≤ k ∧ k ≤ 7 := by
        rcases hr2 with e | e
        · exact e.2
        · exact absurd e.1 z2
      refine ⟨fun _ => ⟨fun _ => ⟨fun _ => ?_, fun e => h5 ha e⟩, fun e => ?_⟩, fun _ => ⟨fun _ => ⟨fun _ => ⟨fun _ => ⟨a10, h3 ha (by omega)⟩, fun e => ⟨a10, h2 ha e⟩⟩, fun e => ⟨a10, h1 ha e⟩⟩, fun e => ⟨a10, h0 ha e⟩⟩⟩
      · by_cases k6 : k = 6
        · have := h6 ha k6
          rw [k6]
          simpa only [not_true_eq_false, false_implies, true_implies, true_and, a10, and_self] using this
        · have := h7 ha (by omega)
          simpa only [k6, not_false_eq_true, false_implies, true_implies, and_true, true_and, a10, and_self] using this
      · refine s_X10_isUpright a10 fun r4 hr4 => ⟨fun e4 => ?_, fun e4 => ?_⟩
        · have := h4 ha e
          rw [if_neg (by rcases hr4 with w | w <;> omega)] at this
          exact this
        · have := h4 ha e
          rw [if_pos (by rcases hr4 with w | w; exact w.2; omega)] at this
          exact this
    · rcases hr2 with e | e
      · omega
      · exact hno fun w => e.2 w.2
theorem pl_one {D : Nat → Nat → Int} {n : Nat} (h : LsD D (n : Int)) {p q : Nat} (hp : p < pM D n) (hq : q < pM D n) (e1 : pX D n p = pX D n q) (e2 : pY D n p = pY D n q) : p = q := (pl_facts h).2.1 p q hp hq e1 e2
/-- a hull told by the class, by the reference -/
theorem cls_hull {s : Sg} {D : Nat → Nat → Int} {n : Nat} {x y : Int} {post : Int → Prop} (h : LsD D (n : Int)) (hH : HInv s D n) (hex : ∃ p, p < pM D n ∧ pX D n p = x ∧ pY D n p = y)
    (hp : ∀ p H, p < pM D n → pX D n p = x → pY D n p = y → HlE (pX D n) (pY D n) (pM D n) H → post (hlN (pX D n) (pY D n) (pM D n) H p)) : w_X1_hullOf s x y post := by
  obtain ⟨H, e1, e2, e3, e4⟩ := hH
  obtain ⟨f1, f2, f3, f4⟩ := pl_facts h
  obtain ⟨p, hp1, hx, hy⟩ := hex
  refine s_X1_hullOf e3 f1 (fun p hp => ⟨(e4 p hp).1, (e4 p hp).2.1⟩) (fun q hq qx qy => ?_) (fun hno => absurd ⟨hx, hy⟩ (hno p hp1))
  rw [(e4 q hq).2.2]
  exact hp q H hq qx qy e1
theorem ref_hull {t : Sg} {D : Nat → Nat → Int} {n i cx cy p H : Nat} {post : Int → Sg → Prop} (h : LsD D (n : Int)) (hn : t 68 0 = (n : Int)) (hat : LnAt t 69 (n : Int) D) (hcx : 69 ≤ cx ∧ cx ≤ 72) (hcy : 69 ≤ cy ∧ cy ≤ 72) (hp1 : p < pM D n) (hx : pX D n p = t cx i) (hy : pY D n p = t cy i) (hH : HlE (pX D n) (pY D n) (pM D n) H)
    (hp : ∀ u, RefF t u → post (hlN (pX D n) (pY D n) (pM D n) H p) u) : w_X10_tellHulls t (fun _ s_5 => w_X10_placeAt s_5 (s_5 cx i) (s_5 cy i) (fun t_6 s_7 => (0 ≤ t_6 ∧ t_6 < 20) ∧ (post (s_7 80 t_6.toNat) s_7))) := by
  obtain ⟨f1, f2, f3, f4⟩ := pl_facts h
  refine s_X10_tellHulls h hn hat fun u H2 uF uH uR => ?_
  have eH := HlE_one hH uH
  subst eH
  have rf : RefF t u := ⟨fun c hc => uF.1 c (by omega) (by omega), uF.2 0 (by omega), uF.2 43 (by omega)⟩
  rw [rf.1 cx (by omega), rf.1 cy (by omega), ← hx, ← hy]
  refine s_X10_placeAt uR.1 f1 (fun p hp => ⟨(uR.2 p hp).1, (uR.2 p hp).2.1⟩) (fun r hr rx ry => ⟨by omega, ?_⟩) (fun hno => absurd ⟨rfl, rfl⟩ (hno p hp1))
  have er : r = p := pl_one h hr hp1 rx ry
  subst er
  rw [Int.toNat_natCast, (uR.2 r hr).2.2]
  exact hp u rf
theorem T_told {s : Sg} {a k : Int} (hI : Inv s) : w_X9_told s a k (fun r1 s1 => w_X10_told s1 a k (fun r2 s2 => r1 = r2 ∧ Inv s2)) := by
  obtain ⟨g1, g2, g3, g4, g5, g6⟩ := inv_ls hI.1
  have n68 : 0 ≤ s 68 0 ∧ s 68 0 ≤ 10 := by omega
  unfold w_X9_told
  refine s_X2_has fun r hr => ⟨fun z => ?_, fun z => ?_⟩
  · have ha : 0 ≤ a ∧ a < s 1 0 := by
      rcases hr with e | e
      · exact e.2
      · exact absurd e.1 z
    have a10 : 0 ≤ a ∧ a < 10 := by omega
    obtain ⟨i, rfl⟩ : ∃ i : Nat, a = (i : Int) := ⟨a.toNat, by omega⟩
    have hi : i < nL s := by omega
    have hi' : (i : Int) < (nL s : Int) := by omega
    rw [Int.toNat_natCast]
    obtain ⟨c2, c3, c4, c5⟩ := g3 i hi'
    obtain ⟨d2, d3, d4, d5⟩ := g5 i hi'
    have c3 : s 3 i = dD s 1 i := c3
    have c4 : s 4 i = dD s 2 i := c4
    have c5 : s 5 i = dD s 3 i := c5
    have d3 : s 70 i = dD s 1 i := d3
    have d4 : s 71 i = dD s 2 i := d4
    have d5 : s 72 i = dD s 3 i := d5
    have bad : ∀ r1 : Int, ¬ (0 ≤ k ∧ k ≤ 7) → r1 = -2 → w_X10_told s (i : Int) k (fun r2 s2 => r1 = r2 ∧ Inv s2) := fun r1 hk e => s_rtold n68 (fun _ => ⟨e, hI⟩) (fun _ e => by omega) (fun _ e => by omega) (fun _ e => by omega) (fun _ e => by omega) (fun _ e => by omega) (fun _ e => by omega) (fun _ e => by omega) (fun _ e => by omega)
    refine ⟨fun e => ⟨a10, ?_⟩, fun e => ⟨a10, ?_⟩, fun e => ⟨a10, ?_⟩, fun e => ⟨a10, ?_⟩, fun e => ?_, fun e => ?_, fun e => ?_, fun e => ?_, fun e => bad _ (by omega) rfl⟩
    · refine s_rtold n68 (fun w => by omega) (fun _ _ => ⟨by rw [Int.toNat_natCast, c2, d2], hI⟩) (fun _ e => by omega) (fun _ e => by omega) (fun _ e => by omega) (fun _ e => by omega) (fun _ e => by omega) (fun _ e => by omega) (fun _ e => by omega)
    · refine s_rtold n68 (fun w => by omega) (fun _ e => by omega) (fun _ _ => ⟨by rw [Int.toNat_natCast, c3, d3], hI⟩) (fun _ e => by omega) (fun _ e => by omega) (fun _ e => by omega) (fun _ e => by omega) (fun _ e => by omega) (fun _ e => by omega)
    · refine s_rtold n68 (fun w => by omega) (fun _ e => by omega) (fun _ e => by omega) (fun _ _ => ⟨by rw [Int.toNat_natCast, c4, d4], hI⟩) (fun _ e => by omega) (fun _ e => by omega) (fun _ e => by omega) (fun _ e => by omega) (fun _ e => by omega)
    · refine s_rtold n68 (fun w => by omega) (fun _ e => by omega) (fun _ e => by omega) (fun _ e => by omega) (fun _ _ => ⟨by rw [Int.toNat_natCast, c5, d5], hI⟩) (fun _ e => by omega) (fun _ e => by omega) (fun _ e => by omega) (fun _ e => by omega)
    · refine s_X2_isUpright a10 fun r4 hr4 => ?_
      rw [Int.toNat_natCast, c2, c4] at hr4
      have fin : ∀ r1 : Int, (r1 = if dD s 0 i = dD s 2 i then 1 else 0) → w_X10_told s (i : Int) k (fun r2 s2 => r1 = r2 ∧ Inv s2) := fun r1 e1 => s_rtold n68 (fun w => by omega) (fun _ e => by omega) (fun _ e => by omega) (fun _ e => by omega) (fun _ e => by omega) (fun _ _ => ⟨by rw [Int.toNat_natCast, d2, d4]; exact e1, hI⟩) (fun _ e => by omega) (fun _ e => by omega) (fun _ e => by omega)
      unfold jn
      refine ⟨fun e4 => fin 0 ?_, fun e4 => fin 1 ?_⟩
      · rw [if_neg (by rcases hr4 with w | w <;> omega)]
      · rw [if_pos (by rcases hr4 with w | w; exact w.2; omega)]
    · refine s_kPts hI fun t m f hIt hc tP => ?_
      obtain ⟨q1, q2, q3, q4, q5, q6⟩ := cls_ref hIt hc
      refine s_X4_countOn q4 tP hi ?_
      refine s_rtold (by omega) (fun w => by omega) (fun _ e => by omega) (fun _ e => by omega) (fun _ e => by omega) (fun _ e => by omega) (fun _ e => by omega) (fun _ _ => ?_) (fun _ e => by omega) (fun _ e => by omega)
      refine s_X10_tellPoints q1 q2 q3 tP.1 fun u u1 u2 u9 up => ?_
      have rf := ref_pts u1 u2
      refine s_X10_pointsOn q1 tP.1 tP.2.1 ⟨by rw [rf.2.1]; exact q2, RefF_at rf q3, u9, up⟩ hi ⟨rfl, Inv_ref hIt rf⟩
    · refine s_kHulls hI fun t hIt hc tH => ⟨a10, a10, ?_⟩
      obtain ⟨q1, q2, q3, q4, q5, q6⟩ := cls_ref hIt hc
      obtain ⟨w2, w3, w4, w5⟩ := q6 i hi'
      obtain ⟨v2, v3, v4, v5⟩ := q3 i hi'
      have w3 : t 3 i = dD s 1 i := w3
      rw [w2, w3]
      refine cls_hull q1 tH ((pl_facts q1).2.2.2 i hi).1 fun p H hp hx hy hH => ?_
      refine s_rtold (by omega) (fun w => by omega) (fun _ e => by omega) (fun _ e => by omega) (fun _ e => by omega) (fun _ e => by omega) (fun _ e => by omega) (fun _ e => by omega) (fun _ _ => ?_) (fun _ e => by omega)
      rw [Int.toNat_natCast]
      exact ref_hull (cx := 69) (cy := 70) (post := fun r2 s2 => hlN (pX (dD s) (nL s)) (pY (dD s) (nL s)) (pM (dD s) (nL s)) H p = r2 ∧ Inv s2) q1 q2 q3 (by omega) (by omega) hp (by rw [v2]; exact hx) (by rw [hy]; exact v3.symm) hH fun u rf => ⟨rfl, Inv_ref hIt rf⟩
    · refine s_kHulls hI fun t hIt hc tH => ⟨a10, a10, ?_⟩
      obtain ⟨q1, q2, q3, q4, q5, q6⟩ := cls_ref hIt hc
      obtain ⟨w2, w3, w4, w5⟩ := q6 i hi'
      obtain ⟨v2, v3, v4, v5⟩ := q3 i hi'
      have w4 : t 4 i = dD s 2 i := w4
      have w5 : t 5 i = dD s 3 i := w5
      rw [w4, w5]
      refine cls_hull q1 tH ((pl_facts q1).2.2.2 i hi).2 fun p H hp hx hy hH => ?_
      refine s_rtold (by omega) (fun w => by omega) (fun _ e => by omega) (fun _ e => by omega) (fun _ e => by omega) (fun _ e => by omega) (fun _ e => by omega) (fun _ e => by omega) (fun _ e => by omega) (fun _ _ => ?_)
      rw [Int.toNat_natCast]
      exact ref_hull (cx := 71) (cy := 72) (post := fun r2 s2 => hlN (pX (dD s) (nL s)) (pY (dD s) (nL s)) (pM (dD s) (nL s)) H p = r2 ∧ Inv s2) q1 q2 q3 (by omega) (by omega) hp (by rw [hx]; exact v4.symm) (by rw [hy]; exact v5.symm) hH fun u rf => ⟨rfl, Inv_ref hIt rf⟩
  · refine s_rtold n68 (fun _ => ⟨rfl, hI⟩) ?_ ?_ ?_ ?_ ?_ ?_ ?_ ?_ <;> intro w <;> exfalso <;> rcases hr with e | e <;> omega
theorem s_rpoint {s : Sg} {a k : Int} {D : Nat → Nat → Int} {n m : Nat} {f : Nat → Int × Int × Int × Int} {r1 : Int} (hI : Inv s) (h : LsD D (n : Int)) (hn : s 68 0 = (n : Int)) (hat : LnAt s 69 (n : Int) D) (hP : PtsOf D n f m) (hm : m ≤ 65) {lab : Nat → Nat} (hl : LabOf (nxR D f n) m lab)
    (hb : ¬ (0 ≤ k ∧ k ≤ 6) → r1 = -2) (ho : (0 ≤ k ∧ k ≤ 6) → ¬ (0 ≤ a ∧ a < m) → r1 = -12)
    (hv : ∀ i : Nat, a = (i : Int) → i < m → (k = 0 → r1 = w32 (f i).1) ∧ (k = 1 → r1 = w32 (f i).2.1) ∧ (k = 2 → r1 = w32 (f i).2.2.1) ∧ (k = 3 → r1 = w32 (f i).2.2.2) ∧ (k = 4 → r1 = thrP D n (f i)) ∧ (k = 5 → r1 = (enN D n (f i) : Int)) ∧ (k = 6 → r1 = (lab i : Int))) : w_X10_point s a k (fun r2 s2 => r1 = r2 ∧ Inv s2) := by
  unfold w_X10_point jn
  refine s_X10_in fun r hr => ⟨fun z => ?_, fun z => ⟨hb (by rcases hr with e | e; omega; exact e.2), hI⟩⟩
  have hk : 0 ≤ k ∧ k ≤ 6 := by
    rcases hr with e | e
    · exact e.2
    · exact absurd e.1 z
  refine s_X10_tellPoints h hn hat hP fun u u1 u2 u9 up => ?_
  have rf := ref_pts u1 u2
  have hIu := Inv_ref hI rf
  have hR : RPt u D n m f := ⟨by rw [rf.2.1]; exact hn, RefF_at rf hat, u9, up⟩
  rw [u9, w32_id (show ok32 ((m : Int) - 1) from ⟨by omega, by omega⟩)]
  refine s_X10_in fun r2 hr2 => ⟨fun z2 => ?_, fun z2 => ⟨ho hk (by rcases hr2 with e | e <;> omega), hIu⟩⟩
  have ha : 0 ≤ a ∧ a < (m : Int) := by rcases hr2 with e | e <;> omega
  obtain ⟨i, rfl⟩ : ∃ i : Nat, a = (i : Int) := ⟨a.toNat, by omega⟩
  have hi : i < m := by omega
  obtain ⟨p1, p2, p3, p4⟩ := up i hi
  obtain ⟨v0, v1, v2, v3, v4, v5, v6⟩ := hv i rfl hi
  have hi80 : 0 ≤ (i : Int) ∧ (i : Int) < 80 := by omega
  rw [Int.toNat_natCast, p1, p2, p3, p4]
  refine ⟨fun _ => ⟨fun k4 => ⟨fun k5 => ?_, fun e => ?_⟩, fun e => ?_⟩, fun _ => ⟨fun k0 => ⟨fun k1 => ⟨fun k2 => ⟨hi80, v3 (by omega), hIu⟩, fun e => ⟨hi80, v2 e, hIu⟩⟩, fun e => ⟨hi80, v1 e, hIu⟩⟩, fun e => ⟨hi80, v0 e, hIu⟩⟩⟩
  · refine s_X10_tellPieces h hP hm hR fun w lab' wo wl wa => ⟨hi80, ?_, Inv_ref hIu ⟨fun c hc => wo c (by omega), by rw [wo 68 (by omega)], by rw [wo 68 (by omega)]⟩⟩
    rw [wa i hi, Lab_one wl hl i hi]
    exact v6 (by omega)
  · exact s_X10_endsAt h hP hm hR hi ⟨v5 e, hIu⟩
  · exact s_X10_linesAt h hP hm hR hi ⟨v4 e, hIu⟩
theorem T_point {s : Sg} {a k : Int} (hI : Inv s) : w_X9_point s a k (fun r1 s1 => w_X10_point s1 a k (fun r2 s2 => r1 = r2 ∧ Inv s2)) := by
  have bad : ¬ (0 ≤ k ∧ k ≤ 6) → w_X10_point s a k (fun r2 s2 => (-2 : Int) = r2 ∧ Inv s2) := by
    intro hk
    unfold w_X10_point jn
    refine s_X10_in fun r hr => ⟨fun z => ?_, fun z => ⟨rfl, hI⟩⟩
    rcases hr with e | e
    · exact absurd e.2 hk
    · exact absurd e.1 z
  unfold w_X9_point jn
  refine ⟨fun q => bad (by omega), fun q => ⟨fun q2 => ?_, fun q2 => bad (by omega)⟩⟩
  refine s_kPts hI fun t m f hIt hc tP => ?_
  obtain ⟨q1, q2, q3, q4, q5, q6⟩ := cls_ref hIt hc
  obtain ⟨p1, p2, p3, p4, p5, ⟨lab, p6, p7, p8⟩, p9, p10⟩ := id tP
  have out : ¬ (0 ≤ a ∧ a < (m : Int)) → w_X10_point t a k (fun r2 s2 => (-12 : Int) = r2 ∧ Inv s2) := fun hno => s_rpoint hIt q1 q2 q3 p1 p2 p6 (fun w => by omega) (fun _ _ => rfl) (fun i e hi => by omega)
  rw [p3]
  refine ⟨fun z => out (by omega), fun z => ⟨fun z2 => ?_, fun z2 => out (by omega)⟩⟩
  obtain ⟨i, rfl⟩ : ∃ i : Nat, a = (i : Int) := ⟨a.toNat, by omega⟩
  have hi : i < m := by omega
  have hi65 : 0 ≤ (i : Int) ∧ (i : Int) < 65 := by omega
  obtain ⟨e1, e2, e3, e4⟩ := p4 i hi
  have e1 : t 17 i = (f i).1 := e1
  have e2 : t 18 i = (f i).2.1 := e2
  have e3 : t 19 i = (f i).2.2.1 := e3
  have e4 : t 20 i = (f i).2.2.2 := e4
  have e5 : t 21 i = thrP (dD s) (nL s) (f i) := p5 i hi
  have e6 : t 22 i = (lab i : Int) := p7 i hi
  have ok : ∀ r1 : Int, ((k = 0 → r1 = w32 (f i).1) ∧ (k = 1 → r1 = w32 (f i).2.1) ∧ (k = 2 → r1 = w32 (f i).2.2.1) ∧ (k = 3 → r1 = w32 (f i).2.2.2) ∧ (k = 4 → r1 = thrP (dD s) (nL s) (f i)) ∧ (k = 5 → r1 = (enN (dD s) (nL s) (f i) : Int)) ∧ (k = 6 → r1 = (lab i : Int))) → w_X10_point t (i : Int) k (fun r2 s2 => r1 = r2 ∧ Inv s2) := fun r1 hr => s_rpoint hIt q1 q2 q3 p1 p2 p6 (fun w => by omega) (fun _ w => by omega) (fun j e hj => by
    have : j = i := by omega
    subst this
    exact hr)
  rw [Int.toNat_natCast, e1, e2, e3, e4, e5, e6]
  refine ⟨fun e => ⟨hi65, ok _ ?_⟩, fun e => ⟨hi65, ok _ ?_⟩, fun e => ⟨hi65, ok _ ?_⟩, fun e => ⟨hi65, ok _ ?_⟩, fun e => ⟨hi65, ok _ ?_⟩, fun e => ?_, fun e => ⟨hi65, ok _ ?_⟩⟩
  · exact ⟨fun _ => rfl, fun w => by omega, fun w => by omega, fun w => by omega, fun w => by omega, fun w => by omega, fun w => by omega⟩
  · exact ⟨fun w => by omega, fun _ => rfl, fun w => by omega, fun w => by omega, fun w => by omega, fun w => by omega, fun w => by omega⟩
  · exact ⟨fun w => by omega, fun w => by omega, fun _ => rfl, fun w => by omega, fun w => by omega, fun w => by omega, fun w => by omega⟩
  · exact ⟨fun w => by omega, fun w => by omega, fun w => by omega, fun _ => rfl, fun w => by omega, fun w => by omega, fun w => by omega⟩
  · exact ⟨fun w => by omega, fun w => by omega, fun w => by omega, fun w => by omega, fun _ => rfl, fun w => by omega, fun w => by omega⟩
  · exact s_X4_endsAt q1 q5 q6 tP hi (ok _ ⟨fun w => by omega, fun w => by omega, fun w => by omega, fun w => by omega, fun w => by omega, fun _ => rfl, fun w => by omega⟩)
  · exact ⟨fun w => by omega, fun w => by omega, fun w => by omega, fun w => by omega, fun w => by omega, fun w => by omega, fun _ => rfl⟩
