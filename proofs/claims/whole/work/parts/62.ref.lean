/-! the reference's points and pieces -/
def rA (D : Nat → Nat → Int) (i j : Nat) (p : Int × Int × Int × Int) : Prop := ∃ a b, b < a ∧ (a < i ∨ (a = i ∧ b < j)) ∧ (mK D a b = 1 ∨ mK D a b = 2) ∧ p = mtP D a b
theorem tri2 : ∀ l, l ≤ 10 → sm (fun a => a) l ≤ 45 := by decide
theorem rA_end {D : Nat → Nat → Int} {n : Nat} (h : LsD D (n : Int)) (p : Int × Int × Int × Int) : (EndsTo D n p ∨ rA D n 0 p) ↔ (IsEnd D n p ∨ IsX D n p) := by
  constructor
  · rintro (e | ⟨a, b, hab, hh, hk, e⟩)
    · exact Or.inl e
    · have ha : a < n := by omega
      rcases hk with hk | hk
      · refine Or.inr ⟨b, a, hab, ha, ?_, ?_⟩
        · rw [mK_sw h (a := a) (b := b) (by omega) (by omega)]; exact hk
        · rw [e, mtP_sw]
      · obtain ⟨i, hi, ee⟩ := touch_end h (a := a) (b := b) (by omega) (by omega) hk
        refine Or.inl ⟨i, by omega, ?_⟩
        rw [e]; exact ee
  · rintro (e | ⟨i, j, hij, hj, hk, e⟩)
    · exact Or.inl e
    · refine Or.inr ⟨j, i, hij, Or.inl hj, Or.inl ?_, ?_⟩
      · rw [mK_sw h (a := i) (b := j) (by omega) (by omega)]; exact hk
      · rw [e, mtP_sw]
theorem s_X10_tellPoints {s : Sg} {D : Nat → Nat → Int} {n m : Nat} {f : Nat → Int × Int × Int × Int} {post : Sg → Prop} (h : LsD D (n : Int)) (hn : s 68 0 = (n : Int)) (hat : LnAt s 69 (n : Int) D) (hP : PtsOf D n f m)
    (hp : ∀ t : Sg, (∀ c, c ≠ 68 → (c < 73 ∨ 77 ≤ c) → t c = s c) → (∀ o, (o < 5 ∨ 9 < o) → t 68 o = s 68 o) → t 68 9 = (m : Int) → PtAt t 73 74 75 76 m f → post t) : w_X10_tellPoints s post := by
  unfold w_X10_tellPoints
  have hn10 := h.1
  rintro _ rfl
  have mk : ∀ {t : Sg} {m' : Nat} {f' : Nat → Int × Int × Int × Int}, t 68 9 = (m' : Int) → PtAt t 73 74 75 76 m' f' → RowM (fun p => EndsTo D n p ∨ rA D n 0 p) f' m' → t 68 9 = (m : Int) ∧ PtAt t 73 74 75 76 m f := by
    intro t m' f' h1 h2 h3
    have hP' : PtsOf D n f' m' := Pts_of h3 (fun p => (rA_end h p).symm)
    obtain ⟨e1, e2⟩ := Pts_one hP' hP
    subst e1
    exact ⟨h1, fun j hj => by rw [← e2 j hj]; exact h2 j hj⟩
  refine lr_1s (fun v t => ∃ l m' f', v = ((l : Nat) : Int) ∧ l ≤ n ∧ (∀ c, c ≠ 68 → (c < 73 ∨ 77 ≤ c) → t c = s c) ∧ (∀ o, (o < 5 ∨ 9 < o) → t 68 o = s 68 o) ∧ t 68 9 = ((m' : Nat) : Int) ∧ PtAt t 73 74 75 76 m' f' ∧ RowM (fun p => EndsTo D l p ∨ rA D l 0 p) f' m' ∧ m' ≤ 2 * l + sm (fun a => a) l) (fun v _ => ((n : Int) - v).toNat) ?_ 0 _ ⟨0, 0, fun _ => (0, 1, 0, 1), rfl, Nat.zero_le _, fun c h1 _ => up_ne _ _ _ h1, fun o h1 => by rw [up_apply, if_neg (by omega)], by rw [up_apply, if_pos ⟨rfl, rfl⟩]; rfl, fun j hj => absurd hj (Nat.not_lt_zero _), ⟨⟨fun a b _ hb => absurd hb (Nat.not_lt_zero _), fun j hj => absurd hj (Nat.not_lt_zero _)⟩, fun j hj => absurd hj (Nat.not_lt_zero _), fun p z => by
    rcases z with ⟨a, ha, _⟩ | ⟨a, b, _, hh, _⟩
    · exact absurd ha (Nat.not_lt_zero _)
    · omega⟩, Nat.le_refl _⟩
  rintro again _ t ⟨l, m1, f1, rfl, hl, ho, ho2, hsz, hpt, hrow, hm⟩ ih
  have kn : t 68 0 = (n : Int) := by rw [ho2 0 (by omega)]; exact hn
  have kat : ∀ u : Sg, (∀ c, c ≠ 68 → (c < 73 ∨ 77 ≤ c) → u c = s c) → LnAt u 69 (n : Int) D := fun u uo x hx => by
    rw [uo 69 (by omega) (by omega), uo (69 + 1) (by omega) (by omega), uo (69 + 2) (by omega) (by omega), uo (69 + 3) (by omega) (by omega)]
    exact hat x hx
  rw [kn]
  refine ⟨fun c => ?_, fun c => ?_⟩
  · have e : l = n := by omega
    subst e
    obtain ⟨k1, k2⟩ := mk hsz hpt hrow
    exact hp t ho ho2 k1 k2
  · have hl2 : l < n := by omega
    have b1 : ok32 ((l : Int) + 1) := ⟨by omega, by omega⟩
    have b2 : (l : Int) + 1 = ((l + 1 : Nat) : Int) := by omega
    have tr := tri2 (l + 1) (by omega)
    rw [sm_s] at tr
    obtain ⟨⟨r1, r2, r3, r4⟩, -⟩ := h.2 l (by omega)
    obtain ⟨a1, a2, a3, a4⟩ := kat t ho l (by omega)
    simp only [Nat.reduceAdd] at a1 a2 a3 a4
    have he := end_ok h (i := l) (by omega)
    have eA : loP (D 0 l) (D 1 l) 1 = endA D l := by unfold loP endA; rw [(lo_1 _).1, (lo_1 _).2, (lo_1 _).1, (lo_1 _).2]
    have eB : loP (D 2 l) (D 3 l) 1 = endB D l := by unfold loP endB; rw [(lo_1 _).1, (lo_1 _).2, (lo_1 _).1, (lo_1 _).2]
    rw [Int.toNat_natCast, a1, a2]
    refine ⟨by omega, by omega, s_X10_addPoint hsz hpt hrow.1 (by omega) (by omega) (by omega) (by omega) fun u g k uo uo2 usz upt uins => ⟨by omega, by omega, ?_⟩⟩
    rw [eA] at uins
    have uo3 : ∀ c, c ≠ 68 → (c < 73 ∨ 77 ≤ c) → u c = s c := fun c h1 h2 => by rw [uo c (by omega), ho c h1 h2]
    have uo4 : ∀ o, (o < 5 ∨ 9 < o) → u 68 o = s 68 o := fun o h1 => by rw [uo2 o (by omega), ho2 o h1]
    obtain ⟨d1, d2, d3, d4⟩ := kat u uo3 l (by omega)
    simp only [Nat.reduceAdd] at d1 d2 d3 d4
    rw [d3, d4]
    have um := uins.2.2.2.2
    have urow : RowM (fun p => (EndsTo D l p ∨ rA D l 0 p) ∨ p = endA D l) g k := RowM_ins hrow he.1 uins (fun p => Iff.rfl)
    refine s_X10_addPoint usz upt urow.1 (by omega) (by omega) (by omega) (by omega) fun x g2 k2 xo xo2 xsz xpt xins => ?_
    rw [eB] at xins
    have xm := xins.2.2.2.2
    have xrow : RowM (fun p => EndsTo D (l + 1) p ∨ rA D l 0 p) g2 k2 := RowM_ins urow he.2 xins (fun p => by
      unfold EndsTo
      refine ⟨?_, ?_⟩
      · rintro (⟨a, ha, e⟩ | z)
        · by_cases z : a = l
          · subst z
            rcases e with e | e
            · exact Or.inl (Or.inr e)
            · exact Or.inr e
          · exact Or.inl (Or.inl (Or.inl ⟨a, by omega, e⟩))
        · exact Or.inl (Or.inl (Or.inr z))
      · rintro (((⟨a, ha, e⟩ | z) | e) | e)
        · exact Or.inl ⟨a, by omega, e⟩
        · exact Or.inr z
        · exact Or.inl ⟨l, by omega, Or.inl e⟩
        · exact Or.inl ⟨l, by omega, Or.inr e⟩)
    refine lr_1s (fun v t => ∃ k' m' f', v = ((k' : Nat) : Int) ∧ k' ≤ l ∧ (∀ c, c ≠ 68 → (c < 73 ∨ 77 ≤ c) → t c = s c) ∧ (∀ o, (o < 5 ∨ 9 < o) → t 68 o = s 68 o) ∧ t 68 9 = ((m' : Nat) : Int) ∧ PtAt t 73 74 75 76 m' f' ∧ RowM (fun p => EndsTo D (l + 1) p ∨ rA D l k' p) f' m' ∧ m' ≤ 2 * (l + 1) + sm (fun a => a) l + k') (fun v _ => ((l : Int) - v).toNat) ?_ 0 x ⟨0, k2, g2, rfl, Nat.zero_le _, fun c h1 h2 => by rw [xo c (by omega), uo3 c h1 h2], fun o h1 => by rw [xo2 o (by omega), uo4 o h1], xsz, xpt, xrow, by omega⟩
    rintro again2 _ y ⟨k', m3, f3, rfl, hk', yo, yo2, ysz, ypt, yrow, ym⟩ ih2
    refine ⟨fun q v ev => ?_, fun q => ?_⟩
    · have e : k' = l := by omega
      subst e
      rw [ev, w32_id b1, b2]
      clear ev
      refine ih _ _ ⟨k' + 1, m3, f3, rfl, by omega, yo, yo2, ysz, ypt, RowM_congr yrow fun p => ?_, by rw [sm_s]; omega⟩ (by omega)
      unfold rA
      refine or_congr Iff.rfl ⟨?_, ?_⟩
      · rintro ⟨a, b, h1, h2, h3, h4⟩
        exact ⟨a, b, h1, by omega, h3, h4⟩
      · rintro ⟨a, b, h1, h2, h3, h4⟩
        exact ⟨a, b, h1, by omega, h3, h4⟩
    · have b3 : ok32 ((k' : Int) + 1) := ⟨by omega, by omega⟩
      have b4 : (k' : Int) + 1 = ((k' + 1 : Nat) : Int) := by omega
      refine s_X10_meet h (kat y yo) (by omega) (by omega) fun z zo zo2 zm => ?_
      have zo3 : ∀ c, c ≠ 68 → (c < 73 ∨ 77 ≤ c) → z c = s c := fun c h1 h2 => by rw [zo c h1, yo c h1 h2]
      have zo4 : ∀ o, (o < 5 ∨ 9 < o) → z 68 o = s 68 o := fun o h1 => by rw [zo2 o (by omega) (by omega) (by omega) (by omega), yo2 o h1]
      have zsz : z 68 9 = (m3 : Int) := by rw [zo2 9 (by omega) (by omega) (by omega) (by omega)]; exact ysz
      have zpt : PtAt z 73 74 75 76 m3 f3 := fun j hj => by
        rw [zo 73 (by omega), zo 74 (by omega), zo 75 (by omega), zo 76 (by omega)]
        exact ypt j hj
      have go : ∀ (w : Sg) (m4 : Nat) (f4 : Nat → Int × Int × Int × Int), (∀ c, c ≠ 68 → (c < 73 ∨ 77 ≤ c) → w c = s c) → (∀ o, (o < 5 ∨ 9 < o) → w 68 o = s 68 o) → w 68 9 = (m4 : Int) → PtAt w 73 74 75 76 m4 f4 → RowM (fun p => EndsTo D (l + 1) p ∨ rA D l (k' + 1) p) f4 m4 → m4 ≤ m3 + 1 → ∀ v, v = w32 ((k' : Int) + 1) → again2 v w := by
        intro w m4 f4 k1 k2 k3 k4 k5 k6 v ev
        rw [ev, w32_id b3, b4]
        clear ev
        exact ih2 _ _ ⟨k' + 1, m4, f4, rfl, by omega, k1, k2, k3, k4, k5, by omega⟩ (by omega)
      have addc : (mK D l k' = 1 ∨ mK D l k' = 2) → w_X10_addPoint z (z 68 6) (z 68 7) (z 68 8) (fun s_20 => ∀ v2_18, v2_18 = w32 ((k' : Int) + 1) → again2 v2_18 s_20) := by
        intro hk
        obtain ⟨v1, v2, v3⟩ := zm.2 hk
        have hb := mXY_all h (a := l) (b := k') (by omega) (by omega) hk
        have hmp := mtP_ok h (a := l) (b := k') (by omega) (by omega) hk
        rw [v1, v2, v3]
        refine s_X10_addPoint zsz zpt yrow.1 hb.1 hb.2.1 hb.2.2 (by omega) fun w g4 k4 wo wo2 wsz wpt wins => ?_
        refine go w k4 g4 (fun c h1 h2 => by rw [wo c (by omega), zo3 c h1 h2]) (fun o h1 => by rw [wo2 o (by omega), zo4 o h1]) wsz wpt (RowM_ins yrow hmp wins fun p => ?_) wins.2.2.2.2
        unfold rA
        refine ⟨?_, ?_⟩
        · rintro (e | ⟨a, b, h1, h2, h3, h4⟩)
          · exact Or.inl (Or.inl e)
          · by_cases e : a = l ∧ b = k'
            · obtain ⟨rfl, rfl⟩ := e
              exact Or.inr h4
            · exact Or.inl (Or.inr ⟨a, b, h1, by omega, h3, h4⟩)
        · rintro ((e | ⟨a, b, h1, h2, h3, h4⟩) | e)
          · exact Or.inl e
          · exact Or.inr ⟨a, b, h1, by omega, h3, h4⟩
          · exact Or.inr ⟨l, k', by omega, by omega, hk, e⟩
      unfold jn
      rw [zm.1]
      refine ⟨fun e => addc (Or.inl e), fun e1 => ⟨fun e2 => ?_, fun e => addc (Or.inr e)⟩⟩
      refine go z m3 f3 zo3 zo4 zsz zpt (RowM_congr yrow fun p => ?_) (by omega)
      unfold rA
      refine or_congr Iff.rfl ⟨?_, ?_⟩
      · rintro ⟨a, b, h1, h2, h3, h4⟩
        refine ⟨a, b, h1, ?_, h3, h4⟩
        by_cases e : a = l ∧ b = k'
        · obtain ⟨rfl, rfl⟩ := e
          omega
        · omega
      · rintro ⟨a, b, h1, h2, h3, h4⟩
        exact ⟨a, b, h1, by omega, h3, h4⟩
theorem LkOK_of {s : Sg} {D : Nat → Nat → Int} {n : Nat} (h : LsD D (n : Int)) (hn : s 68 0 = (n : Int)) (hat : LnAt s 69 (n : Int) D) : LkOK s 69 (s 68 0) := by
  rw [hn]
  refine ⟨by omega, h.1.2, fun i hi => ?_⟩
  obtain ⟨⟨a1, a2, a3, a4⟩, hl⟩ := h.2 i hi
  obtain ⟨e1, e2, e3, e4⟩ := hat i hi
  rw [e1, e2, e3, e4]
  exact ⟨a1, a2, a3, a4, hl⟩
/-- what the reference sees of the points -/
def RPt (s : Sg) (D : Nat → Nat → Int) (n m : Nat) (f : Nat → Int × Int × Int × Int) : Prop := s 68 0 = (n : Int) ∧ LnAt s 69 (n : Int) D ∧ s 68 9 = (m : Int) ∧ PtAt s 73 74 75 76 m f
theorem s_X10_linesAt {s : Sg} {D : Nat → Nat → Int} {n m p : Nat} {f : Nat → Int × Int × Int × Int} {post : Int → Prop} (h : LsD D (n : Int)) (hP : PtsOf D n f m) (hm : m ≤ 65) (hR : RPt s D n m f) (hpm : p < m) (hp : post (thrP D n (f p))) : w_X10_linesAt s (p : Int) post := by
  unfold w_X10_linesAt
  obtain ⟨hn, hat, hsz, hpt⟩ := hR
  obtain ⟨e1, e2, e3, e4⟩ := hpt p hpm
  have fr := pts_fr h hP hpm
  rw [Int.toNat_natCast, e1, e2, e3, e4]
  refine ⟨by omega, by omega, by omega, by omega, s_X10_linesOn (LkOK_of h hn hat) fr.1 fr.2.1 ?_⟩
  have e : onS s 69 (s 68 0) (f p).1 (f p).2.1 (f p).2.2.1 (f p).2.2.2 = thrP D n (f p) := by
    unfold onS thrP
    rw [hn, Int.toNat_natCast]
    refine bitsOf_congr fun i hi => ?_
    obtain ⟨a1, a2, a3, a4⟩ := hat i (by omega)
    rw [a1, a2, a3, a4]
    rfl
  rw [e]
  exact hp
def isPc (D : Nat → Nat → Int) (f : Nat → Int × Int × Int × Int) (n i j : Nat) : Bool := decide (∃ l, l < n ∧ nxB D f l i j = true)
theorem isPc_iff {D : Nat → Nat → Int} {f : Nat → Int × Int × Int × Int} {n i j : Nat} : isPc D f n i j = true ↔ nxR D f n i j := by
  unfold isPc nxR
  exact decide_eq_true_iff
theorem s_X10_isPiece {s : Sg} {D : Nat → Nat → Int} {n m i j : Nat} {f : Nat → Int × Int × Int × Int} {post : Int → Prop} (h : LsD D (n : Int)) (hP : PtsOf D n f m) (hm : m ≤ 65) (hR : RPt s D n m f) (hij : i < j) (hj : j < m) (hp : ∀ r, BV r (isPc D f n i j = true) → post r) : w_X10_isPiece s (i : Int) (j : Int) post := by
  unfold w_X10_isPiece
  have hn10 := h.1
  refine s_X10_linesAt h hP hm hR (by omega) (s_X10_linesAt h hP hm hR hj ?_)
  intro v3 e3 v4 e4
  have b1 : ok32 ((i : Int) + 1) := ⟨by omega, by omega⟩
  have b2 : (i : Int) + 1 = ((i + 1 : Nat) : Int) := by omega
  rw [e3, e4, w32_id b1, b2]
  clear e3 e4
  refine lr_2 (fun b k => ∃ k' : Nat, k = (k' : Int) ∧ i < k' ∧ k' ≤ j ∧ b = bitsOf (fun l => decide (onD D (f i) l = true ∧ onD D (f j) l = true ∧ ∀ x, x < k' → i < x → ¬ onD D (f x) l = true)) n) (fun _ k => ((j : Int) - k).toNat) ?_ _ _ ⟨i + 1, rfl, by omega, by omega, ?_⟩
  · rintro again _ _ ⟨k, rfl, hk, hkj, rfl⟩ ih
    refine ⟨fun c => ?_, fun c => ?_⟩
    · have e : k = j := by omega
      subst e
      unfold jn
      have hb := bits_0 (fun l => decide (onD D (f i) l = true ∧ onD D (f k) l = true ∧ ∀ x, x < k → i < x → ¬ onD D (f x) l = true)) (n := n) (by omega)
      refine ⟨fun z => ⟨Or.inl rfl, hp 0 (Or.inr ⟨rfl, fun y => ?_⟩)⟩, fun z => ⟨Or.inr rfl, hp 1 (Or.inl ⟨rfl, ?_⟩)⟩⟩
      · rw [isPc_iff] at y
        obtain ⟨l, hl, y⟩ := y
        rw [nxB_iff] at y
        exact (hb.mp z) l hl (decide_eq_true ⟨y.2.1, y.2.2.1, y.2.2.2⟩)
      · apply Decidable.byContradiction
        intro y
        refine z (hb.mpr fun l hl w => y ?_)
        rw [decide_eq_true_iff] at w
        exact isPc_iff.mpr ⟨l, hl, nxB_iff.mpr ⟨hij, w.1, w.2.1, w.2.2⟩⟩
    · refine s_X10_linesAt h hP hm hR (by omega) ?_
      intro v ev w ew
      have b3 : ok32 ((k : Int) + 1) := ⟨by omega, by omega⟩
      have b4 : (k : Int) + 1 = ((k + 1 : Nat) : Int) := by omega
      rw [ev, ew, w32_id b3, b4]
      clear ev ew
      refine ih _ _ ⟨k + 1, rfl, by omega, by omega, ?_⟩ (by omega)
      unfold thrP
      rw [iandn_bits _ _ (by omega)]
      refine bitsOf_congr fun l _ => ?_
      rw [Bool.eq_iff_iff, Bool.and_eq_true, decide_eq_true_iff, decide_eq_true_iff, Bool.not_eq_true', ← Bool.not_eq_true]
      refine ⟨fun z => ⟨z.1.1, z.1.2.1, fun x h1 h2 => ?_⟩, fun z => ⟨⟨z.1, z.2.1, fun x h1 h2 => z.2.2 x (by omega) h2⟩, z.2.2 k (by omega) hk⟩⟩
      by_cases e : x = k
      · subst e; exact z.2
      · exact z.1.2.2 x (by omega) h2
  · unfold thrP
    rw [iand_bits _ _ (by omega)]
    refine bitsOf_congr fun l _ => ?_
    rw [Bool.eq_iff_iff, Bool.and_eq_true, decide_eq_true_iff]
    exact ⟨fun z => ⟨z.1, z.2, fun x h1 h2 => by omega⟩, fun z => ⟨z.1, z.2.1⟩⟩
def pcR (D : Nat → Nat → Int) (f : Nat → Int × Int × Int × Int) (n m : Nat) : Nat := sm (fun i => cntN (isPc D f n i) m) m
def pcQ (D : Nat → Nat → Int) (f : Nat → Int × Int × Int × Int) (n m I J i j : Nat) : Prop := nxR D f n i j ∧ (i < I ∨ (i = I ∧ j < J))
theorem s_X10_tellPieces {s : Sg} {D : Nat → Nat → Int} {n m : Nat} {f : Nat → Int × Int × Int × Int} {post : Int → Sg → Prop} (h : LsD D (n : Int)) (hP : PtsOf D n f m) (hm : m ≤ 65) (hR : RPt s D n m f)
    (hp : ∀ (t : Sg) (lab : Nat → Nat), (∀ c, c ≠ 77 → t c = s c) → LabOf (nxR D f n) m lab → (∀ i, i < m → t 77 i = (lab i : Int)) → post (pcR D f n m : Int) t) : w_X10_tellPieces s post := by
  unfold w_X10_tellPieces
  have hRt : ∀ t : Sg, (∀ c, c ≠ 77 → t c = s c) → RPt t D n m f := fun t ho => by
    obtain ⟨hn, hat, hsz, hpt⟩ := hR
    refine ⟨by rw [ho 68 (by omega)]; exact hn, fun i hi => ?_, by rw [ho 68 (by omega)]; exact hsz, fun j hj => ?_⟩
    · rw [ho 69 (by omega), ho (69 + 1) (by omega), ho (69 + 2) (by omega), ho (69 + 3) (by omega)]
      exact hat i hi
    · rw [ho 73 (by omega), ho 74 (by omega), ho 75 (by omega), ho 76 (by omega)]
      exact hpt j hj
  have hbound : ∀ a, a ≤ m → sm (fun i => cntN (isPc D f n i) m) a ≤ m * a := by
    intro a _
    rw [← sm_c]
    exact sm_le (fun i _ => cntN_le _ _)
  have hmm : ∀ a, a ≤ m → m * a ≤ 4225 := fun a ha => by
    have := Nat.mul_le_mul hm (Nat.le_trans ha hm)
    omega
  refine lr_1s (fun v t => ∃ k : Nat, v = (k : Int) ∧ k ≤ m ∧ (∀ c, c ≠ 77 → t c = s c) ∧ ∀ j, j < k → t 77 j = (j : Int)) (fun v _ => ((m : Int) - v).toNat) ?_ 0 s ⟨0, rfl, Nat.zero_le _, fun _ _ => rfl, fun j hj => absurd hj (Nat.not_lt_zero _)⟩
  rintro again _ t ⟨k, rfl, hk, ho, hv⟩ ih
  rw [(hRt t ho).2.2.1]
  refine ⟨fun c => ?_, fun c => ⟨by omega, ?_⟩⟩
  · have e : k = m := by omega
    subst e
    clear ih
    refine lr_2s (fun v w u => ∃ i lab, w = ((i : Nat) : Int) ∧ i ≤ k ∧ v = (sm (fun i => cntN (isPc D f n i) k) i : Int) ∧ (∀ c, c ≠ 77 → u c = s c) ∧ LabOf (pcQ D f n k i 0) k lab ∧ ∀ j, j < k → u 77 j = (lab j : Int)) (fun _ w _ => ((k : Int) - w).toNat) ?_ 0 0 t ⟨0, fun j => j, rfl, Nat.zero_le _, rfl, ho, Lab_id (fun a b _ _ z => by
      unfold pcQ at z
      omega) (fun _ _ => rfl), hv⟩
    rintro again2 _ _ u ⟨i, lab, rfl, hi, rfl, uo, ul, ua⟩ ih2
    have hRu := hRt u uo
    rw [hRu.2.2.1]
    refine ⟨fun q => ?_, fun q v3 ev3 => ?_⟩
    · have e : i = k := by omega
      subst e
      refine hp u lab uo (Lab_congr ul (fun a b ha hb => ?_) (fun _ _ => rfl)) ua
      unfold pcQ
      exact ⟨fun z => z.1, fun z => ⟨z, Or.inl ha⟩⟩
    · have hi2 : i < k := by omega
      have b1 : ok32 ((i : Int) + 1) := ⟨by omega, by omega⟩
      have b2 : (i : Int) + 1 = ((i + 1 : Nat) : Int) := by omega
      rw [w32_id b1, b2] at ev3
      rw [ev3]
      clear ev3
      refine lr_2s (fun v w u => ∃ j lab, w = ((j : Nat) : Int) ∧ i < j ∧ j ≤ k ∧ v = ((sm (fun i => cntN (isPc D f n i) k) i + cntN (isPc D f n i) j : Nat) : Int) ∧ (∀ c, c ≠ 77 → u c = s c) ∧ LabOf (pcQ D f n k i j) k lab ∧ ∀ j, j < k → u 77 j = (lab j : Int)) (fun _ w _ => ((k : Int) - w).toNat) ?_ _ _ u ⟨i + 1, lab, rfl, by omega, by omega, ?_, uo, Lab_congr ul (fun a b ha hb => ?_) (fun _ _ => rfl), ua⟩
      · rintro again3 _ _ w ⟨j, lab2, rfl, hij, hj, rfl, wo, wl, wa⟩ ih3
        have hRw := hRt w wo
        rw [hRw.2.2.1]
        refine ⟨fun q2 v ev => ?_, fun q2 => ?_⟩
        · have e : j = k := by omega
          subst e
          rw [ev, w32_id b1, b2]
          clear ev
          refine ih2 _ _ _ ⟨i + 1, lab2, rfl, by omega, by rw [sm_s], wo, Lab_congr wl (fun a b ha hb => ?_) (fun _ _ => rfl), wa⟩ (by omega)
          unfold pcQ
          exact ⟨fun z => ⟨z.1, by omega⟩, fun z => ⟨z.1, by omega⟩⟩
        · have hj2 : j < k := by omega
          have b3 : ok32 ((j : Int) + 1) := ⟨by omega, by omega⟩
          have b4 : (j : Int) + 1 = ((j + 1 : Nat) : Int) := by omega
          have cs : cntN (isPc D f n i) (j + 1) = cntN (isPc D f n i) j + ind (isPc D f n i j) := by
            rw [cntN_s]; unfold ind; split <;> omega
          have bd1 := hbound i hi
          have bd2 := hmm i hi
          have bd3 := cntN_le (isPc D f n i) j
          refine s_X10_isPiece h hP hm hRw hij hj2 fun r hr => ?_
          unfold jn
          refine ⟨fun z v ev => ?_, fun z v ev => ?_⟩
          · have hpc : isPc D f n i j = true := by
              rcases hr with e | e
              · exact e.2
              · exact absurd e.1 z
            have w1 := wa i hi2
            have w2 := wa j hj2
            have l1 := wl.1 i hi2
            have l2 := wl.1 j hj2
            rw [Int.toNat_natCast, Int.toNat_natCast, w1, w2]
            refine ⟨by omega, by omega, fun x1 ex1 => ⟨by omega, by omega, fun x2 ex2 => ?_⟩⟩
            have e1 : x1 = ((min (lab2 i) (lab2 j) : Nat) : Int) := by rw [ex1]; split <;> omega
            have e2 : x2 = ((max (lab2 i) (lab2 j) : Nat) : Int) := by rw [ex2]; split <;> omega
            refine s_relabel (lab := lab2) hRw.2.2.1 (by omega) (by omega) (by decide) wa e1 e2 fun y yo ya w5 ew5 => ?_
            rw [ew5, w32_id b3, b4, ev, w32_id (show ok32 (((sm (fun i => cntN (isPc D f n i) k) i + cntN (isPc D f n i) j : Nat) : Int) + 1) from ⟨by omega, by omega⟩)]
            clear ew5 ev ex1 ex2 e1 e2
            refine ih3 _ _ _ ⟨j + 1, mrg lab2 i j, rfl, by omega, by omega, by rw [cs, ind_t hpc]; omega, fun c hc => by rw [yo c hc, wo c hc], Lab_congr (Lab_mrg wl hi2 hj2) (fun a b ha hb => ?_) (fun _ _ => rfl), ya⟩ (by omega)
            unfold pcQ
            constructor
            · rintro (⟨z1, z2⟩ | ⟨rfl, rfl⟩)
              · exact ⟨z1, by omega⟩
              · exact ⟨isPc_iff.mp hpc, by omega⟩
            · rintro ⟨z1, z2⟩
              by_cases e : a = i ∧ b = j
              · exact Or.inr e
              · exact Or.inl ⟨z1, by omega⟩
          · have hpc : ¬ isPc D f n i j = true := by
              rcases hr with e | e
              · omega
              · exact e.2
            rw [ev, w32_id b3, b4]
            clear ev
            refine ih3 _ _ _ ⟨j + 1, lab2, rfl, by omega, by omega, by rw [cs, ind_f hpc]; rfl, wo, Lab_congr wl (fun a b ha hb => ?_) (fun _ _ => rfl), wa⟩ (by omega)
            unfold pcQ
            refine ⟨fun z1 => ⟨z1.1, by omega⟩, fun z1 => ⟨z1.1, ?_⟩⟩
            by_cases e : a = i ∧ b = j
            · obtain ⟨rfl, rfl⟩ := e
              exact absurd (isPc_iff.mpr z1.1) hpc
            · omega
      · rw [cnt_none (fun x hx => ?_)]
        · rfl
        · rw [isPc_iff]
          rintro ⟨l, _, z⟩
          rw [nxB_iff] at z
          omega
      · unfold pcQ
        refine ⟨fun z => ⟨z.1, by omega⟩, fun z => ⟨z.1, ?_⟩⟩
        obtain ⟨l, _, z2⟩ := z.1
        rw [nxB_iff] at z2
        omega
  · rintro _ rfl v ev
    have b1 : ok32 ((k : Int) + 1) := ⟨by omega, by omega⟩
    have b2 : (k : Int) + 1 = ((k + 1 : Nat) : Int) := by omega
    rw [ev, w32_id b1, b2, Int.toNat_natCast]
    clear ev
    refine ih _ _ ⟨k + 1, rfl, by omega, fun c hcc => by rw [up_ne _ _ _ hcc, ho c hcc], fun j hj => ?_⟩ (by omega)
    rw [up_apply]
    by_cases e : j = k
    · rw [if_pos ⟨rfl, e⟩, e]
    · rw [if_neg (fun z => e z.2)]
      exact hv j (by omega)
