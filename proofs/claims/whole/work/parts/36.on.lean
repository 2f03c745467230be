/-! fractions, places on lines: on -/
theorem mb {a b A B : Int} (ha : -A ≤ a ∧ a ≤ A) (hb : -B ≤ b ∧ b ≤ B) : -(A*B) ≤ a*b ∧ a*b ≤ A*B := by
  have h1 := Int.mul_nonneg (show 0 ≤ A - a by omega) (show 0 ≤ B - b by omega)
  have h2 := Int.mul_nonneg (show 0 ≤ A + a by omega) (show 0 ≤ B + b by omega)
  have h3 := Int.mul_nonneg (show 0 ≤ A - a by omega) (show 0 ≤ B + b by omega)
  have h4 := Int.mul_nonneg (show 0 ≤ A + a by omega) (show 0 ≤ B - b by omega)
  constructor <;> grind
theorem w64_b {x : Int} {A : Int} (h : -A ≤ x ∧ x ≤ A) (hA : A < 9223372036854775808) : w64 x = x := w64_id ⟨by omega, by omega⟩
theorem w32_b {x : Int} {A : Int} (h : -A ≤ x ∧ x ≤ A) (hA : A < 2147483648) : w32 x = x := w32_id ⟨by omega, by omega⟩
def minI (b v : Int) : Int := if v < b then v else b
def maxI (b v : Int) : Int := if b < v then v else b
/-- a place of a line from (a, b) to (u, v) -/
def OnL (a b u v x xd y yd : Int) : Prop := (a*xd ≤ x ∧ x ≤ u*xd) ∧ (minI b v*yd ≤ y ∧ y ≤ maxI b v*yd) ∧ (x - a*xd)*yd*(v-b) = (y - b*yd)*xd*(u-a)
def LnB (a b u v : Int) : Prop := (0 ≤ a ∧ a ≤ 40) ∧ (0 ≤ b ∧ b ≤ 40) ∧ (0 ≤ u ∧ u ≤ 40) ∧ (0 ≤ v ∧ v ≤ 40)
theorem LkOK_B {s : Sg} {c : Nat} {n i : Int} (h : LkOK s c n) (hi : 0 ≤ i ∧ i < n) : LnB (s c i.toNat) (s (c+1) i.toNat) (s (c+2) i.toNat) (s (c+3) i.toNat) ∧ (0 ≤ i ∧ i < 10) ∧ (s c i.toNat < s (c+2) i.toNat ∨ (s c i.toNat = s (c+2) i.toNat ∧ s (c+1) i.toNat < s (c+3) i.toNat)) := by
  have := h.2.2 i.toNat (by omega)
  have := h.2.1
  exact ⟨⟨by omega, by omega, by omega, by omega⟩, by omega, by omega⟩
theorem minI_b {b v : Int} (hb : 0 ≤ b ∧ b ≤ 40) (hv : 0 ≤ v ∧ v ≤ 40) : 0 ≤ minI b v ∧ minI b v ≤ 40 := by unfold minI; split <;> omega
theorem maxI_b {b v : Int} (hb : 0 ≤ b ∧ b ≤ 40) (hv : 0 ≤ v ∧ v ≤ 40) : 0 ≤ maxI b v ∧ maxI b v ≤ 40 := by unfold maxI; split <;> omega
/-- what is small enough for every product of the program -/
def FrB (x xd : Int) : Prop := (-128000 ≤ x ∧ x ≤ 128000) ∧ (0 ≤ xd ∧ xd ≤ 3200)
theorem m40 {a xd : Int} (ha : 0 ≤ a ∧ a ≤ 40) (hd : 0 ≤ xd ∧ xd ≤ 3200) : w64 (a * xd) = a * xd ∧ (-128000 ≤ a * xd ∧ a * xd ≤ 128000) := by
  have h := mb (a := a) (b := xd) (A := 40) (B := 3200) (by omega) (by omega)
  exact ⟨w64_b h (by decide), by omega⟩
theorem mOn {a b x xd yd v : Int} (ha : 0 ≤ a ∧ a ≤ 40) (hb : 0 ≤ b ∧ b ≤ 40) (hv : 0 ≤ v ∧ v ≤ 40) (hx : FrB x xd) (hyd : 0 ≤ yd ∧ yd ≤ 3200) :
    w64 (w64 (w64 (x - w64 (a * xd)) * yd) * w32 (v - b)) = (x - a*xd)*yd*(v-b) := by
  obtain ⟨e1, b1⟩ := m40 ha hx.2
  rw [e1, w64_b (A := 256000) (x := x - a*xd) (by have := hx.1; omega) (by decide)]
  have h2 := mb (a := x - a*xd) (b := yd) (A := 256000) (B := 3200) (by have := hx.1; omega) (by omega)
  rw [w64_b h2 (by decide), w32_id (show ok32 (v - b) from ⟨by omega, by omega⟩)]
  have h3 := mb (A := 256000*3200) (B := 40) h2 (b := v - b) (by omega)
  rw [w64_b h3 (by decide)]
theorem s_X2_reaches {s : Sg} {c0 : Nat} {i x xd : Int} {post : Int → Prop} (hi : 0 ≤ i ∧ i < 10) (ha : 0 ≤ s (c0+1) i.toNat ∧ s (c0+1) i.toNat ≤ 40) (hu : 0 ≤ s (c0+3) i.toNat ∧ s (c0+3) i.toNat ≤ 40) (hd : 0 ≤ xd ∧ xd ≤ 3200) (h : ∀ r, BV r (s (c0+1) i.toNat * xd ≤ x ∧ x ≤ s (c0+3) i.toNat * xd) → post r) : w_X2_reaches s c0 i x xd post := by
  unfold w_X2_reaches jn
  rw [(m40 ha hd).1, (m40 hu hd).1]
  have h1 := h 1
  have h0 := h 0
  have e : s (c0 + 1) i.toNat * xd ≤ x ∧ x ≤ s (c0+3) i.toNat * xd ↔ ¬ x < s (c0+1) i.toNat * xd ∧ ¬ s (c0+3) i.toNat * xd < x := by omega
  rw [e] at h1 h0
  grind
theorem s_X2_holds {s : Sg} {c0 : Nat} {i x xd y yd : Int} {post : Int → Prop} (hi : 0 ≤ i ∧ i < 10) (hl : LnB (s (c0+1) i.toNat) (s (c0+2) i.toNat) (s (c0+3) i.toNat) (s (c0+4) i.toNat)) (hx : FrB x xd) (hy : FrB y yd) (h : ∀ r, BV r (OnL (s (c0+1) i.toNat) (s (c0+2) i.toNat) (s (c0+3) i.toNat) (s (c0+4) i.toNat) x xd y yd) → post r) : w_X2_holds s c0 i x xd y yd post := by
  unfold w_X2_holds jn
  obtain ⟨ha, hb, hu, hv⟩ := hl
  refine s_X2_reaches hi ha hu hx.2 fun r1 e1 => ⟨fun h1 => ?_, fun h1 => ?_⟩
  · refine ⟨hi, hi, ?_⟩
    have m1 := (m40 (minI_b hb hv) hy.2).1
    have m2 := (m40 (maxI_b hb hv) hy.2).1
    simp only [← minI.eq_1, ← maxI.eq_1]
    rw [m1, m2]
    refine ⟨fun h2 => h 0 (Or.inr ⟨rfl, fun q => by have := q.2.1; omega⟩), fun h2 => ⟨hi, hi, ⟨fun h3 => ⟨hi, ?_⟩, fun h3 => h 0 (Or.inr ⟨rfl, fun q => by have := q.2.1; omega⟩)⟩⟩⟩
    unfold w_X2_rise w_X2_run
    refine ⟨hi, hi, hi, hi, hi, ?_⟩
    dsimp only
    rw [mOn ha hb hv hx hy.2, mOn hb ha hu hy hx.2]
    refine ⟨fun h4 => ⟨Or.inl trivial, h 0 (Or.inr ⟨rfl, fun q => h4 q.2.2⟩)⟩, fun h4 => ⟨Or.inr trivial, h 1 (Or.inl ⟨rfl, ?_⟩)⟩⟩
    rcases e1 with ⟨-, e⟩ | ⟨e, -⟩
    · exact ⟨e, by omega, h4⟩
    · exact absurd e h1
  · refine h 0 (Or.inr ⟨rfl, fun q => ?_⟩)
    rcases e1 with ⟨e, -⟩ | ⟨-, e⟩
    · omega
    · exact e q.1
theorem s_X10_isOn {s : Sg} {i x xd y yd : Int} {post : Int → Prop} (hi : 0 ≤ i ∧ i < 10) (hl : LnB (s 69 i.toNat) (s 70 i.toNat) (s 71 i.toNat) (s 72 i.toNat)) (hx : FrB x xd) (hy : FrB y yd) (h : ∀ r, BV r (OnL (s 69 i.toNat) (s 70 i.toNat) (s 71 i.toNat) (s 72 i.toNat) x xd y yd) → post r) : w_X10_isOn s i x xd y yd post := by
  unfold w_X10_isOn jn
  obtain ⟨ha, hb, hu, hv⟩ := hl
  refine ⟨hi, hi, fun _ e3 => ⟨hi, hi, fun _ e6 => ⟨hi, hi, ?_⟩⟩⟩
  subst e3 e6
  have p1 : w64 (w64 (w64 (x - w64 (s 69 i.toNat * xd)) * w32 (s 72 i.toNat - s 70 i.toNat)) * yd) = (x - s 69 i.toNat*xd)*yd*(s 72 i.toNat - s 70 i.toNat) := by
    obtain ⟨e1, b1⟩ := m40 ha hx.2
    rw [e1, w64_b (A := 256000) (x := x - s 69 i.toNat*xd) (by have := hx.1; omega) (by decide), w32_id (show ok32 (s 72 i.toNat - s 70 i.toNat) from ⟨by omega, by omega⟩)]
    have h2 := mb (a := x - s 69 i.toNat*xd) (b := s 72 i.toNat - s 70 i.toNat) (A := 256000) (B := 40) (by have := hx.1; omega) (by omega)
    rw [w64_b h2 (by decide)]
    have h3 := mb (A := 256000*40) (B := 3200) h2 (b := yd) (by have := hy.2; omega)
    rw [w64_b h3 (by decide), Int.mul_right_comm]
  have p2 : w64 (w64 (w64 (y - w64 (s 70 i.toNat * yd)) * w32 (s 71 i.toNat - s 69 i.toNat)) * xd) = (y - s 70 i.toNat*yd)*xd*(s 71 i.toNat - s 69 i.toNat) := by
    obtain ⟨e1, b1⟩ := m40 hb hy.2
    rw [e1, w64_b (A := 256000) (x := y - s 70 i.toNat*yd) (by have := hy.1; omega) (by decide), w32_id (show ok32 (s 71 i.toNat - s 69 i.toNat) from ⟨by omega, by omega⟩)]
    have h2 := mb (a := y - s 70 i.toNat*yd) (b := s 71 i.toNat - s 69 i.toNat) (A := 256000) (B := 40) (by have := hy.1; omega) (by omega)
    rw [w64_b h2 (by decide)]
    have h3 := mb (A := 256000*40) (B := 3200) h2 (b := xd) (by have := hx.2; omega)
    rw [w64_b h3 (by decide), Int.mul_right_comm]
  rw [p1, p2]
  refine ⟨fun h4 => ⟨hi, hi, fun _ e5 => ⟨hi, hi, fun _ e7 => ⟨hi, ?_⟩⟩⟩, fun h4 => h 0 (Or.inr ⟨rfl, fun q => h4 q.2.2⟩)⟩
  rw [← minI.eq_1] at e5
  rw [← maxI.eq_1] at e7
  subst e5 e7
  rw [(m40 ha hx.2).1, (m40 hu hx.2).1, (m40 (minI_b hb hv) hy.2).1, (m40 (maxI_b hb hv) hy.2).1]
  have f0 : ∀ p : ¬ OnL (s 69 i.toNat) (s 70 i.toNat) (s 71 i.toNat) (s 72 i.toNat) x xd y yd, ((0 : Int) = 0 ∨ (0 : Int) = 1) ∧ post 0 := fun p => ⟨Or.inl rfl, h 0 (Or.inr ⟨rfl, p⟩)⟩
  refine ⟨fun q => f0 fun p => by have := p.1; omega, fun q1 => ⟨hi, fun q => f0 fun p => by have := p.1; omega, fun q2 => ⟨fun q => f0 fun p => by have := p.2.1; omega, fun q3 => ⟨fun q => f0 fun p => by have := p.2.1; omega, fun q4 => ⟨Or.inr rfl, h 1 (Or.inl ⟨rfl, ⟨by omega, by omega, h4⟩⟩)⟩⟩⟩⟩⟩
/-- the bits of those below n of which p speaks -/
def bitsOf (p : Nat → Bool) : Nat → Int
  | 0 => 0
  | n + 1 => if p n = true then ior (bitsOf p n) (ishl 1 (n : Int)) else bitsOf p n
theorem bitsOf_s (p : Nat → Bool) (n : Nat) : bitsOf p (n + 1) = if p n = true then ior (bitsOf p n) (ishl 1 (n : Int)) else bitsOf p n := rfl
theorem bitsOf_congr {p q : Nat → Bool} {n : Nat} (h : ∀ i, i < n → p i = q i) : bitsOf p n = bitsOf q n := by
  induction n with
  | zero => rfl
  | succ n ih =>
    rw [bitsOf_s, bitsOf_s, ih (fun i hi => h i (Nat.lt_succ_of_lt hi)), h n (Nat.lt_succ_self n)]
def onB (a b u v x xd y yd : Int) : Bool := decide ((a*xd ≤ x ∧ x ≤ u*xd) ∧ (minI b v*yd ≤ y ∧ y ≤ maxI b v*yd) ∧ (x - a*xd)*yd*(v-b) = (y - b*yd)*xd*(u-a))
theorem onB_iff {a b u v x xd y yd : Int} : onB a b u v x xd y yd = true ↔ OnL a b u v x xd y yd := by
  unfold onB OnL
  exact decide_eq_true_iff
/-- the lines on a place, as bits -/
def onS (s : Sg) (c : Nat) (n : Int) (x xd y yd : Int) : Int := bitsOf (fun i => onB (s c i) (s (c+1) i) (s (c+2) i) (s (c+3) i) x xd y yd) n.toNat
theorem s_X9_linesOn {s : Sg} {x y d : Int} {post : Int → Prop} (hL : LkOK s 2 (s 1 0)) (hx : FrB x d) (hy : FrB y d) (h : post (onS s 2 (s 1 0) x d y d)) : w_X9_linesOn s x y d post := by
  unfold w_X9_linesOn
  have hn := hL.2.1
  have h0 := hL.1
  refine lr_2 (fun b i => (0 ≤ i ∧ i ≤ s 1 0) ∧ b = bitsOf (fun i => onB (s 2 i) (s (2+1) i) (s (2+2) i) (s (2+3) i) x d y d) i.toNat) (fun _ i => (s 1 0 - i).toNat) ?_ 0 0 ⟨⟨by omega, h0⟩, rfl⟩
  rintro again b i ⟨hi, rfl⟩ ih
  refine ⟨fun c => ?_, fun c => ?_⟩
  · have e : i = s 1 0 := by omega
    subst e
    exact h
  · obtain ⟨hl, hi10, -⟩ := LkOK_B hL ⟨hi.1, by omega⟩
    refine s_X2_holds (c0 := 1) hi10 hl hx hy fun r e => ?_
    unfold jn
    have hw : w32 (i + 1) = i + 1 := w32_id ⟨by omega, by omega⟩
    have ht : (i + 1).toNat = i.toNat + 1 := by omega
    have hc : ((i.toNat : Nat) : Int) = i := by omega
    have go : ∀ b', b' = bitsOf (fun i => onB (s 2 i) (s (2+1) i) (s (2+2) i) (s (2+3) i) x d y d) (i + 1).toNat → ∀ v, v = w32 (i + 1) → again b' v := by
      rintro b' hb v rfl
      rw [hw]
      exact ih b' (i + 1) ⟨⟨by omega, by omega⟩, hb⟩ (by omega)
    rw [← onB_iff] at e
    refine ⟨fun hr => go _ ?_, fun hr => ?_⟩
    · rw [ht, bitsOf_s]
      rcases e with ⟨e, -⟩ | ⟨-, e⟩
      · omega
      · exact (if_neg e).symm
    · rintro v rfl
      refine go _ ?_
      rw [ht, bitsOf_s]
      rcases e with ⟨-, e⟩ | ⟨e, -⟩
      · rw [hc]; exact (if_pos e).symm
      · exact absurd e hr
theorem s_X10_linesOn {s : Sg} {x xd y yd : Int} {post : Int → Prop} (hL : LkOK s 69 (s 68 0)) (hx : FrB x xd) (hy : FrB y yd) (h : post (onS s 69 (s 68 0) x xd y yd)) : w_X10_linesOn s x xd y yd post := by
  unfold w_X10_linesOn
  have hn := hL.2.1
  have h0 := hL.1
  refine lr_2 (fun b i => (0 ≤ i ∧ i ≤ s 68 0) ∧ b = bitsOf (fun i => onB (s 69 i) (s (69+1) i) (s (69+2) i) (s (69+3) i) x xd y yd) i.toNat) (fun _ i => (s 68 0 - i).toNat) ?_ 0 0 ⟨⟨by omega, h0⟩, rfl⟩
  rintro again b i ⟨hi, rfl⟩ ih
  refine ⟨fun c => ?_, fun c => ?_⟩
  · have e : i = s 68 0 := by omega
    subst e
    exact h
  · obtain ⟨hl, hi10, -⟩ := LkOK_B hL ⟨hi.1, by omega⟩
    refine s_X10_isOn hi10 hl hx hy fun r e => ?_
    unfold jn
    have hw : w32 (i + 1) = i + 1 := w32_id ⟨by omega, by omega⟩
    have ht : (i + 1).toNat = i.toNat + 1 := by omega
    have hc : ((i.toNat : Nat) : Int) = i := by omega
    have go : ∀ b', b' = bitsOf (fun i => onB (s 69 i) (s (69+1) i) (s (69+2) i) (s (69+3) i) x xd y yd) (i + 1).toNat → ∀ v, v = w32 (i + 1) → again b' v := by
      rintro b' hb v rfl
      rw [hw]
      exact ih b' (i + 1) ⟨⟨by omega, by omega⟩, hb⟩ (by omega)
    rw [← onB_iff] at e
    refine ⟨fun hr => go _ ?_, fun hr => ?_⟩
    · rw [ht, bitsOf_s]
      rcases e with ⟨e, -⟩ | ⟨-, e⟩
      · omega
      · exact (if_neg e).symm
    · rintro v rfl
      refine go _ ?_
      rw [ht, bitsOf_s]
      rcases e with ⟨-, e⟩ | ⟨e, -⟩
      · rw [hc]; exact (if_pos e).symm
      · exact absurd e hr
theorem onS_eq {s : Sg} {c e : Nat} {n x xd y yd : Int} (h : LkEq s c e n) (hn : 0 ≤ n) : onS s c n x xd y yd = onS s e n x xd y yd := by
  unfold onS
  refine bitsOf_congr (fun i hi => ?_)
  obtain ⟨h1, h2, h3, h4⟩ := h i (by omega)
  rw [h1, h2, h3, h4]
theorem Base_m {s : Sg} (hB : Base s) : LkOK s 69 (s 68 0) := by
  have h1 := hB.1
  rw [h1]
  exact LkOK_eq hB.2.1 hB.2.2.1
theorem s_X9_canBePlace {x y d : Int} {post : Int → Prop} (h : ∀ r, BV r ((-400 ≤ x ∧ x ≤ 800) ∧ (-400 ≤ y ∧ y ≤ 800) ∧ (1 ≤ d ∧ d ≤ 10)) → post r) : w_X9_canBePlace x y d post := by
  unfold w_X9_canBePlace jn
  have h1 := h 1
  have h0 := h 0
  have f0 : ∀ p : ¬ ((-400 ≤ x ∧ x ≤ 800) ∧ (-400 ≤ y ∧ y ≤ 800) ∧ (1 ≤ d ∧ d ≤ 10)), ((0 : Int) = 0 ∨ (0 : Int) = 1) ∧ post 0 := fun p => ⟨Or.inl rfl, h0 (Or.inr ⟨rfl, p⟩)⟩
  refine ⟨fun q => f0 (by omega), fun q1 => ⟨fun q => f0 (by omega), fun q2 => ⟨fun q => f0 (by omega), fun q3 => ⟨fun q => f0 (by omega), fun q4 => ⟨fun q => f0 (by omega), fun q5 => ⟨fun q => f0 (by omega), fun q6 => ⟨Or.inr rfl, h1 (Or.inl ⟨rfl, by omega⟩)⟩⟩⟩⟩⟩⟩⟩
theorem s_X10_isPlace {x y d : Int} {post : Int → Prop} (h : ∀ r, BV r ((-400 ≤ x ∧ x ≤ 800) ∧ (-400 ≤ y ∧ y ≤ 800) ∧ (1 ≤ d ∧ d ≤ 10)) → post r) : w_X10_isPlace x y d post := by
  unfold w_X10_isPlace jn
  have h1 := h 1
  have h0 := h 0
  have f0 : ∀ p : ¬ ((-400 ≤ x ∧ x ≤ 800) ∧ (-400 ≤ y ∧ y ≤ 800) ∧ (1 ≤ d ∧ d ≤ 10)), ((0 : Int) = 0 ∨ (0 : Int) = 1) ∧ post 0 := fun p => ⟨Or.inl rfl, h0 (Or.inr ⟨rfl, p⟩)⟩
  refine s_X10_in fun r1 e1 => ⟨fun q => f0 (by rcases e1 with e | e <;> omega), fun q1 => s_X10_in fun r2 e2 => ⟨fun q => f0 (by rcases e2 with e | e <;> omega), fun q2 => s_X10_in fun r3 e3 => ⟨fun q => f0 (by rcases e3 with e | e <;> omega), fun q3 => ⟨Or.inr rfl, h1 (Or.inl ⟨rfl, ?_⟩)⟩⟩⟩⟩
  rcases e1 with e | e <;> rcases e2 with e2 | e2 <;> rcases e3 with e3 | e3 <;> omega
theorem T_on {s : Sg} {x y d : Int} (hB : Base s) : w_X9_on s x y d (fun r1 => w_X10_on s x y d (fun r2 => r1 = r2)) := by
  unfold w_X9_on w_X10_on jn
  refine s_X9_canBePlace fun r1 e1 => ⟨fun h1 => ?_, fun h1 => ?_⟩
  · refine s_X10_isPlace fun r2 e2 => ⟨fun h2 => rfl, fun h2 => ?_⟩
    rcases e1 with e | e <;> rcases e2 with e2 | e2 <;> omega
  · have e : (-400 ≤ x ∧ x ≤ 800) ∧ (-400 ≤ y ∧ y ≤ 800) ∧ (1 ≤ d ∧ d ≤ 10) := by rcases e1 with e | e <;> omega
    have fx : FrB x d := ⟨by omega, by omega⟩
    have fy : FrB y d := ⟨by omega, by omega⟩
    refine s_X9_linesOn hB.2.1 fx fy ?_
    refine s_X10_isPlace fun r2 e2 => ⟨fun h2 => ?_, fun h2 => ?_⟩
    · rcases e2 with e2 | e2 <;> omega
    · refine s_X10_linesOn (Base_m hB) fx fy ?_
      rw [hB.1]
      exact (onS_eq hB.2.2.1 hB.2.1.1).symm
