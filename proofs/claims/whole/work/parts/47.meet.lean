/-! how two lines meet -/
def mr (D : Nat → Nat → Int) (a : Nat) : Int := D 2 a - D 0 a
def ms (D : Nat → Nat → Int) (a : Nat) : Int := D 3 a - D 1 a
def mp (D : Nat → Nat → Int) (a b : Nat) : Int := D 0 b - D 0 a
def mq (D : Nat → Nat → Int) (a b : Nat) : Int := D 1 b - D 1 a
def dT (D : Nat → Nat → Int) (a b : Nat) : Int := mr D a * ms D b - ms D a * mr D b
def tT (D : Nat → Nat → Int) (a b : Nat) : Int := mp D a b * ms D b - mq D a b * mr D b
def uT (D : Nat → Nat → Int) (a b : Nat) : Int := mp D a b * ms D a - mq D a b * mr D a
def mS (D : Nat → Nat → Int) (a b : Nat) : Int := if dT D a b < 0 then -1 else 1
def les (x y u v : Int) : Prop := x < u ∨ (x = u ∧ y < v)
def lesB (x y u v : Int) : Bool := decide (x < u ∨ (x = u ∧ y < v))
def mF (D : Nat → Nat → Int) (a b : Nat) : Nat := if lesB (D 0 a) (D 1 a) (D 0 b) (D 1 b) = true then b else a
def mT (D : Nat → Nat → Int) (a b : Nat) : Nat := if lesB (D 2 b) (D 3 b) (D 2 a) (D 3 a) = true then b else a
def mIn (D : Nat → Nat → Int) (a b : Nat) : Bool := decide ((0 ≤ mS D a b * tT D a b ∧ mS D a b * tT D a b ≤ mS D a b * dT D a b) ∧ (0 ≤ mS D a b * uT D a b ∧ mS D a b * uT D a b ≤ mS D a b * dT D a b))
def mE (D : Nat → Nat → Int) (a b : Nat) : Bool := decide (mS D a b * tT D a b = 0 ∨ mS D a b * tT D a b = mS D a b * dT D a b ∨ mS D a b * uT D a b = 0 ∨ mS D a b * uT D a b = mS D a b * dT D a b)
/-- 0 apart, 1 crossing, 2 touching, 3 lying on one another -/
def mK (D : Nat → Nat → Int) (a b : Nat) : Int :=
  if dT D a b = 0 then
    (if uT D a b = 0 then (if lesB (D 0 (mF D a b)) (D 1 (mF D a b)) (D 2 (mT D a b)) (D 3 (mT D a b)) = true then 3 else if D 0 (mF D a b) = D 2 (mT D a b) ∧ D 1 (mF D a b) = D 3 (mT D a b) then 2 else 0) else 0)
  else if mIn D a b = true then (if mE D a b = true then 2 else 1) else 0
def mX (D : Nat → Nat → Int) (a b : Nat) : Int := if dT D a b = 0 then D 0 (mF D a b) else D 0 a * (mS D a b * dT D a b) + mS D a b * tT D a b * mr D a
def mY (D : Nat → Nat → Int) (a b : Nat) : Int := if dT D a b = 0 then D 1 (mF D a b) else D 1 a * (mS D a b * dT D a b) + mS D a b * tT D a b * ms D a
def mD (D : Nat → Nat → Int) (a b : Nat) : Int := if dT D a b = 0 then 1 else mS D a b * dT D a b
/-- in lowest terms -/
def loN (x d : Int) : Int := x.tdiv (Nat.gcd x.natAbs d.natAbs : Int)
def loD (x d : Int) : Int := d.tdiv (Nat.gcd x.natAbs d.natAbs : Int)
def B40 (a : Int) : Prop := -40 ≤ a ∧ a ≤ 40
theorem t64 {a b c d : Int} (ha : B40 a) (hb : B40 b) (hc : B40 c) (hd : B40 d) : w64 (w64 (a * b) - w64 (c * d)) = a * b - c * d ∧ (-3200 ≤ a * b - c * d ∧ a * b - c * d ≤ 3200) := by
  have h1 := mb (A := 40) (B := 40) ha hb
  have h2 := mb (A := 40) (B := 40) hc hd
  rw [w64_b h1 (by decide), w64_b h2 (by decide), w64_id (show ok64 (a * b - c * d) from ⟨by omega, by omega⟩)]
  exact ⟨rfl, by omega, by omega⟩
theorem t32 {a b c d : Int} (ha : B40 a) (hb : B40 b) (hc : B40 c) (hd : B40 d) : w32 (w32 (a * b) - w32 (c * d)) = a * b - c * d := by
  have h1 := mb (A := 40) (B := 40) ha hb
  have h2 := mb (A := 40) (B := 40) hc hd
  rw [w32_b h1 (by decide), w32_b h2 (by decide), w32_id (show ok32 (a * b - c * d) from ⟨by omega, by omega⟩)]
theorem m64 {a b : Int} (ha : B40 a) (hb : B40 b) : w64 (a * b) = a * b := w64_b (mb (A := 40) (B := 40) ha hb) (by decide)
theorem ln40 {D : Nat → Nat → Int} {n : Int} {a b : Nat} (h : LsD D n) (ha : (a : Int) < n) (hb : (b : Int) < n) : B40 (mr D a) ∧ B40 (ms D a) ∧ B40 (mp D a b) ∧ B40 (mq D a b) ∧ 0 ≤ mr D a := by
  obtain ⟨⟨a1, a2, a3, a4⟩, hl⟩ := h.2 a ha
  obtain ⟨⟨b1, b2, b3, b4⟩, hm⟩ := h.2 b hb
  unfold B40 mr ms mp mq
  omega
theorem s_X3_isAhead {x y u v : Int} {post : Int → Prop} (h : ∀ r, BV r (lesB x y u v = true) → post r) : w_X3_isAhead x y u v post := by
  unfold w_X3_isAhead jn
  have h1 := h 1
  have h0 := h 0
  unfold lesB at h1 h0
  rw [decide_eq_true_iff] at h1 h0
  have f0 : ∀ p : ¬ (x < u ∨ (x = u ∧ y < v)), ((0 : Int) = 0 ∨ (0 : Int) = 1) ∧ post 0 := fun p => ⟨Or.inl rfl, h0 (Or.inr ⟨rfl, p⟩)⟩
  have f1 : ∀ p : (x < u ∨ (x = u ∧ y < v)), ((1 : Int) = 0 ∨ (1 : Int) = 1) ∧ post 1 := fun p => ⟨Or.inr rfl, h1 (Or.inl ⟨rfl, p⟩)⟩
  exact ⟨fun q => f1 (by omega), fun q => ⟨fun q2 => f0 (by omega), fun q2 => ⟨fun q3 => f0 (by omega), fun q3 => f1 (by omega)⟩⟩⟩
theorem s_X10_isLess {x y u v : Int} {post : Int → Prop} (h : ∀ r, BV r (lesB x y u v = true) → post r) : w_X10_isLess x y u v post := by
  unfold w_X10_isLess jn
  have h1 := h 1
  have h0 := h 0
  unfold lesB at h1 h0
  rw [decide_eq_true_iff] at h1 h0
  have f0 : ∀ p : ¬ (x < u ∨ (x = u ∧ y < v)), ((0 : Int) = 0 ∨ (0 : Int) = 1) ∧ post 0 := fun p => ⟨Or.inl rfl, h0 (Or.inr ⟨rfl, p⟩)⟩
  have f1 : ∀ p : (x < u ∨ (x = u ∧ y < v)), ((1 : Int) = 0 ∨ (1 : Int) = 1) ∧ post 1 := fun p => ⟨Or.inr rfl, h1 (Or.inl ⟨rfl, p⟩)⟩
  exact ⟨fun q => f1 (by omega), fun q => ⟨fun q2 => f0 (by omega), fun q2 => ⟨fun q3 => f0 (by omega), fun q3 => f1 (by omega)⟩⟩⟩
theorem s_runG {s : Sg} {c : Nat} {D : Nat → Nat → Int} {n : Int} {i : Nat} {post : Int → Prop} (h : LsD D n) (hat : LnAt s (c + 1) n D) (hi : (i : Int) < n) (hp : post (mr D i)) : w_X2_run s c (i : Int) post := by
  obtain ⟨⟨ha, hb, hu, hv⟩, hl⟩ := h.2 i hi
  obtain ⟨e1, e2, e3, e4⟩ := hat i hi
  have hi10 : 0 ≤ (i : Int) ∧ (i : Int) < 10 := ⟨by omega, by have := h.1; omega⟩
  unfold w_X2_run
  rw [Int.toNat_natCast, e1, show c + 3 = c + 1 + 2 from rfl, e3, w32_id (show ok32 (D 2 i - D 0 i) from ⟨by omega, by omega⟩)]
  exact ⟨hi10, hi10, hp⟩
theorem s_riseG {s : Sg} {c : Nat} {D : Nat → Nat → Int} {n : Int} {i : Nat} {post : Int → Prop} (h : LsD D n) (hat : LnAt s (c + 1) n D) (hi : (i : Int) < n) (hp : post (ms D i)) : w_X2_rise s c (i : Int) post := by
  obtain ⟨⟨ha, hb, hu, hv⟩, hl⟩ := h.2 i hi
  obtain ⟨e1, e2, e3, e4⟩ := hat i hi
  have hi10 : 0 ≤ (i : Int) ∧ (i : Int) < 10 := ⟨by omega, by have := h.1; omega⟩
  unfold w_X2_rise
  rw [Int.toNat_natCast, show c + 4 = c + 1 + 3 from rfl, show c + 2 = c + 1 + 1 from rfl, e2, e4, w32_id (show ok32 (D 3 i - D 1 i) from ⟨by omega, by omega⟩)]
  exact ⟨hi10, hi10, hp⟩
/-- the numbers of a meeting, in lowest terms, in a cell -/
def MtAt (t : Sg) (c : Nat) (D : Nat → Nat → Int) (a b : Nat) : Prop := t c 0 = mK D a b ∧ ((mK D a b = 1 ∨ mK D a b = 2) → t c 1 = loN (mX D a b) (mD D a b) ∧ t c 2 = loD (mX D a b) (mD D a b) ∧ t c 3 = loN (mY D a b) (mD D a b) ∧ t c 4 = loD (mY D a b) (mD D a b))
theorem lo_1 (x : Int) : loN x 1 = x ∧ loD x 1 = 1 := by
  unfold loN loD
  simp
theorem mFT {D : Nat → Nat → Int} {a b : Nat} : (mF D a b = a ∨ mF D a b = b) ∧ (mT D a b = a ∨ mT D a b = b) := by
  unfold mF mT
  refine ⟨?_, ?_⟩
  · by_cases c : lesB (D 0 a) (D 1 a) (D 0 b) (D 1 b) = true
    · rw [if_pos c]; exact Or.inr rfl
    · rw [if_neg c]; exact Or.inl rfl
  · by_cases c : lesB (D 2 b) (D 3 b) (D 2 a) (D 3 a) = true
    · rw [if_pos c]; exact Or.inr rfl
    · rw [if_neg c]; exact Or.inl rfl
theorem s_X3_inRow {s : Sg} {c0 c1 : Nat} {D : Nat → Nat → Int} {n : Int} {a b : Nat} {post : Sg → Prop} (h : LsD D n) (hat : LnAt s (c1 + 1) n D) (hc : c0 < c1 + 1 ∨ c1 + 4 < c0) (ha : (a : Int) < n) (hb : (b : Int) < n) (h0 : s c0 0 = 0) (hd : dT D a b = 0) (hu : uT D a b = 0) (hp : ∀ t, (∀ c, c ≠ c0 → t c = s c) → MtAt t c0 D a b → post t) : w_X3_findInOneRow s c0 c1 (a : Int) (b : Int) post := by
  unfold w_X3_findInOneRow
  have hn := h.1
  have ha10 : 0 ≤ (a : Int) ∧ (a : Int) < 10 := by omega
  have hb10 : 0 ≤ (b : Int) ∧ (b : Int) < 10 := by omega
  obtain ⟨a1, a2, a3, a4⟩ := hat a ha
  obtain ⟨b1, b2, b3, b4⟩ := hat b hb
  simp only [Nat.add_assoc, Nat.reduceAdd] at a1 a2 a3 a4 b1 b2 b3 b4
  simp only [Int.toNat_natCast]
  rw [a1, a2, a3, a4, b1, b2, b3, b4]
  refine ⟨ha10, ha10, hb10, hb10, s_X3_isAhead fun r5 e5 => ⟨hb10, hb10, ha10, ha10, s_X3_isAhead fun r10 e10 => ?_⟩⟩
  have eF : ((r5 = 0 → mF D a b = a) ∧ (¬ r5 = 0 → mF D a b = b)) := by
    unfold mF
    refine ⟨fun q => if_neg ?_, fun q => if_pos ?_⟩
    · rcases e5 with e | e
      · omega
      · exact e.2
    · rcases e5 with e | e
      · exact e.2
      · omega
  have eT : ((r10 = 0 → mT D a b = a) ∧ (¬ r10 = 0 → mT D a b = b)) := by
    unfold mT
    refine ⟨fun q => if_neg ?_, fun q => if_pos ?_⟩
    · rcases e10 with e | e
      · omega
      · exact e.2
    · rcases e10 with e | e
      · exact e.2
      · omega
  have hk : mK D a b = (if lesB (D 0 (mF D a b)) (D 1 (mF D a b)) (D 2 (mT D a b)) (D 3 (mT D a b)) = true then 3 else if D 0 (mF D a b) = D 2 (mT D a b) ∧ D 1 (mF D a b) = D 3 (mT D a b) then 2 else 0) := by
    unfold mK
    rw [if_pos hd, if_pos hu]
  have eX : mX D a b = D 0 (mF D a b) ∧ mY D a b = D 1 (mF D a b) ∧ mD D a b = 1 := by
    unfold mX mY mD
    rw [if_pos hd, if_pos hd, if_pos hd]
    exact ⟨rfl, rfl, rfl⟩
  obtain ⟨hF, hT⟩ := mFT (D := D) (a := a) (b := b)
  have go : ∀ f t : Nat, f = mF D a b → t = mT D a b → (0 ≤ (f : Int) ∧ (f : Int) < 10) ∧ ((0 ≤ (f : Int) ∧ (f : Int) < 10) ∧ ((0 ≤ (t : Int) ∧ (t : Int) < 10) ∧ ((0 ≤ (t : Int) ∧ (t : Int) < 10) ∧ (w_X3_isAhead (s (c1 + 1) f) (s (c1 + 2) f) (s (c1 + 3) t) (s (c1 + 4) t) (fun r_19 => jn (fun (K_21 : Sg → Prop) => (r_19 = 0 → (0 ≤ (f : Int) ∧ (f : Int) < 10) ∧ ((0 ≤ (t : Int) ∧ (t : Int) < 10) ∧ ((¬ s (c1 + 1) f = s (c1 + 3) t → K_21 s) ∧ (s (c1 + 1) f = s (c1 + 3) t → (0 ≤ (f : Int) ∧ (f : Int) < 10) ∧ ((0 ≤ (t : Int) ∧ (t : Int) < 10) ∧ ((¬ s (c1 + 2) f = s (c1 + 4) t → K_21 s) ∧ (s (c1 + 2) f = s (c1 + 4) t → ∀ s_26, s_26 = up s c0 0 2 → ((0 ≤ (f : Int) ∧ (f : Int) < 10) ∧ (∀ s_28, s_28 = up s_26 c0 1 (s_26 (c1 + 1) f) → (∀ s_29, s_29 = up s_28 c0 2 1 → ((0 ≤ (f : Int) ∧ (f : Int) < 10) ∧ (∀ s_31, s_31 = up s_29 c0 3 (s_29 (c1 + 2) f) → (∀ s_32, s_32 = up s_31 c0 4 1 → (K_21 s_32)))))))))))))) ∧ (¬ r_19 = 0 → ∀ s_33, s_33 = up s c0 0 3 → (K_21 s_33))) (fun (s_20 : Sg) => post s_20)))))) := by
    intro f t ef et
    have hf10 : 0 ≤ (f : Int) ∧ (f : Int) < 10 := by omega
    have ht10 : 0 ≤ (t : Int) ∧ (t : Int) < 10 := by omega
    obtain ⟨f1, f2, -, -⟩ := hat f (by omega)
    obtain ⟨-, -, t3, t4⟩ := hat t (by omega)
    simp only [Nat.add_assoc, Nat.reduceAdd] at f1 f2 t3 t4
    rw [← ef, ← et] at hk
    rw [← ef] at eX
    rw [f1, f2, t3, t4]
    have hn3 : ¬ (3 : Int) = 1 ∧ ¬ (3 : Int) = 2 := by omega
    refine ⟨hf10, hf10, ht10, ht10, s_X3_isAhead fun r19 e19 => ?_⟩
    unfold jn
    refine ⟨fun q => ?_, fun q s33 e33 => ?_⟩
    · have hno : ¬ lesB (D 0 f) (D 1 f) (D 2 t) (D 3 t) = true := by
        rcases e19 with e | e
        · omega
        · exact e.2
      rw [if_neg hno] at hk
      refine ⟨hf10, ht10, ⟨fun q2 => hp s (fun _ _ => rfl) ?_, fun q2 => ⟨hf10, ht10, ⟨fun q3 => hp s (fun _ _ => rfl) ?_, fun q3 => ?_⟩⟩⟩⟩
      · rw [if_neg (fun z => q2 z.1)] at hk
        exact ⟨by rw [h0, hk], fun z => by omega⟩
      · rw [if_neg (fun z => q3 z.2)] at hk
        exact ⟨by rw [h0, hk], fun z => by omega⟩
      · rw [if_pos ⟨q2, q3⟩] at hk
        rintro _ rfl
        refine ⟨hf10, ?_⟩
        rintro _ rfl _ rfl
        refine ⟨hf10, ?_⟩
        rintro _ rfl _ rfl
        refine hp _ (fun c hcc => by rw [up_ne _ _ _ hcc, up_ne _ _ _ hcc, up_ne _ _ _ hcc, up_ne _ _ _ hcc, up_ne _ _ _ hcc]) ⟨?_, fun _ => ?_⟩
        · rw [hk]
          simp [up_apply]
        · have n1 : c1 + 1 ≠ c0 := by omega
          have n2 : c1 + 2 ≠ c0 := by omega
          rw [eX.1, eX.2.1, eX.2.2, (lo_1 _).1, (lo_1 _).2, (lo_1 _).1, (lo_1 _).2]
          simp [up_apply, n1, n2, f1, f2]
    · subst e33
      have hyes : lesB (D 0 f) (D 1 f) (D 2 t) (D 3 t) = true := by
        rcases e19 with e | e
        · exact e.2
        · omega
      rw [if_pos hyes] at hk
      exact hp _ (fun c hcc => by rw [up_ne _ _ _ hcc]) ⟨by rw [hk]; simp [up_apply], fun z => by omega⟩
  unfold jn at go ⊢
  refine ⟨fun q1 => ⟨fun q2 => ?_, fun q2 => ?_⟩, fun q1 => ⟨fun q2 => ?_, fun q2 => ?_⟩⟩
  · exact go a a (eF.1 q1).symm (eT.1 q2).symm
  · exact go a b (eF.1 q1).symm (eT.2 q2).symm
  · exact go b a (eF.2 q1).symm (eT.1 q2).symm
  · exact go b b (eF.2 q1).symm (eT.2 q2).symm
