/-! light texts: first readings; what holds between calls -/
abbrev BV (r : Int) (p : Prop) : Prop := (r = 1 ∧ p) ∨ (r = 0 ∧ ¬ p)
theorem up_apply (σ : Sg) (c k : Nat) (v : Int) (c' k' : Nat) : up σ c k v c' k' = if c' = c ∧ k' = k then v else σ c' k' := by
  unfold up
  by_cases h : c' = c
  · subst h; simp
  · simp [h]
theorem s_X10_in {a lo hi : Int} {post : Int → Prop} (h : ∀ r, BV r (lo ≤ a ∧ a ≤ hi) → post r) : w_X10_in a lo hi post := by
  unfold w_X10_in jn
  have h1 := h 1
  have h0 := h 0
  grind
theorem s_X9_isCoordinate {a : Int} {post : Int → Prop} (h : ∀ r, BV r (0 ≤ a ∧ a ≤ 40) → post r) : w_X9_isCoordinate a post := by
  unfold w_X9_isCoordinate jn
  have h1 := h 1
  have h0 := h 0
  grind
theorem s_X9_canBeEnds {a b c d : Int} {post : Int → Prop} (h : ∀ r, BV r ((0 ≤ a ∧ a ≤ 40) ∧ (0 ≤ b ∧ b ≤ 40) ∧ (0 ≤ c ∧ c ≤ 40) ∧ (0 ≤ d ∧ d ≤ 40) ∧ ¬ (a = c ∧ b = d)) → post r) : w_X9_canBeEnds a b c d post := by
  unfold w_X9_canBeEnds jn
  have h1 := h 1
  have h0 := h 0
  refine s_X9_isCoordinate fun r1 e1 => ?_
  refine ⟨fun c1 => by grind, fun c1 => s_X9_isCoordinate fun r2 e2 => ?_⟩
  refine ⟨fun c2 => by grind, fun c2 => s_X9_isCoordinate fun r3 e3 => ?_⟩
  refine ⟨fun c3 => by grind, fun c3 => s_X9_isCoordinate fun r4 e4 => ?_⟩
  grind
theorem s_X10_isOnSheet {a : Int} {post : Int → Prop} (h : ∀ r, BV r (0 ≤ a ∧ a ≤ 40) → post r) : w_X10_isOnSheet a post := by
  unfold w_X10_isOnSheet
  refine s_X10_in fun r e => ?_
  have := h r
  grind
theorem s_X10_isLine {s : Sg} {a : Int} {post : Int → Prop} (hn : 0 ≤ s 68 0 ∧ s 68 0 ≤ 10) (h : ∀ r, BV r (0 ≤ a ∧ a < s 68 0) → post r) : w_X10_isLine s a post := by
  unfold w_X10_isLine
  rw [w32_id (show ok32 (s 68 0 - 1) from ⟨by omega, by omega⟩)]
  refine s_X10_in fun r e => ?_
  have := h r
  grind
theorem s_X2_has {s : Sg} {c : Nat} {a : Int} {post : Int → Prop} (h : ∀ r, BV r (0 ≤ a ∧ a < s c 0) → post r) : w_X2_has s c a post := by
  unfold w_X2_has jn
  have h1 := h 1
  have h0 := h 0
  grind
theorem s_X2_isFull {s : Sg} {c : Nat} {post : Int → Prop} (h : ∀ r, BV r (10 ≤ s c 0) → post r) : w_X2_isFull s c post := by
  unfold w_X2_isFull jn
  have h1 := h 1
  have h0 := h 0
  grind
/-- the ends of a line, the lesser one in front -/
def layS (s : Sg) (c i : Nat) (x y u v : Int) : Sg :=
  if x < u ∨ (x = u ∧ y < v) then up (up (up (up s c i x) (c + 1) i y) (c + 2) i u) (c + 3) i v
  else up (up (up (up s c i u) (c + 1) i v) (c + 2) i x) (c + 3) i y
theorem s_X10_stands {s : Sg} {i x y u v : Int} {post : Sg → Prop} (hi : 0 ≤ i ∧ i < 10) (h : post (layS s 69 i.toNat x y u v)) : w_X10_stands s i x y u v post := by
  unfold w_X10_stands jn
  unfold layS at h
  by_cases c1 : x < u
  · simpa [c1, hi] using h
  · by_cases c2 : x = u
    · by_cases c3 : y < v
      · simpa [c1, c2, c3, hi, Int.not_le.mpr c3] using h
      · simpa [c1, c2, c3, hi, Int.not_lt.mp c3] using h
    · simpa [c1, c2, hi] using h
theorem s_X2_lay {s : Sg} {c : Nat} {i x y u v : Int} {post : Sg → Prop} (hi : 0 ≤ i ∧ i < s c 0) (hn : s c 0 ≤ 10) (h : post (layS s (c + 1) i.toNat x y u v)) : w_X2_lay s c i x y u v post := by
  unfold w_X2_lay jn
  unfold layS at h
  refine s_X2_has fun r e => ?_
  have hi10 : 0 ≤ i ∧ i < 10 := ⟨hi.1, by omega⟩
  rcases e with ⟨rfl, -⟩ | ⟨rfl, e⟩
  · by_cases c1 : x < u
    · simpa [c1, hi10] using h
    · by_cases c2 : x = u
      · by_cases c3 : y < v
        · simpa [c1, c2, c3, hi10, Int.not_le.mpr c3] using h
        · simpa [c1, c2, c3, hi10, Int.not_lt.mp c3] using h
      · simpa [c1, c2, hi10] using h
  · exact absurd hi e
theorem s_forget {s : Sg} {post : Sg → Prop} (h : post (up (up (up s 0 13 0) 0 14 0) 0 15 0)) : w_X9_forgetWhatFollows s post := by
  unfold w_X9_forgetWhatFollows
  grind
def LkOK (s : Sg) (c : Nat) (n : Int) : Prop := 0 ≤ n ∧ n ≤ 10 ∧ ∀ i : Nat, (i : Int) < n → (0 ≤ s c i ∧ s c i ≤ 40) ∧ (0 ≤ s (c + 1) i ∧ s (c + 1) i ≤ 40) ∧ (0 ≤ s (c + 2) i ∧ s (c + 2) i ≤ 40) ∧ (0 ≤ s (c + 3) i ∧ s (c + 3) i ≤ 40) ∧ (s c i < s (c + 2) i ∨ (s c i = s (c + 2) i ∧ s (c + 1) i < s (c + 3) i))
def LkEq (s : Sg) (c e : Nat) (n : Int) : Prop := ∀ i : Nat, (i : Int) < n → s c i = s e i ∧ s (c + 1) i = s (e + 1) i ∧ s (c + 2) i = s (e + 2) i ∧ s (c + 3) i = s (e + 3) i
def ShOK (s : Sg) : Prop := ∀ t : Nat, t < 4 → s 65 t = s 184 t ∧ (s 65 t = -1 ∨ s 65 t = 0 ∨ s 65 t = 1) ∧ s 66 t = s 185 t ∧ (0 ≤ s 66 t ∧ s 66 t ≤ 40) ∧ ∀ k : Nat, (k : Int) < s 66 t → s 67 (40 * t + k) = s (187 + t) k
/-- lines, image, sheets: alike on both sides -/
def Base (s : Sg) : Prop := s 68 0 = s 1 0 ∧ LkOK s 2 (s 1 0) ∧ LkEq s 69 2 (s 1 0) ∧ s 68 43 = s 0 12 ∧ (s 0 12 = 0 ∨ s 0 12 = 1) ∧ (s 0 12 = 1 → s 174 1 = s 6 0 ∧ LkOK s 7 (s 6 0) ∧ LkEq s 180 7 (s 6 0)) ∧ ShOK s
/-- what is kept of the lines follows from them still: nothing of it has changed, or it is forgotten -/
def kc (c : Nat) : Prop := (1 ≤ c ∧ c ≤ 5) ∨ (16 ≤ c ∧ c ≤ 24) ∨ (38 ≤ c ∧ c ≤ 44) ∨ (53 ≤ c ∧ c ≤ 63)
def Keep (s t : Sg) : Prop := ((∀ c, kc c → t c = s c) ∧ t 0 13 = s 0 13 ∧ t 0 14 = s 0 14 ∧ t 0 15 = s 0 15) ∨ (t 0 13 = 0 ∧ t 0 14 = 0 ∧ t 0 15 = 0)
theorem layS_ne {s : Sg} {c i : Nat} {x y u v : Int} {c' : Nat} (h : c' < c ∨ c + 4 ≤ c') : layS s c i x y u v c' = s c' := by
  unfold layS
  split <;> rw [up_ne _ _ _ (by omega), up_ne _ _ _ (by omega), up_ne _ _ _ (by omega), up_ne _ _ _ (by omega)]
theorem layS_i {s : Sg} {c i k : Nat} {x y u v : Int} (h : k ≠ i) (c' : Nat) : layS s c i x y u v c' k = s c' k := by
  unfold layS
  split <;> simp [up_apply, h]
theorem layS_at {s t : Sg} {c e i : Nat} {x y u v : Int} : layS s c i x y u v c i = layS t e i x y u v e i ∧ layS s c i x y u v (c + 1) i = layS t e i x y u v (e + 1) i ∧ layS s c i x y u v (c + 2) i = layS t e i x y u v (e + 2) i ∧ layS s c i x y u v (c + 3) i = layS t e i x y u v (e + 3) i := by
  unfold layS
  split <;> simp [up_apply]
theorem layS_ok {s : Sg} {c i : Nat} {x y u v : Int} (hx : 0 ≤ x ∧ x ≤ 40) (hy : 0 ≤ y ∧ y ≤ 40) (hu : 0 ≤ u ∧ u ≤ 40) (hv : 0 ≤ v ∧ v ≤ 40) (hne : ¬ (x = u ∧ y = v)) :
    (0 ≤ layS s c i x y u v c i ∧ layS s c i x y u v c i ≤ 40) ∧ (0 ≤ layS s c i x y u v (c + 1) i ∧ layS s c i x y u v (c + 1) i ≤ 40) ∧ (0 ≤ layS s c i x y u v (c + 2) i ∧ layS s c i x y u v (c + 2) i ≤ 40) ∧ (0 ≤ layS s c i x y u v (c + 3) i ∧ layS s c i x y u v (c + 3) i ≤ 40) ∧
    (layS s c i x y u v c i < layS s c i x y u v (c + 2) i ∨ (layS s c i x y u v c i = layS s c i x y u v (c + 2) i ∧ layS s c i x y u v (c + 1) i < layS s c i x y u v (c + 3) i)) := by
  unfold layS
  split <;> simp [up_apply] <;> omega
