/-! taken, image, back -/
theorem s_X2_isUpright {s : Sg} {i : Int} {post : Int → Prop} (hi : 0 ≤ i ∧ i < 10) (h : ∀ r, BV r (s 2 i.toNat = s 4 i.toNat) → post r) : w_X2_isUpright s i post := by
  unfold w_X2_isUpright jn
  have h1 := h 1
  have h0 := h 0
  grind
theorem s_X10_isUpright {s : Sg} {i : Int} {post : Int → Prop} (hi : 0 ≤ i ∧ i < 10) (h : ∀ r, BV r (s 69 i.toNat = s 71 i.toNat) → post r) : w_X10_isUpright s i post := by
  unfold w_X10_isUpright jn
  have h1 := h 1
  have h0 := h 0
  grind
theorem Keep_rfl (s : Sg) : Keep s s := Or.inl ⟨fun _ _ => rfl, rfl, rfl, rfl⟩
theorem T_taken {s : Sg} {i k : Int} (hB : Base s) : w_X9_taken s i k (fun r1 => w_X10_taken s i k (fun r2 => r1 = r2 ∧ Base s ∧ Keep s s)) := by
  have b1 := hB.1
  have hL := hB.2.1
  have hn : 0 ≤ s 1 0 ∧ s 1 0 ≤ 10 := ⟨hL.1, hL.2.1⟩
  have hm : ∀ r : Int, (¬ ((0 ≤ i ∧ i < s 1 0) ∧ (0 ≤ k ∧ k ≤ 2)) → r = -2) → (((0 ≤ i ∧ i < s 1 0) ∧ (0 ≤ k ∧ k ≤ 2)) → r = if (k = 0 ∧ s 2 i.toNat = s 4 i.toNat) ∨ (k = 1 ∧ ¬ s 2 i.toNat = s 4 i.toNat) ∨ (k = 2 ∧ ¬ s 2 i.toNat = s 4 i.toNat ∧ s 3 i.toNat = s 5 i.toNat) then i else -13) → w_X10_taken s i k (fun r2 => r = r2 ∧ Base s ∧ Keep s s) := by
    intro r hr1 hr2
    unfold w_X10_taken jn
    refine s_X10_isLine (by rw [b1]; exact hn) fun r1 e1 => ⟨fun _ => ⟨by rw [b1] at e1; exact hr1 (by omega), hB, Keep_rfl s⟩, fun h1 => ?_⟩
    rw [b1] at e1
    refine s_X10_in fun r3 e3 => ⟨fun h3 => ?_, fun _ => ⟨hr1 (by omega), hB, Keep_rfl s⟩⟩
    have hi : 0 ≤ i ∧ i < s 1 0 := by omega
    have hb : 0 ≤ i ∧ i < 10 := by omega
    obtain ⟨q1, q2, q3, q4⟩ := hB.2.2.1 i.toNat (by omega)
    simp only [Nat.reduceAdd] at q2 q3 q4
    have hr3 := hr2 ⟨hi, by omega⟩
    refine ⟨fun k0 => s_X10_isUpright hb fun r8 e8 => ?_, fun k0 => s_X10_isUpright hb fun r8 e8 => ?_⟩
    · rw [q1, q3] at e8
      rw [q2, q4]
      have hKB : Base s ∧ Keep s s := ⟨hB, Keep_rfl s⟩
      grind
    · rw [q1, q3] at e8
      have hKB : Base s ∧ Keep s s := ⟨hB, Keep_rfl s⟩
      grind
  unfold w_X9_taken jn
  refine s_X2_has fun r1 e1 => ⟨fun h => hm _ (fun _ => rfl) (fun q => by omega), fun h1 => ⟨fun h => hm _ (fun _ => rfl) (fun q => by omega), fun h2 => ⟨fun h3 => ?_, fun h => hm _ (fun _ => rfl) (fun q => by omega)⟩⟩⟩
  have hi : 0 ≤ i ∧ i < s 1 0 := by omega
  have hb : 0 ≤ i ∧ i < 10 := by omega
  have hLi := hL.2.2 i.toNat (by omega)
  simp only [Nat.reduceAdd] at hLi
  refine s_X2_isUpright hb fun r3 e3 => ?_
  have hx : w32 ((s (1 + 4) i.toNat) - (s (1 + 2) i.toNat)) = s 5 i.toNat - s 3 i.toNat := w32_id ⟨by simp only [Nat.reduceAdd]; omega, by simp only [Nat.reduceAdd]; omega⟩
  have hm2 : ∀ r : Int, (r = if (k = 0 ∧ s 2 i.toNat = s 4 i.toNat) ∨ (k = 1 ∧ ¬ s 2 i.toNat = s 4 i.toNat) ∨ (k = 2 ∧ ¬ s 2 i.toNat = s 4 i.toNat ∧ s 3 i.toNat = s 5 i.toNat) then i else -13) → w_X10_taken s i k (fun r2 => r = r2 ∧ Base s ∧ Keep s s) := fun r hr => hm r (fun q => absurd ⟨hi, by omega, h3⟩ q) (fun _ => hr)
  have fi := hm2 i
  have f13 := hm2 (-13)
  unfold w_X2_rise
  rw [hx]
  grind
/-- the lines of one place come to another -/
def BecP (s : Sg) (c e : Nat) (t : Sg) : Prop := t c 0 = s e 0 ∧ (∀ k, k ≠ 0 → t c k = s c k) ∧ (∀ c', (c' < c ∨ c + 5 ≤ c') → t c' = s c') ∧ ∀ j, 1 ≤ j → j ≤ 4 → ∀ k : Nat, t (c + j) k = if (k : Int) < s e 0 then s (e + j) k else s (c + j) k
theorem s_X2_become {s : Sg} {c e : Nat} {post : Sg → Prop} (hce : c + 5 ≤ e ∨ e + 5 ≤ c) (hn : 0 ≤ s e 0 ∧ s e 0 ≤ 10) (h : ∀ t, BecP s c e t → post t) : w_X2_become s c e post := by
  unfold w_X2_become
  intro s1 e1
  refine lr_1s (fun m t => 0 ≤ m ∧ m ≤ s e 0 ∧ t c 0 = s e 0 ∧ (∀ k, k ≠ 0 → t c k = s c k) ∧ (∀ c', (c' < c ∨ c + 5 ≤ c') → t c' = s c') ∧ ∀ j, 1 ≤ j → j ≤ 4 → ∀ k : Nat, t (c + j) k = if (k : Int) < m then s (e + j) k else s (c + j) k) (fun m t => (s e 0 - m).toNat) ?_ 0 s1 ⟨by omega, hn.1, by rw [e1, up_apply]; simp, fun k hk => by rw [e1, up_apply]; simp [hk], fun c' hc => by rw [e1, up_ne _ _ _ (by omega)], fun j h1 h2 k => by rw [if_neg (by omega), e1, up_ne _ _ _ (by omega)]⟩
  rintro again m t ⟨m0, m1, t1, t2, t3, t4⟩ hag
  rw [t1]
  refine ⟨fun hc => h t ⟨t1, t2, t3, fun j h1 h2 k => by rw [t4 j h1 h2 k, show m = s e 0 by omega]⟩, fun hc => ?_⟩
  have hb : 0 ≤ m ∧ m < 10 := by omega
  refine ⟨hb, hb, fun s7 e7 => ⟨hb, hb, fun s10 e10 => ⟨hb, hb, fun s13 e13 => ⟨hb, hb, fun s16 e16 v hv => ?_⟩⟩⟩⟩
  rw [w32_id (show ok32 (m + 1) from ⟨by omega, by omega⟩)] at hv
  subst hv
  refine hag _ _ ⟨by omega, by omega, ?_, ?_, ?_, ?_⟩ (by omega)
  · rw [e16, e13, e10, e7, up_ne _ _ _ (by omega), up_ne _ _ _ (by omega), up_ne _ _ _ (by omega), up_ne _ _ _ (by omega), t1]
  · intro k hk
    rw [e16, e13, e10, e7, up_ne _ _ _ (by omega), up_ne _ _ _ (by omega), up_ne _ _ _ (by omega), up_ne _ _ _ (by omega), t2 k hk]
  · intro c' hc'
    rw [e16, e13, e10, e7, up_ne _ _ _ (by omega), up_ne _ _ _ (by omega), up_ne _ _ _ (by omega), up_ne _ _ _ (by omega), t3 c' hc']
  · intro j h1 h2 k
    have hk := t4 j h1 h2 k
    have x1 : t (e + 1) m.toNat = s (e + 1) m.toNat := by rw [t3 _ (by omega)]
    have x2 : s7 (e + 2) m.toNat = s (e + 2) m.toNat := by rw [e7, up_ne _ _ _ (by omega), t3 _ (by omega)]
    have x3 : s10 (e + 3) m.toNat = s (e + 3) m.toNat := by rw [e10, e7, up_ne _ _ _ (by omega), up_ne _ _ _ (by omega), t3 _ (by omega)]
    have x4 : s13 (e + 4) m.toNat = s (e + 4) m.toNat := by rw [e13, e10, e7, up_ne _ _ _ (by omega), up_ne _ _ _ (by omega), up_ne _ _ _ (by omega), t3 _ (by omega)]
    rw [x1] at e7
    rw [x2] at e10
    rw [x3] at e13
    rw [x4] at e16
    rw [e16, e13, e10, e7]
    have hj : j = 1 ∨ j = 2 ∨ j = 3 ∨ j = 4 := by omega
    rcases hj with rfl | rfl | rfl | rfl
    all_goals
      simp only [up_apply]
      grind
theorem cpy_apply (s : Sg) (c0 : Nat) (sp : Int) (c1 : Nat) (dp n : Int) (c k : Nat) : cpy s c0 sp c1 dp n c k = if c = c1 ∧ dp.toNat ≤ k ∧ k < dp.toNat + n.toNat then s c0 (sp.toNat + (k - dp.toNat)) else s c k := by
  unfold cpy
  by_cases h : c = c1
  · subst h; simp
  · simp [h]
theorem cpy_ne (s : Sg) (c0 : Nat) (sp : Int) {c1 : Nat} (dp n : Int) {c : Nat} (h : c ≠ c1) : cpy s c0 sp c1 dp n c = s c := by
  unfold cpy; rw [if_neg h]
theorem s_endRow {s : Sg} {k : Int} {post : Int → Prop} (hk : 0 ≤ k ∧ k ≤ 3) (h : post (69 + k)) : w_X10_endRow s k post := by
  unfold w_X10_endRow jn
  have hk : k = 0 ∨ k = 1 ∨ k = 2 ∨ k = 3 := by omega
  rcases hk with rfl | rfl | rfl | rfl <;> simpa using h
theorem sh_ends : ∀ k : Nat, k < 4 → shp (69 + k) = (1, 10) := by decide +kernel
/-- the rows that a level keeps -/
def KepP (s : Sg) (v : Nat) (t : Sg) : Prop := t 174 v = s 68 0 ∧ (∀ k, k ≠ v → t 174 k = s 174 k) ∧ (∀ c, c ≠ 174 → (c < 176 + 4 * v ∨ 176 + 4 * v + 4 ≤ c) → t c = s c) ∧ ∀ j, j < 4 → ∀ k : Nat, k < 10 → t (176 + 4 * v + j) k = s (69 + j) k
theorem s_X10_keep {s : Sg} {v : Int} {post : Sg → Prop} (hv : 0 ≤ v ∧ v < 2) (h : ∀ t, KepP s v.toNat t → post t) : w_X10_keep s v post := by
  unfold w_X10_keep
  refine ⟨hv, fun s2 e2 => ?_⟩
  refine lr_1s (fun m t => 0 ≤ m ∧ m ≤ 4 ∧ t 174 v.toNat = s 68 0 ∧ (∀ k, k ≠ v.toNat → t 174 k = s 174 k) ∧ (∀ c, c ≠ 174 → (c < 176 + 4 * v.toNat ∨ 176 + 4 * v.toNat + 4 ≤ c) → t c = s c) ∧ ∀ j : Nat, (j : Int) < m → ∀ k : Nat, k < 10 → t (176 + 4 * v.toNat + j) k = s (69 + j) k) (fun m t => (4 - m).toNat) ?_ 0 s2 ⟨by omega, by omega, by rw [e2, up_apply]; simp, fun k hk => by rw [e2, up_apply]; simp [hk], fun c hc _ => by rw [e2, up_ne _ _ _ (by omega)], fun j hj => by omega⟩
  rintro again m t ⟨m0, m1, t1, t2, t3, t4⟩ hag
  refine ⟨fun hc => h t ⟨t1, t2, t3, fun j hj => t4 j (by omega)⟩, fun hc => s_endRow (by omega) ?_⟩
  rw [w32_id (show ok32 (4 * v) from ⟨by omega, by omega⟩), w32_id (show ok32 (4 * v + m) from ⟨by omega, by omega⟩)]
  refine ⟨by omega, ?_, by omega, fun s10 e10 w hw => ?_⟩
  · rw [show (69 + m).toNat = 69 + m.toNat by omega]
    exact sh_ends _ (by omega)
  rw [w32_id (show ok32 (m + 1) from ⟨by omega, by omega⟩)] at hw
  subst hw
  have ec : 176 + (4 * v + m).toNat = 176 + 4 * v.toNat + m.toNat := by omega
  have er : (69 + m).toNat = 69 + m.toNat := by omega
  rw [ec, er] at e10
  refine hag _ _ ⟨by omega, by omega, ?_, ?_, ?_, ?_⟩ (by omega)
  · rw [e10, cpy_ne _ _ _ _ _ (by omega), t1]
  · intro k hk; rw [e10, cpy_ne _ _ _ _ _ (by omega), t2 k hk]
  · intro c h1 h2; rw [e10, cpy_ne _ _ _ _ _ (by omega), t3 c h1 h2]
  · intro j hj k hk
    rw [e10, cpy_apply]
    by_cases e : j = m.toNat
    · subst e
      rw [if_pos ⟨rfl, by simp, by simp; omega⟩, t3 (69 + m.toNat) (by omega) (by omega)]
      simp
    · rw [if_neg (by omega)]
      exact t4 j (by omega) k hk
def BakP (s : Sg) (v : Nat) (t : Sg) : Prop := t 68 0 = s 174 v ∧ (∀ k, k ≠ 0 → t 68 k = s 68 k) ∧ (∀ c, (c < 68 ∨ 73 ≤ c) → t c = s c) ∧ ∀ j, j < 4 → ∀ k : Nat, k < 10 → t (69 + j) k = s (176 + 4 * v + j) k
theorem s_X10_layBack {s : Sg} {v : Int} {post : Sg → Prop} (hv : 0 ≤ v ∧ v < 2) (h : ∀ t, BakP s v.toNat t → post t) : w_X10_layBack s v post := by
  unfold w_X10_layBack
  refine ⟨hv, fun s2 e2 => ?_⟩
  refine lr_1s (fun m t => 0 ≤ m ∧ m ≤ 4 ∧ t 68 0 = s 174 v.toNat ∧ (∀ k, k ≠ 0 → t 68 k = s 68 k) ∧ (∀ c, (c < 68 ∨ 73 ≤ c) → t c = s c) ∧ ∀ j : Nat, (j : Int) < m → ∀ k : Nat, k < 10 → t (69 + j) k = s (176 + 4 * v.toNat + j) k) (fun m t => (4 - m).toNat) ?_ 0 s2 ⟨by omega, by omega, by rw [e2, up_apply]; simp, fun k hk => by rw [e2, up_apply]; simp [hk], fun c hc => by rw [e2, up_ne _ _ _ (by omega)], fun j hj => by omega⟩
  rintro again m t ⟨m0, m1, t1, t2, t3, t4⟩ hag
  refine ⟨fun hc => h t ⟨t1, t2, t3, fun j hj => t4 j (by omega)⟩, fun hc => ?_⟩
  rw [w32_id (show ok32 (4 * v) from ⟨by omega, by omega⟩), w32_id (show ok32 (4 * v + m) from ⟨by omega, by omega⟩)]
  refine ⟨by omega, s_endRow (by omega) ⟨?_, by omega, fun s10 e10 w hw => ?_⟩⟩
  · rw [show (69 + m).toNat = 69 + m.toNat by omega]
    exact sh_ends _ (by omega)
  rw [w32_id (show ok32 (m + 1) from ⟨by omega, by omega⟩)] at hw
  subst hw
  have ec : 176 + (4 * v + m).toNat = 176 + 4 * v.toNat + m.toNat := by omega
  have er : (69 + m).toNat = 69 + m.toNat := by omega
  rw [ec, er] at e10
  refine hag _ _ ⟨by omega, by omega, ?_, ?_, ?_, ?_⟩ (by omega)
  · rw [e10, cpy_ne _ _ _ _ _ (by omega), t1]
  · intro k hk; rw [e10, cpy_ne _ _ _ _ _ (by omega), t2 k hk]
  · intro c h1; rw [e10, cpy_ne _ _ _ _ _ (by omega), t3 c h1]
  · intro j hj k hk
    rw [e10, cpy_apply]
    by_cases e : j = m.toNat
    · subst e
      rw [if_pos ⟨rfl, by simp, by simp; omega⟩, t3 (176 + 4 * v.toNat + m.toNat) (by omega)]
      simp
    · rw [if_neg (by omega)]
      exact t4 j (by omega) k hk
theorem T_image {s : Sg} (hB : Base s) : w_X9_image s (fun r1 s1 => w_X10_image s1 (fun r2 s2 => r1 = r2 ∧ Base s2 ∧ Keep s s2)) := by
  obtain ⟨b1, hL, b3, b4, b5, b6, b7⟩ := id hB
  have hn : 0 ≤ s 1 0 ∧ s 1 0 ≤ 10 := ⟨hL.1, hL.2.1⟩
  unfold w_X9_image
  refine s_X2_become (by omega) hn fun t ht s2 e2 => ?_
  obtain ⟨t1, t2, t3, t4⟩ := ht
  unfold w_X10_image
  intro s3 e3
  refine s_X10_keep (by omega) fun u hu => ?_
  obtain ⟨u1, u2, u3, u4⟩ := hu
  have s2o : ∀ c, c ≠ 0 → s2 c = t c := fun c h => by rw [e2, up_ne _ _ _ h]
  have s3o : ∀ c, c ≠ 68 → s3 c = s2 c := fun c h => by rw [e3, up_ne _ _ _ h]
  have v6 : u 6 0 = s 1 0 := by rw [u3 6 (by omega) (by omega), s3o 6 (by omega), s2o 6 (by omega), t1]
  have hs268 : ∀ k, s2 68 k = s 68 k := fun k => by rw [s2o 68 (by omega), t3 68 (by omega)]
  have v68 : ∀ k, k ≠ 43 → u 68 k = s 68 k := fun k hk => by rw [u3 68 (by omega) (by omega), e3, up_apply]; simp [hk, hs268]
  have far : ∀ c, c ≠ 0 → c ≠ 68 → c ≠ 174 → (c < 6 ∨ 11 ≤ c) → (c < 180 ∨ 184 ≤ c) → u c = s c := fun c h0 h1 h2 h3 h4 => by rw [u3 c h2 (by omega), s3o c h1, s2o c h0, t3 c (by omega)]
  have p : ∀ j, 1 ≤ j → j ≤ 4 → ∀ k : Nat, u (6 + j) k = if (k : Int) < s 1 0 then s (1 + j) k else s (6 + j) k := fun j h1 h2 k => by rw [u3 (6 + j) (by omega) (by omega), s3o (6 + j) (by omega), s2o (6 + j) (by omega), t4 j h1 h2 k]
  have qq : ∀ j, j < 4 → ∀ k : Nat, k < 10 → u (180 + j) k = s (69 + j) k := fun j h1 k hk => by
    have := u4 j h1 k hk
    rw [show 176 + 4 * (1 : Int).toNat + j = 180 + j by simp] at this
    rw [this, s3o (69 + j) (by omega), s2o (69 + j) (by omega), t3 (69 + j) (by omega)]
  have u00 : ∀ k, u 0 k = if k = 12 then 1 else s 0 k := fun k => by
    rw [u3 0 (by omega) (by omega), s3o 0 (by omega), e2, up_apply, t3 0 (by omega)]; simp
  refine ⟨?_, ⟨by rw [v68 0 (by omega), far 1 (by omega) (by omega) (by omega) (by omega) (by omega)]; exact b1, ?_, ?_, ?_, ?_, ?_, ?_⟩, Or.inl ⟨fun c hc => by unfold kc at hc; exact far c (by omega) (by omega) (by omega) (by omega) (by omega), by rw [u00]; simp, by rw [u00]; simp, by rw [u00]; simp⟩⟩
  · rw [s2o 6 (by omega), t1, v68 0 (by omega), b1]
  · rw [far 1 (by omega) (by omega) (by omega) (by omega) (by omega)]
    exact LkOK_cells hL (far _ (by omega) (by omega) (by omega) (by omega) (by omega)) (far _ (by omega) (by omega) (by omega) (by omega) (by omega)) (far _ (by omega) (by omega) (by omega) (by omega) (by omega)) (far _ (by omega) (by omega) (by omega) (by omega) (by omega))
  · rw [far 1 (by omega) (by omega) (by omega) (by omega) (by omega)]
    unfold LkEq
    rw [far 2 (by omega) (by omega) (by omega) (by omega) (by omega), far (2 + 1) (by omega) (by omega) (by omega) (by omega) (by omega), far (2 + 2) (by omega) (by omega) (by omega) (by omega) (by omega), far (2 + 3) (by omega) (by omega) (by omega) (by omega) (by omega), far 69 (by omega) (by omega) (by omega) (by omega) (by omega), far (69 + 1) (by omega) (by omega) (by omega) (by omega) (by omega), far (69 + 2) (by omega) (by omega) (by omega) (by omega) (by omega), far (69 + 3) (by omega) (by omega) (by omega) (by omega) (by omega)]
    exact b3
  · rw [u00, u3 68 (by omega) (by omega), e3, up_apply]; simp
  · rw [u00]; simp
  · intro _
    rw [v6]
    refine ⟨?_, ?_, ?_⟩
    · have : u 174 1 = s3 68 0 := u1
      rw [this, e3, up_apply]; simp [hs268, b1]
    · refine ⟨hL.1, hL.2.1, fun k hk => ?_⟩
      have p1 := p 1 (by omega) (by omega) k
      have p2 := p 2 (by omega) (by omega) k
      have p3 := p 3 (by omega) (by omega) k
      have p4 := p 4 (by omega) (by omega) k
      rw [if_pos hk] at p1 p2 p3 p4
      simp only [Nat.reduceAdd] at p1 p2 p3 p4 ⊢
      rw [p1, p2, p3, p4]
      exact hL.2.2 k hk
    · intro k hk
      have p1 := p 1 (by omega) (by omega) k
      have p2 := p 2 (by omega) (by omega) k
      have p3 := p 3 (by omega) (by omega) k
      have p4 := p 4 (by omega) (by omega) k
      have q0 := qq 0 (by omega) k (by omega)
      have q1 := qq 1 (by omega) k (by omega)
      have q2 := qq 2 (by omega) k (by omega)
      have q3 := qq 3 (by omega) k (by omega)
      rw [if_pos hk] at p1 p2 p3 p4
      simp only [Nat.reduceAdd] at p1 p2 p3 p4 q0 q1 q2 q3 ⊢
      rw [p1, p2, p3, p4, q0, q1, q2, q3]
      exact b3 k hk
  · unfold ShOK
    intro t' ht'
    rw [far 65 (by omega) (by omega) (by omega) (by omega) (by omega), far 184 (by omega) (by omega) (by omega) (by omega) (by omega), far 66 (by omega) (by omega) (by omega) (by omega) (by omega), far 185 (by omega) (by omega) (by omega) (by omega) (by omega), far 67 (by omega) (by omega) (by omega) (by omega) (by omega), far (187 + t') (by omega) (by omega) (by omega) (by omega) (by omega)]
    exact b7 t' ht'
theorem T_back {s : Sg} (hB : Base s) : w_X9_back s (fun r1 s1 => w_X10_back s1 (fun r2 s2 => r1 = r2 ∧ Base s2 ∧ Keep s s2)) := by
  obtain ⟨b1, hL, b3, b4, b5, b6, b7⟩ := id hB
  unfold w_X9_back
  refine ⟨fun h1 => s_forget ?_, fun h1 => ?_⟩
  · obtain ⟨i1, i2, i3⟩ := b6 (by omega)
    have hf : ∀ c, c ≠ 0 → fgt s c = s c := fun c h => fgt_ne s h
    refine s_X2_become (s := fgt s) (by omega) (by rw [hf 6 (by omega)]; exact ⟨i2.1, i2.2.1⟩) fun t ht => ?_
    obtain ⟨t1, t2, t3, t4⟩ := ht
    unfold w_X10_back
    have e43 : t 68 43 = s 0 12 := by rw [t3 68 (by omega), hf 68 (by omega), b4]
    rw [e43]
    refine ⟨fun _ => s_X10_layBack (by omega) fun u hu => ?_, fun h => absurd h h1⟩
    obtain ⟨u1, u2, u3, u4⟩ := hu
    have v1 : u 1 0 = s 6 0 := by rw [u3 1 (by omega), t1, hf 6 (by omega)]
    have v68 : u 68 0 = s 6 0 := by
      have : u 68 0 = t 174 1 := u1
      rw [this, t3 174 (by omega), hf 174 (by omega), i1]
    have p : ∀ j, 1 ≤ j → j ≤ 4 → ∀ k : Nat, (k : Int) < s 6 0 → u (1 + j) k = s (6 + j) k := fun j h1 h2 k hk => by
      rw [u3 (1 + j) (by omega), t4 j h1 h2 k, hf 6 (by omega), if_pos hk, hf (6 + j) (by omega)]
    have qq : ∀ j, j < 4 → ∀ k : Nat, k < 10 → u (69 + j) k = s (180 + j) k := fun j h1 k hk => by
      have := u4 j h1 k hk
      rw [show 176 + 4 * (1 : Int).toNat + j = 180 + j by simp] at this
      rw [this, t3 (180 + j) (by omega), hf (180 + j) (by omega)]
    have i10 := i2.2.1
    refine ⟨by rw [t1, v68, hf 6 (by omega)], Base_far hB (fun c hc => by rw [u3 c (by omega), t3 c (by omega), hf c (by omega)]) (by rw [u3 0 (by omega), t3 0 (by omega)]; exact (fgt_0 s).1) (by rw [u2 43 (by omega), e43, b4]) (by rw [v68, v1]) ?_ ?_, Or.inr (by rw [u3 0 (by omega), t3 0 (by omega)]; exact (fgt_0 s).2)⟩
    · rw [v1]
      refine ⟨i2.1, i2.2.1, fun k hk => ?_⟩
      have p1 := p 1 (by omega) (by omega) k hk
      have p2 := p 2 (by omega) (by omega) k hk
      have p3 := p 3 (by omega) (by omega) k hk
      have p4 := p 4 (by omega) (by omega) k hk
      simp only [Nat.reduceAdd] at p1 p2 p3 p4 ⊢
      rw [p1, p2, p3, p4]
      exact i2.2.2 k hk
    · rw [v1]
      intro k hk
      have p1 := p 1 (by omega) (by omega) k hk
      have p2 := p 2 (by omega) (by omega) k hk
      have p3 := p 3 (by omega) (by omega) k hk
      have p4 := p 4 (by omega) (by omega) k hk
      have q0 := qq 0 (by omega) k (by omega)
      have q1 := qq 1 (by omega) k (by omega)
      have q2 := qq 2 (by omega) k (by omega)
      have q3 := qq 3 (by omega) k (by omega)
      simp only [Nat.reduceAdd] at p1 p2 p3 p4 q0 q1 q2 q3 ⊢
      rw [p1, p2, p3, p4, q0, q1, q2, q3]
      exact i3 k hk
  · unfold w_X10_back
    show (¬ s 68 43 = 0 → _) ∧ (s 68 43 = 0 → _)
    rw [b4]
    exact ⟨fun h => absurd h1 h, fun _ => ⟨rfl, hB, Keep_rfl s⟩⟩
