/-! sheet, put, copy -/
theorem ifc {p q : Prop} [Decidable p] [Decidable q] {a b : Int} (h : p ↔ q) : (if p then a else b) = (if q then a else b) := by
  by_cases hp : p
  · rw [if_pos hp, if_pos (h.mp hp)]
  · rw [if_neg hp, if_neg (fun x => hp (h.mpr x))]
theorem s_X5_isOne {a : Int} {post : Int → Prop} (h : ∀ r, BV r (0 ≤ a ∧ a < 4) → post r) : w_X5_isOne a post := by
  unfold w_X5_isOne jn
  have h1 := h 1
  have h0 := h 0
  grind
theorem s_X10_isSheet {a : Int} {post : Int → Prop} (h : ∀ r, BV r (0 ≤ a ∧ a < 4) → post r) : w_X10_isSheet a post := by
  unfold w_X10_isSheet
  refine s_X10_in fun r e => ?_
  have := h r
  grind
theorem s_X5_isSort {a : Int} {post : Int → Prop} (h : ∀ r, BV r (a = 0 ∨ a = 1) → post r) : w_X5_isSort a post := by
  unfold w_X5_isSort jn
  have h1 := h 1
  have h0 := h 0
  grind
theorem s_X5_isMissing {s : Sg} {a : Int} {post : Int → Prop} (ha : 0 ≤ a ∧ a < 4) (h : ∀ r, BV r (s 65 a.toNat = -1) → post r) : w_X5_isMissing s a post := by
  unfold w_X5_isMissing jn
  have h1 := h 1
  have h0 := h 0
  grind
theorem s_X5_hasRow {s : Sg} {a i n : Int} {post : Int → Prop} (ha : 0 ≤ a ∧ a < 4) (hs : 0 ≤ s 66 a.toNat ∧ s 66 a.toNat ≤ 40) (hn : 0 ≤ n ∧ n < 2147483648) (h : ∀ r, BV r (0 ≤ i ∧ i ≤ s 66 a.toNat - n) → post r) : w_X5_hasRow s a i n post := by
  unfold w_X5_hasRow jn
  rw [w32_id (show ok32 (s 66 a.toNat - n) from ⟨by omega, by omega⟩)]
  have h1 := h 1
  have h0 := h 0
  grind
/-- a sheet made anew, all 0 -/
def MakP (s : Sg) (a : Nat) (q n : Int) (t : Sg) : Prop := (∀ c, (c < 65 ∨ 68 ≤ c) → t c = s c) ∧ (∀ k, t 65 k = if k = a then q else s 65 k) ∧ (∀ k, t 66 k = if k = a then n else s 66 k) ∧ ∀ k, t 67 k = if 40 * a ≤ k ∧ k < 40 * a + 40 then 0 else s 67 k
theorem s_X5_make {s : Sg} {a q n : Int} {post : Sg → Prop} (ha : 0 ≤ a ∧ a < 4) (h : ∀ t, MakP s a.toNat q n t → post t) : w_X5_make s a q n post := by
  unfold w_X5_make
  refine ⟨ha, fun s2 e2 => ⟨ha, fun s4 e4 => ?_⟩⟩
  refine lr_1s (fun m t => 0 ≤ m ∧ m ≤ 40 ∧ (∀ c, (c < 65 ∨ 68 ≤ c) → t c = s c) ∧ (∀ k, t 65 k = if k = a.toNat then q else s 65 k) ∧ (∀ k, t 66 k = if k = a.toNat then n else s 66 k) ∧ ∀ k : Nat, t 67 k = if 40 * a.toNat ≤ k ∧ (k : Int) < 40 * a + m then 0 else s 67 k) (fun m t => (40 - m).toNat) ?_ 0 s4 ⟨by omega, by omega, fun c hc => by rw [e4, e2, up_ne _ _ _ (by omega), up_ne _ _ _ (by omega)], fun k => by rw [e4, e2]; simp [up_apply], fun k => by rw [e4, e2]; simp [up_apply], fun k => by rw [e4, e2, up_ne _ _ _ (by omega), up_ne _ _ _ (by omega), if_neg (by omega)]⟩
  rintro again m t ⟨m0, m1, t1, t2, t3, t4⟩ hag
  rw [w32_id (show ok32 (a * 40) from ⟨by omega, by omega⟩), w32_id (show ok32 (a * 40 + m) from ⟨by omega, by omega⟩)]
  refine ⟨fun hc => h t ⟨t1, t2, t3, fun k => by rw [t4 k]; exact ifc (by omega)⟩, fun hc => ⟨by omega, fun s9 e9 v hv => ?_⟩⟩
  rw [w32_id (show ok32 (m + 1) from ⟨by omega, by omega⟩)] at hv
  subst hv
  refine hag _ _ ⟨by omega, by omega, fun c hc => by rw [e9, up_ne _ _ _ (by omega), t1 c hc], fun k => by rw [e9, up_ne _ _ _ (by omega), t2], fun k => by rw [e9, up_ne _ _ _ (by omega), t3], fun k => ?_⟩ (by omega)
  rw [e9, up_apply, t4 k]
  by_cases e : k = (a * 40 + m).toNat
  · subst e
    rw [if_pos ⟨rfl, rfl⟩, if_pos (by omega)]
  · rw [if_neg (by omega)]
    by_cases c : 40 * a.toNat ≤ k ∧ (k : Int) < 40 * a + m
    · rw [if_pos c, if_pos (by omega)]
    · rw [if_neg c, if_neg (by omega)]
theorem Base_sh {s E : Sg} (hB : Base s) (hfar : ∀ c, (c < 64 ∨ (68 ≤ c ∧ c < 184)) → E c = s c) (h : ShOK E) : Base E := by
  obtain ⟨b1, b2, b3, b4, b5, b6, b7⟩ := hB
  unfold Base LkOK LkEq
  rw [hfar 68 (by omega), hfar 1 (by omega), hfar 2 (by omega), hfar (2 + 1) (by omega), hfar (2 + 2) (by omega), hfar (2 + 3) (by omega), hfar 69 (by omega), hfar (69 + 1) (by omega), hfar (69 + 2) (by omega), hfar (69 + 3) (by omega), hfar 0 (by omega), hfar 174 (by omega), hfar 6 (by omega), hfar 7 (by omega), hfar (7 + 1) (by omega), hfar (7 + 2) (by omega), hfar (7 + 3) (by omega), hfar 180 (by omega), hfar (180 + 1) (by omega), hfar (180 + 2) (by omega), hfar (180 + 3) (by omega)]
  exact ⟨b1, b2, b3, b4, b5, b6, h⟩
theorem Keep_sh {s E : Sg} (hfar : ∀ c, (c < 64 ∨ (68 ≤ c ∧ c < 184)) → E c = s c) : Keep s E := Or.inl ⟨fun c hc => hfar c (by unfold kc at hc; omega), by rw [hfar 0 (by omega)], by rw [hfar 0 (by omega)], by rw [hfar 0 (by omega)]⟩
/-- what the reference's making of a sheet leaves -/
def MakM (s : Sg) (a : Nat) (q n : Int) (t : Sg) : Prop := (∀ c, (c < 184 ∨ 191 ≤ c ∨ c = 186) → t c = s c) ∧ (∀ k, t 184 k = if k = a then q else s 184 k) ∧ (∀ k, t 185 k = if k = a then n else s 185 k) ∧ ∀ b, b < 4 → ∀ k : Nat, t (187 + b) k = if b = a ∧ k < 40 then 0 else s (187 + b) k
theorem MakBoth {s t u : Sg} {a : Nat} {q n : Int} (hB : Base s) (ha : a < 4) (hq : q = -1 ∨ q = 0 ∨ q = 1) (hn : 0 ≤ n ∧ n ≤ 40) (ht : MakP s a q n t) (hu : MakM t a q n u) : Base u ∧ Keep s u := by
  obtain ⟨t1, t2, t3, t4⟩ := ht
  obtain ⟨u1, u2, u3, u4⟩ := hu
  have hfar : ∀ c, (c < 64 ∨ (68 ≤ c ∧ c < 184)) → u c = s c := fun c hc => by rw [u1 c (by omega), t1 c (by omega)]
  refine ⟨Base_sh hB hfar ?_, Keep_sh hfar⟩
  intro b hb
  obtain ⟨c1, c2, c3, c4, c5⟩ := hB.2.2.2.2.2.2 b hb
  have x65 : u 65 b = if b = a then q else s 65 b := by rw [u1 65 (by omega), t2]
  have x66 : u 66 b = if b = a then n else s 66 b := by rw [u1 66 (by omega), t3]
  have x184 : u 184 b = if b = a then q else s 184 b := by rw [u2, t1 184 (by omega)]
  have x185 : u 185 b = if b = a then n else s 185 b := by rw [u3, t1 185 (by omega)]
  have x67 : ∀ k, u 67 k = if 40 * a ≤ k ∧ k < 40 * a + 40 then 0 else s 67 k := fun k => by rw [u1 67 (by omega), t4]
  have xr : ∀ k : Nat, u (187 + b) k = if b = a ∧ k < 40 then 0 else s (187 + b) k := fun k => by rw [u4 b hb k, t1 (187 + b) (by omega)]
  rw [x65, x66, x184, x185]
  by_cases e : b = a
  · subst e
    simp only [if_true]
    refine ⟨trivial, hq, trivial, hn, fun k hk => ?_⟩
    rw [x67, xr, if_pos (by omega), if_pos (by omega)]
  · simp only [if_neg e]
    refine ⟨c1, c2, c3, c4, fun k hk => ?_⟩
    rw [x67, xr, if_neg (by omega), if_neg (by omega)]
    exact c5 k hk
theorem T_sheet {s : Sg} {a q n : Int} (hB : Base s) : w_X9_sheet s a q n (fun r1 s1 => w_X10_sheet s1 a q n (fun r2 s2 => r1 = r2 ∧ Base s2 ∧ Keep s s2)) := by
  have hbad : ∀ r : Int, (r = if ¬ (0 ≤ a ∧ a < 4) ∨ ¬ (-1 ≤ q ∧ q ≤ 1) ∨ (0 ≤ q ∧ 40 < n) then -2 else -14) → (¬ (0 ≤ a ∧ a < 4) ∨ ¬ (-1 ≤ q ∧ q ≤ 1) ∨ (0 ≤ q ∧ 40 < n) ∨ (0 ≤ q ∧ n < 0)) → w_X10_sheet s a q n (fun r2 s2 => r = r2 ∧ Base s2 ∧ Keep s s2) := by
    intro r hr hc
    have hK := Keep_rfl s
    unfold w_X10_sheet jn
    refine s_X10_isSheet fun r1 e1 => ⟨fun _ => ⟨by rw [hr, if_pos (by omega)], hB, hK⟩, fun h1 => ?_⟩
    refine s_X10_in fun r3 e3 => ⟨fun _ => ⟨by rw [hr, if_pos (by omega)], hB, hK⟩, fun h3 => ?_⟩
    refine ⟨fun h4 => by omega, fun h4 => ⟨fun h5 => ⟨fun h6 => by omega, fun h6 => ⟨fun h7 => by omega, fun h7 => ⟨by rw [hr, if_neg (by omega)], hB, hK⟩⟩⟩, fun h5 => ⟨by rw [hr, if_pos (by omega)], hB, hK⟩⟩⟩
  have hgood : ∀ t m, MakP s a.toNat q m t → (0 ≤ a ∧ a < 4) → (-1 ≤ q ∧ q ≤ 1) → (m = if q < 0 then 0 else n) → (0 ≤ q → 0 ≤ n ∧ n ≤ 40) → w_X10_sheet t a q n (fun r2 s2 => 1 = r2 ∧ Base s2 ∧ Keep s s2) := by
    intro t m ht ha hq hm hn
    have core : ∀ m', m' = m → (0 ≤ a ∧ a < 4) ∧ (∀ s_7, s_7 = up t 184 (a.toNat) q → ((0 ≤ a ∧ a < 4) ∧ (∀ s_11, s_11 = up s_7 185 (a.toNat) m' → (lp_1s (fun (again_14 : Int → Sg → Prop) (v4_12 : Int) (s_13 : Sg) => (40 ≤ v4_12 → (1 : Int) = 1 ∧ Base s_13 ∧ Keep s s_13) ∧ (¬ 40 ≤ v4_12 → (0 ≤ a ∧ a < 4) ∧ ((0 ≤ v4_12 ∧ v4_12 < 40) ∧ (∀ s_17, s_17 = up s_13 (187 + a.toNat) (v4_12.toNat) 0 → (∀ v4_18, v4_18 = w32 (v4_12 + 1) → (again_14 v4_18 s_17)))))) 0 s_11)))) := by
      intro m' hm'
      refine ⟨ha, fun s7 e7 => ⟨ha, fun s11 e11 => ?_⟩⟩
      refine lr_1s (fun j u => 0 ≤ j ∧ j ≤ 40 ∧ (∀ c, (c < 184 ∨ 191 ≤ c ∨ c = 186) → u c = t c) ∧ (∀ k, u 184 k = if k = a.toNat then q else t 184 k) ∧ (∀ k, u 185 k = if k = a.toNat then m else t 185 k) ∧ ∀ b, b < 4 → ∀ k : Nat, u (187 + b) k = if b = a.toNat ∧ (k : Int) < j then 0 else t (187 + b) k) (fun j u => (40 - j).toNat) ?_ 0 s11 ⟨by omega, by omega, fun c hc => by rw [e11, e7, up_ne _ _ _ (by omega), up_ne _ _ _ (by omega)], fun k => by rw [e11, e7]; simp [up_apply], fun k => by rw [e11, e7]; simp [up_apply, hm'], fun b hb k => by rw [e11, e7, up_ne _ _ _ (by omega), up_ne _ _ _ (by omega), if_neg (by omega)]⟩
      rintro again j u ⟨j0, j1, u1, u2, u3, u4⟩ hag
      refine ⟨fun hc => ⟨rfl, MakBoth hB (by omega) (by omega) (by rw [hm]; split <;> omega) ht ⟨u1, u2, u3, fun b hb k => by rw [u4 b hb k]; exact ifc (by omega)⟩⟩, fun hc => ⟨ha, by omega, fun s17 e17 v hv => ?_⟩⟩
      rw [w32_id (show ok32 (j + 1) from ⟨by omega, by omega⟩)] at hv
      subst hv
      refine hag _ _ ⟨by omega, by omega, fun c hc => by rw [e17, up_ne _ _ _ (by omega), u1 c hc], fun k => by rw [e17, up_ne _ _ _ (by omega), u2], fun k => by rw [e17, up_ne _ _ _ (by omega), u3], fun b hb k => ?_⟩ (by omega)
      rw [e17, up_apply, u4 b hb k]
      by_cases e : b = a.toNat ∧ k = j.toNat
      · rw [if_pos (by omega), if_pos (by omega)]
      · rw [if_neg (by omega)]
        by_cases c : b = a.toNat ∧ (k : Int) < j
        · rw [if_pos c, if_pos (by omega)]
        · rw [if_neg c, if_neg (by omega)]
    unfold w_X10_sheet jn
    refine s_X10_isSheet fun r1 e1 => ⟨fun _ => by omega, fun h1 => ?_⟩
    refine s_X10_in fun r3 e3 => ⟨fun _ => by omega, fun h3 => ?_⟩
    have hcn : (¬ q < 0 → m = n) := fun h => by rw [hm, if_neg h]
    have hc0 : (q < 0 → m = 0) := fun h => by rw [hm, if_pos h]
    have cn := core n
    have c0 := core 0
    refine ⟨fun h4 => ⟨fun h5 => ?_, fun h5 => by omega⟩, fun h4 => ⟨fun h5 => ⟨fun h6 => by omega, fun h6 => ⟨fun h7 => ?_, fun h7 => by omega⟩⟩, fun h5 => by omega⟩⟩
    · obtain ⟨x1, x2⟩ := c0 (hc0 h4).symm
      exact ⟨x1, fun s7 e7 => ⟨fun h => by omega, fun _ => x2 s7 e7⟩⟩
    · obtain ⟨x1, x2⟩ := cn (hcn h4).symm
      exact ⟨x1, fun s7 e7 => ⟨fun _ => x2 s7 e7, fun h => by omega⟩⟩
  unfold w_X9_sheet jn
  refine s_X5_isOne fun r1 e1 => ⟨fun h1 => hbad _ (by rw [if_pos (by omega)]) (by omega), fun h1 => ?_⟩
  have ha : 0 ≤ a ∧ a < 4 := by omega
  refine ⟨fun h2 => ⟨fun h => absurd h2 h, fun _ => s_X5_make ha fun t ht => hgood t 0 (by rw [h2]; exact ht) ha (by omega) (by rw [if_pos (by omega)]) (by omega)⟩, fun h2 => ?_⟩
  refine s_X5_isSort fun r6 e6 => ⟨fun h6 => ⟨fun _ => ⟨fun h7 => ⟨fun h8 => s_X5_make ha fun t ht => hgood t n ht ha (by omega) (by rw [if_neg (by omega)]) (by omega), fun h8 => hbad _ (by rw [if_neg (by omega)]) (by omega)⟩, fun h7 => hbad _ (by rw [if_pos (by omega)]) (by omega)⟩, fun h => absurd h h2⟩, fun h6 => hbad _ (by rw [if_pos (by omega)]) (by omega)⟩
theorem s_X5_set {s : Sg} {a i v : Int} {post : Sg → Prop} (ha : 0 ≤ a ∧ a < 4) (hi : 0 ≤ i ∧ i < 40) (h : post (up s 67 (40 * a.toNat + i.toNat) (if s 65 a.toNat = 0 then w8 v else v))) : w_X5_set s a i v post := by
  unfold w_X5_set jn
  rw [w32_id (show ok32 (a * 40) from ⟨by omega, by omega⟩), w32_id (show ok32 (a * 40 + i) from ⟨by omega, by omega⟩), show (a * 40 + i).toNat = 40 * a.toNat + i.toNat by omega]
  refine ⟨ha, fun h0 => ⟨by omega, fun s5 e5 => ?_⟩, fun h0 => ⟨by omega, fun s5 e5 => ?_⟩⟩
  · rw [if_neg h0] at h; rw [e5]; exact h
  · rw [if_pos h0] at h; rw [e5]; exact h
theorem T_put {s : Sg} {a i v : Int} (hB : Base s) : w_X9_put s a i v (fun r1 s1 => w_X10_put s1 a i v (fun r2 s2 => r1 = r2 ∧ Base s2 ∧ Keep s s2)) := by
  have hS := hB.2.2.2.2.2.2
  have hm : ∀ (r : Int), (r = if ¬ (0 ≤ a ∧ a < 4) then -2 else if s 65 a.toNat = -1 then -11 else -12) → (¬ (0 ≤ a ∧ a < 4) ∨ s 65 a.toNat = -1 ∨ ¬ (0 ≤ i ∧ i < s 66 a.toNat)) → w_X10_put s a i v (fun r2 s2 => r = r2 ∧ Base s2 ∧ Keep s s2) := by
    intro r hr hc
    have hK := Keep_rfl s
    unfold w_X10_put jn
    refine s_X10_isSheet fun r1 e1 => ⟨fun h1 => ?_, fun _ => ⟨by rw [hr, if_pos (by omega)], hB, hK⟩⟩
    have ha : 0 ≤ a ∧ a < 4 := by omega
    obtain ⟨c1, c2, c3, c4, c5⟩ := hS a.toNat (by omega)
    rw [← c1, ← c3]
    refine ⟨ha, fun h2 => ⟨ha, ?_⟩, fun h2 => ⟨by rw [hr, if_neg (by omega), if_pos (by omega)], hB, hK⟩⟩
    rw [w32_id (show ok32 (s 66 a.toNat - 1) from ⟨by omega, by omega⟩)]
    refine s_X10_in fun r4 e4 => ⟨fun h4 => by omega, fun h4 => ⟨by rw [hr, if_neg (by omega), if_neg (by omega)], hB, hK⟩⟩
  unfold w_X9_put jn
  refine s_X5_isOne fun r1 e1 => ⟨fun h1 => ?_, fun h1 => hm _ (by rw [if_pos (by omega)]) (by omega)⟩
  have ha : 0 ≤ a ∧ a < 4 := by omega
  refine s_X5_isMissing ha fun r2 e2 => ⟨fun h2 => ?_, fun h2 => hm _ (by rw [if_neg (by omega), if_pos (by omega)]) (by omega)⟩
  refine ⟨fun h3 => hm _ (by rw [if_neg (by omega), if_neg (by omega)]) (by omega), fun h3 => ⟨ha, fun h4 => ?_, fun h4 => hm _ (by rw [if_neg (by omega), if_neg (by omega)]) (by omega)⟩⟩
  obtain ⟨c1, c2, c3, c4, c5⟩ := hS a.toNat (by omega)
  have hi : 0 ≤ i ∧ i < 40 := by omega
  refine s_X5_set ha hi ?_
  generalize hV : (if s 65 a.toNat = 0 then w8 v else v) = V
  generalize hA : up s 67 (40 * a.toNat + i.toNat) V = A
  have hAo : ∀ c, c ≠ 67 → A c = s c := fun c h => by rw [← hA, up_ne _ _ _ h]
  have key : ∀ E, E = up A (187 + a.toNat) i.toNat V → (1 : Int) = 1 ∧ Base E ∧ Keep s E := by
    intro E hE
    have hfar : ∀ c, (c < 64 ∨ (68 ≤ c ∧ c < 184)) → E c = s c := fun c hc => by rw [hE, up_ne _ _ _ (by omega), hAo c (by omega)]
    refine ⟨rfl, Base_sh hB hfar ?_, Keep_sh hfar⟩
    intro b hb
    obtain ⟨d1, d2, d3, d4, d5⟩ := hS b hb
    have eo : ∀ c, c ≠ 67 → (c < 187 ∨ 191 ≤ c) → E c = s c := fun c h1 h2 => by rw [hE, up_ne _ _ _ (by omega), hAo c h1]
    rw [eo 65 (by omega) (by omega), eo 66 (by omega) (by omega), eo 184 (by omega) (by omega), eo 185 (by omega) (by omega)]
    refine ⟨d1, d2, d3, d4, fun k hk => ?_⟩
    have dk := d5 k hk
    rw [hE, up_ne _ _ _ (by omega), up_apply, ← hA, up_apply, up_ne _ _ _ (show 187 + b ≠ 67 by omega)]
    by_cases e : b = a.toNat ∧ k = i.toNat
    · rw [if_pos (by omega), if_pos (by omega)]
    · rw [if_neg (by omega), if_neg (by omega)]
      exact dk
  unfold w_X10_put jn
  refine s_X10_isSheet fun r1' e1' => ⟨fun _ => ⟨ha, fun _ => ⟨ha, ?_⟩, fun h => ?_⟩, fun h => by omega⟩
  · rw [hAo 185 (by omega), ← c3, w32_id (show ok32 (s 66 a.toNat - 1) from ⟨by omega, by omega⟩)]
    refine s_X10_in fun r4 e4 => ⟨fun _ => ⟨ha, ha, ?_⟩, fun h => by omega⟩
    rw [hAo 184 (by omega), ← c1]
    refine ⟨fun h0 => ⟨hi, fun s10 e10 => key s10 ?_⟩, fun h0 => ⟨hi, fun s10 e10 => key s10 ?_⟩⟩
    · rw [e10, ← hV, if_neg h0]
    · rw [e10, ← hV, if_pos h0]
  · rw [hAo 184 (by omega), ← c1] at h; omega
theorem T_copy {s : Sg} {a i b j n : Int} (hB : Base s) (on : ok32 n) : w_X9_copy s a i b j n (fun r1 s1 => w_X10_copy s1 a i b j n (fun r2 s2 => r1 = r2 ∧ Base s2 ∧ Keep s s2)) := by
  have hS := hB.2.2.2.2.2.2
  have on1 := on.1
  have on2 := on.2
  have hm : ∀ (r : Int), (r = if ¬ ((0 ≤ a ∧ a < 4) ∧ (0 ≤ b ∧ b < 4)) then -2 else if s 65 a.toNat = -1 ∨ s 65 b.toNat = -1 then -11 else if ¬ s 65 a.toNat = s 65 b.toNat then -13 else -12) → (¬ ((0 ≤ a ∧ a < 4) ∧ (0 ≤ b ∧ b < 4)) ∨ (s 65 a.toNat = -1 ∨ s 65 b.toNat = -1) ∨ ¬ s 65 a.toNat = s 65 b.toNat ∨ ¬ (0 ≤ n ∧ (0 ≤ i ∧ i ≤ s 66 a.toNat - n) ∧ (0 ≤ j ∧ j ≤ s 66 b.toNat - n))) → w_X10_copy s a i b j n (fun r2 s2 => r = r2 ∧ Base s2 ∧ Keep s s2) := by
    intro r hr hc
    have hK := Keep_rfl s
    unfold w_X10_copy jn
    refine s_X10_isSheet fun r1 e1 => ⟨fun _ => ⟨by rw [hr, if_pos (by omega)], hB, hK⟩, fun h1 => ?_⟩
    refine s_X10_isSheet fun r3 e3 => ⟨fun h3 => ?_, fun _ => ⟨by rw [hr, if_pos (by omega)], hB, hK⟩⟩
    have ha : 0 ≤ a ∧ a < 4 := by omega
    have hb : 0 ≤ b ∧ b < 4 := by omega
    obtain ⟨c1, c2, c3, c4, c5⟩ := hS a.toNat (by omega)
    obtain ⟨d1, d2, d3, d4, d5⟩ := hS b.toNat (by omega)
    rw [← c1, ← c3, ← d1, ← d3]
    rw [if_neg (by omega)] at hr
    refine ⟨ha, fun h2 => ⟨by rw [hr, if_pos (by omega)], hB, hK⟩, fun h2 => ⟨hb, fun h4 => ⟨ha, hb, fun h5 => ?_, fun h5 => ⟨by rw [hr, if_neg (by omega), if_pos h5], hB, hK⟩⟩, fun h4 => ⟨by rw [hr, if_pos (by omega)], hB, hK⟩⟩⟩
    have fin : r = -12 ∧ Base s ∧ Keep s s := ⟨by rw [hr, if_neg (by omega), if_neg (by omega)], hB, hK⟩
    refine ⟨fun _ => fin, fun h6 => ⟨fun _ => fin, fun h7 => ⟨fun _ => fin, fun h8 => ⟨ha, ?_⟩⟩⟩⟩
    rw [w32_id (show ok32 (s 66 a.toNat - n) from ⟨by omega, by omega⟩), w32_id (show ok32 (s 66 b.toNat - n) from ⟨by omega, by omega⟩)]
    exact ⟨fun _ => fin, fun h9 => ⟨hb, fun h10 => by omega, fun _ => fin⟩⟩
  unfold w_X9_copy jn
  refine s_X5_isOne fun r1 e1 => ⟨fun h1 => hm _ (by rw [if_pos (by omega)]) (by omega), fun h1 => ?_⟩
  refine s_X5_isOne fun r3 e3 => ⟨fun h3 => ?_, fun h3 => hm _ (by rw [if_pos (by omega)]) (by omega)⟩
  have ha : 0 ≤ a ∧ a < 4 := by omega
  have hb : 0 ≤ b ∧ b < 4 := by omega
  obtain ⟨c1, c2, c3, c4, c5⟩ := hS a.toNat (by omega)
  obtain ⟨d1, d2, d3, d4, d5⟩ := hS b.toNat (by omega)
  refine s_X5_isMissing ha fun r4 e4 => ⟨fun h4 => hm _ (by rw [if_neg (by omega), if_pos (by omega)]) (by omega), fun h4 => ?_⟩
  refine s_X5_isMissing hb fun r6 e6 => ⟨fun h6 => ⟨ha, hb, fun h7 => ?_, fun h7 => hm _ (by rw [if_neg (by omega), if_neg (by omega), if_pos h7]) (by omega)⟩, fun h6 => hm _ (by rw [if_neg (by omega), if_pos (by omega)]) (by omega)⟩
  have r12 : (-12 : Int) = if ¬ ((0 ≤ a ∧ a < 4) ∧ (0 ≤ b ∧ b < 4)) then -2 else if s 65 a.toNat = -1 ∨ s 65 b.toNat = -1 then -11 else if ¬ s 65 a.toNat = s 65 b.toNat then -13 else -12 := by
    rw [if_neg (by omega), if_neg (by omega), if_neg (by omega)]
  refine ⟨fun h8 => hm _ r12 (by omega), fun h8 => ?_⟩
  refine s_X5_hasRow ha c4 (by omega) fun r10 e10 => ⟨fun h10 => hm _ r12 (by omega), fun h10 => ?_⟩
  refine s_X5_hasRow hb d4 (by omega) fun r11 e11 => ⟨fun h11 => ?_, fun h11 => hm _ r12 (by omega)⟩
  rw [w32_id (show ok32 (a * 40) from ⟨by omega, by omega⟩), w32_id (show ok32 (a * 40 + i) from ⟨by omega, by omega⟩), w32_id (show ok32 (b * 40) from ⟨by omega, by omega⟩), w32_id (show ok32 (b * 40 + j) from ⟨by omega, by omega⟩)]
  refine ⟨by omega, fun A eA => ?_⟩
  have hAo : ∀ c, c ≠ 67 → A c = s c := fun c h => by rw [eA, cpy_ne _ _ _ _ _ h]
  unfold w_X10_copy jn
  refine s_X10_isSheet fun r1' e1' => ⟨fun _ => by omega, fun _ => ?_⟩
  refine s_X10_isSheet fun r3' e3' => ⟨fun _ => ?_, fun _ => by omega⟩
  rw [hAo 184 (by omega), hAo 185 (by omega), ← c1, ← c3, ← d1, ← d3]
  refine ⟨ha, fun h2 => by omega, fun h2 => ⟨hb, fun _ => ⟨ha, hb, fun _ => ?_, fun h => absurd h7 h⟩, fun h => by omega⟩⟩
  refine ⟨fun h => by omega, fun _ => ⟨fun h => by omega, fun _ => ⟨fun h => by omega, fun _ => ⟨ha, ?_⟩⟩⟩⟩
  rw [w32_id (show ok32 (s 66 a.toNat - n) from ⟨by omega, by omega⟩), w32_id (show ok32 (s 66 b.toNat - n) from ⟨by omega, by omega⟩)]
  refine ⟨fun h => by omega, fun _ => ⟨hb, fun _ => ⟨ha, by omega, fun s14 e14 => ⟨hb, by omega, fun E eE => ?_⟩⟩, fun h => by omega⟩⟩
  have hfar : ∀ c, c ≠ 67 → (c < 187 ∨ 192 ≤ c) → E c = s c := fun c h1 h2 => by rw [eE, cpy_ne _ _ _ _ _ (by omega), e14, cpy_ne _ _ _ _ _ (by omega), hAo c h1]
  refine ⟨rfl, Base_sh hB (fun c hc => hfar c (by omega) (by omega)) ?_, Keep_sh fun c hc => hfar c (by omega) (by omega)⟩
  intro t ht
  obtain ⟨f1, f2, f3, f4, f5⟩ := hS t ht
  rw [hfar 65 (by omega) (by omega), hfar 66 (by omega) (by omega), hfar 184 (by omega) (by omega), hfar 185 (by omega) (by omega)]
  refine ⟨f1, f2, f3, f4, fun k hk => ?_⟩
  rw [eE, cpy_ne _ _ _ _ _ (by omega), cpy_apply, e14, cpy_ne _ _ _ _ _ (by omega), cpy_apply, cpy_ne _ _ _ _ _ (show 187 + t ≠ 191 by omega), hAo (187 + t) (by omega), hAo (187 + a.toNat) (by omega), eA, cpy_apply]
  by_cases e : t = b.toNat ∧ j.toNat ≤ k ∧ k < j.toNat + n.toNat
  · rw [if_pos (by omega), if_pos (by omega), if_pos (by omega)]
    have := c5 (i.toNat + (k - j.toNat)) (by omega)
    rw [show (a * 40 + i).toNat + (40 * t + k - (b * 40 + j).toNat) = 40 * a.toNat + (i.toNat + (k - j.toNat)) by omega, this]
    congr 1
    simp only [Int.toNat_zero]
    omega
  · rw [if_neg (by omega), if_neg (by omega)]
    exact f5 k hk
