/-! the library's own: max, min, arraycopy -/
def LK (own : String) (idx : Nat) (y : MethodName) (code : ByteArray) (ml : Nat) (rt : FieldType) : Prop := Cond.methodLink own idx y ∈ tbG ∧ Cond.static y ∈ tbG ∧ Cond.initialized "java/lang/Math" ∈ tbG ∧ Cond.code y code ml (some rt) ∈ tbG
theorem Ev_max {mt : Mth} {d pc idx : Nat} {a b : Int} {lc : List (Nat × VV)} {st : List VV} {σ : Sg} {post : PO} (hdg : decode mt.2.1 pc = .ok (.invokestatic idx, 3)) (hk : LK mt.1.cls idx Lib.Math.max.name Lib.Math.max.code 2 .int) (hd : 1 ≤ d) (hsum : (st.map (fun v => if v.1 = 1 then 2 else 1)).sum ≤ 8)
    (k : Ev mt d (pc + 3) lc (((0, if a < b then b else a) : VV) :: st) σ post) : Ev mt d pc lc (((0, b) : VV) :: ((0, a) : VV) :: st) σ post := by
  intro p l e R s m args below meth c cells slots Q X A H0 H locs ls hC hR hW hS hl hlo hso
  obtain ⟨hx, hb, hml, hown, hts, hd1, hd2, hd3, hd4, hd5⟩ := id hC
  have h_a : ok32 a := hso (0, a) (by simp)
  have h_b : ok32 b := hso (0, b) (by simp)
  have K := k p l e R s m args below meth c cells slots Q X A H0 H locs ls hC hR hW hS hl hlo (by
    intro w hw
    rcases List.mem_cons.mp hw with rfl | hw
    · show ok32 _
      split
      · exact h_b
      · exact h_a
    · exact hso w (by simp [hw]))
  refine va_mmax hx hb (hml.trans hl.1.symm) hown (hts _ hk.1) (hts _ hk.2.1) (hts _ hk.2.2.1) (hts _ hk.2.2.2) (by omega) (by have := cat_sum (ad := X.2.1) hsum; omega) hd3 hd4 (x := i32 a) (y := i32 b) hdg ?_
  have e : (if i32 a < i32 b then i32 b else i32 a) = i32 (if a < b then b else a) := by
    by_cases h : a < b
    · rw [if_pos h, if_pos ((i32_lt h_a h_b).mpr h)]
    · rw [if_neg h, if_neg (fun q => h ((i32_lt h_a h_b).mp q))]
  rw [e]
  exact K
theorem Ev_min {mt : Mth} {d pc idx : Nat} {a b : Int} {lc : List (Nat × VV)} {st : List VV} {σ : Sg} {post : PO} (hdg : decode mt.2.1 pc = .ok (.invokestatic idx, 3)) (hk : LK mt.1.cls idx Lib.Math.min.name Lib.Math.min.code 2 .int) (hd : 1 ≤ d) (hsum : (st.map (fun v => if v.1 = 1 then 2 else 1)).sum ≤ 8)
    (k : Ev mt d (pc + 3) lc (((0, if b < a then b else a) : VV) :: st) σ post) : Ev mt d pc lc (((0, b) : VV) :: ((0, a) : VV) :: st) σ post := by
  intro p l e R s m args below meth c cells slots Q X A H0 H locs ls hC hR hW hS hl hlo hso
  obtain ⟨hx, hb, hml, hown, hts, hd1, hd2, hd3, hd4, hd5⟩ := id hC
  have h_a : ok32 a := hso (0, a) (by simp)
  have h_b : ok32 b := hso (0, b) (by simp)
  have K := k p l e R s m args below meth c cells slots Q X A H0 H locs ls hC hR hW hS hl hlo (by
    intro w hw
    rcases List.mem_cons.mp hw with rfl | hw
    · show ok32 _
      split
      · exact h_b
      · exact h_a
    · exact hso w (by simp [hw]))
  refine va_mmin hx hb (hml.trans hl.1.symm) hown (hts _ hk.1) (hts _ hk.2.1) (hts _ hk.2.2.1) (hts _ hk.2.2.2) (by omega) (by have := cat_sum (ad := X.2.1) hsum; omega) hd3 hd4 (x := i32 a) (y := i32 b) hdg ?_
  have e : (if i32 b < i32 a then i32 b else i32 a) = i32 (if b < a then b else a) := by
    by_cases h : b < a
    · rw [if_pos h, if_pos ((i32_lt h_b h_a).mpr h)]
    · rw [if_neg h, if_neg (fun q => h ((i32_lt h_b h_a).mp q))]
  rw [e]
  exact K
/-- n items of a cell, from one on, to another cell -/
def cpy (σ : Sg) (c0 : Nat) (sp : Int) (c1 : Nat) (dp n : Int) : Sg := fun c' => if c' = c1 then (fun j => if dp.toNat ≤ j ∧ j < dp.toNat + n.toNat then σ c0 (sp.toNat + (j - dp.toNat)) else σ c1 j) else σ c'
theorem Ev_copy {mt : Mth} {d pc idx : Nat} {v0 v1 sp dp n : Int} {n0 n1 : Nat} {lc : List (Nat × VV)} {st : List VV} {σ : Sg} {post : PO} (c0 c1 : Nat) (hdg : decode mt.2.1 pc = .ok (.invokestatic idx, 3)) (hk : Cond.methodLink mt.1.cls idx arraycopyName ∈ tbG ∧ Cond.native arraycopyName ∈ tbG ∧ Cond.static arraycopyName ∈ tbG ∧ Cond.initialized "java/lang/System" ∈ tbG)
    (hd : 2 ≤ d) (hsum : (st.map (fun v => if v.1 = 1 then 2 else 1)).sum ≤ 8) (hv0 : v0.toNat = c0) (hv1 : v1.toNat = c1) (hs0 : shp c0 = (1, n0)) (hs1 : shp c1 = (1, n1)) (hb : 0 ≤ sp ∧ 0 ≤ dp ∧ 0 ≤ n ∧ sp + n ≤ n0 ∧ dp + n ≤ n1)
    (k : Ev mt d (pc + 3) lc st (cpy σ c0 sp c1 dp n) post) : Ev mt d pc lc (((0, n) : VV) :: ((0, dp) : VV) :: ((2, v1) : VV) :: ((0, sp) : VV) :: ((2, v0) : VV) :: st) σ post := by
  intro p l e R s m args below meth c cells slots Q X A H0 H locs ls hC hR hW hS hl hlo hso
  obtain ⟨hx, hbb, hml, hown, hts, hd1, hd2, hd3, hd4, hd5⟩ := id hC
  subst hv0; subst hv1
  have h_n : ok32 n := hso (0, n) (by simp)
  have h_dp : ok32 dp := hso (0, dp) (by simp)
  have h_sp : ok32 sp := hso (0, sp) (by simp)
  obtain ⟨b0, b1, b2, b3, b4⟩ := hb
  have hc0 := shp_lt hs0 (by decide)
  have hc1 := shp_lt hs1 (by decide)
  have e0 := wd_at X σ hc0
  have e1 := wd_at X σ hc1
  rw [ent_int hs0] at e0
  rw [ent_int hs1] at e1
  have nz : ∀ {z : Int}, ok32 z → 0 ≤ z → ¬ i32 z < 0 := fun {z} hz h0 q => by
    rw [Int32.lt_iff_toInt_lt, i32_toInt hz] at q
    have : (0 : Int32).toInt = 0 := rfl
    omega
  have hsg : sgok (cpy σ v0.toNat sp v1.toNat dp n) := by
    intro c' k'
    unfold cpy
    by_cases e : c' = v1.toNat
    · subst e
      have ht : sty v1.toNat k' = 0 := by unfold sty; rw [hs1]; rfl
      have ht0 : ∀ j, sty v0.toNat j = 0 := fun j => by unfold sty; rw [hs0]; rfl
      rw [if_pos rfl, ht]
      split
      · have := hW.2.2.2 v0.toNat (sp.toNat + (k' - dp.toNat))
        rwa [ht0] at this
      · have := hW.2.2.2 v1.toNat k'
        rwa [ht] at this
    · rw [if_neg e]
      exact hW.2.2.2 c' k'
  refine va_copyi (D := X.1) hx hbb (hml.trans hl.1.symm) hown (hts _ hk.1) (hts _ hk.2.1) (hts _ hk.2.2.1) (hts _ hk.2.2.2) hW.2.1 hW.1 hW.2.2.1 hS v0.toNat v1.toNat 0 0 e0 e1 rfl rfl rfl (nz h_sp b0) (nz h_dp b1) (nz h_n b2) (by rw [tn32 h_sp, tn32 h_n]; omega) (by rw [tn32 h_dp, tn32 h_n]; omega) (fun i _ => rfl) (by omega) ?_ hdg (fun H1 locs1 a1 a2 a3 => ?_)
  · have h1 := cat_sum (ad := X.2.1) hsum
    have h2 : nativeFrameWords "java/lang/System" "arraycopy" 5 + 11 ≤ 100 := by decide +kernel
    omega
  · rw [tn32 h_sp, tn32 h_dp, tn32 h_n, cpyf, wd_setg X (σ' := cpy σ v0.toNat sp v1.toNat dp n) hc1 (fun c' h => by unfold cpy; rw [if_neg h]) (by rw [ent_int hs1]; unfold cpy; simp only [if_true])] at a1 a2
    exact k p l e R s m args below meth c cells slots Q X A H0 H1 locs1 ls hC hR ⟨a1, hW.2.1, a2, hsg⟩ a3 hl hlo (fun w hw => hso w (by simp [hw]))
