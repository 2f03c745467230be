/-! fields and arrays -/
theorem ent_obj {X : MX} {g : Nat → Int} {c ci : Nat} (hs : shp c = (0, ci)) : ent X g c = .inr (ci, (List.range (nfs ci)).map (fun k => cv X.2.1 (fvl g c ci k))) := by
  unfold ent; rw [hs]; rfl
theorem ent_int {X : MX} {g : Nat → Int} {c n : Nat} (hs : shp c = (1, n)) : ent X g c = .inl (X.2.2 0, n, .inl (fun j => i32 (g j))) := by
  unfold ent; rw [hs]; rfl
theorem ent_long {X : MX} {g : Nat → Int} {c n : Nat} (hs : shp c = (2, n)) : ent X g c = .inl (X.2.2 1, n, .inr (.inl (fun j => i64 (g j)))) := by
  unfold ent; rw [hs]; rfl
theorem ent_bool {X : MX} {g : Nat → Int} {c n : Nat} (hs : shp c = (3, n)) : ent X g c = .inl (X.2.2 2, n, .inl (fun j => i32 (g j))) := by
  unfold ent; rw [hs]; rfl
theorem ent_ai {X : MX} {g : Nat → Int} {c n : Nat} (hs : shp c = (4, n)) : ent X g c = .inl (X.2.2 3, n, .inr (.inr (.inr (.inr (fun j => if j < n then some (X.2.1 (rf c j)) else none))))) := by
  unfold ent; rw [hs]; rfl
theorem ent_az {X : MX} {g : Nat → Int} {c n : Nat} (hs : shp c = (5, n)) : ent X g c = .inl (X.2.2 4, n, .inr (.inr (.inr (.inr (fun j => if j < n then some (X.2.1 (rf c j)) else none))))) := by
  unfold ent; rw [hs]; rfl
theorem shp_lt {c t n : Nat} (h : shp c = (t, n)) (ht : t ≠ 9) : c < NC := by
  have h1 : c < shpL.length := by
    rcases Nat.lt_or_ge c shpL.length with h2 | h2
    · exact h2
    · unfold shp at h
      rw [List.getD_eq_getElem?_getD, List.getElem?_eq_none h2] at h
      exact absurd (congrArg Prod.fst h).symm ht
  have h3 : shpL.length = NC := by decide +kernel
  rwa [h3] at h1
theorem wd_setg (X : MX) {σ σ' : Sg} {c : Nat} {e : va_E} (h : c < NC) (hσ : ∀ c', c' ≠ c → σ' c' = σ c') (he : ent X (σ' c) c = e) : (wd X σ).set c (X.2.1 c, e) = wd X σ' := by
  apply List.ext_getElem?
  intro i
  by_cases hi : i < NC
  · rw [wd_at X _ hi, List.getElem?_set]
    by_cases e2 : c = i
    · subst e2
      rw [if_pos rfl, if_pos (by rw [wd_len]; exact h), he]
    · rw [if_neg e2, wd_at X σ hi, hσ i (fun q => e2 q.symm)]
  · rw [List.getElem?_eq_none (by rw [List.length_set, wd_len]; omega), List.getElem?_eq_none (by rw [wd_len]; omega)]
/-- a field of a class as an instruction of 'own' names it -/
def FG (own : String) (idx ci k : Nat) : Prop := ∃ (C : String) (T : u_T) (N : Nat), vwCl[ci]? = some (C, T, N) ∧ k < N ∧ (∀ w ∈ u_ws C T N, w ∈ tbG) ∧ (T k).1 = C ∧ (Cond.fieldLink own idx C (T k).2.1 (T k).2.2.1 ∈ tbG ∨ ∃ host, Cond.fieldLinkNest own idx C (T k).2.1 (T k).2.2.1 host ∈ tbG)
theorem Ev_getf {mt : Mth} {d pc : Nat} {lc : List (Nat × VV)} {st : List VV} {σ : Sg} {post : PO} {v : Int} {idx ci k : Nat} {u : VV} (c : Nat) (hdg : decode mt.2.1 pc = .ok (.getfield idx, 3)) (hF : FG mt.1.cls idx ci k) (hv : v.toNat = c) (hs : shp c = (0, ci)) (hn : k < nfs ci) (hu : fvl (σ c) c ci k = u) (kk : Ev mt d (pc + 3) lc (u :: st) σ post) : Ev mt d pc lc (((2, v) : VV) :: st) σ post := by
  intro p l e R s m args below meth c0 cells slots Q X A H0 H locs ls hC hR hW hS hl hlo hso
  obtain ⟨hx, hb, hml, hown, hts, hC2⟩ := id hC
  subst hv; subst hu
  have hc := shp_lt hs (by decide)
  obtain ⟨C, T, N, h1, h2, h3, h4, h5⟩ := hF
  have hok : okv (fvl (σ v.toNat) v.toNat ci k) := by
    have h := hW.2.2.2 v.toNat k
    unfold sty at h
    rw [hs] at h
    dsimp only at h
    unfold okt at h
    unfold fvl okv
    split at h <;> simp_all
  have K := kk p l e R s m args below meth c0 cells slots Q X A H0 H locs ls hC hR hW hS hl hlo (by
    intro w hw
    rcases List.mem_cons.mp hw with rfl | hw
    · exact hok
    · exact hso w (List.mem_cons_of_mem _ hw))
  have he := wd_at X σ hc
  rw [ent_obj hs] at he
  rcases h5 with h5 | ⟨host, h5⟩
  · exact va_get (D := X.1) (ci := ci) hx hb hts h3 hown hW.2.1 hW.1 v.toNat he h1 k h2 (hts _ h5) (fun x hx => by rw [← h4]; exact hx) (v := cv X.2.1 (fvl (σ v.toNat) v.toNat ci k)) (by rw [List.getElem?_map, List.getElem?_range hn]; rfl) hdg K
  · exact va_getN (D := X.1) (ci := ci) hx hb hts h3 hown hW.2.1 hW.1 v.toNat he h1 k h2 (hts _ h5) (fun x hx => by rw [← h4]; exact hx) (v := cv X.2.1 (fvl (σ v.toNat) v.toNat ci k)) (by rw [List.getElem?_map, List.getElem?_range hn]; rfl) hdg K
theorem Ev_geti {mt : Mth} {d pc : Nat} {lc : List (Nat × VV)} {st : List VV} {σ : Sg} {post : PO} {v : Int} {idx ci k : Nat} (c : Nat) (hdg : decode mt.2.1 pc = .ok (.getfield idx, 3)) (hF : FG mt.1.cls idx ci k ∧ fty ci k = 0 ∧ k < nfs ci) (hv : v.toNat = c) (hs : shp c = (0, ci)) (kk : Ev mt d (pc + 3) lc (((0, σ c k) : VV) :: st) σ post) : Ev mt d pc lc (((2, v) : VV) :: st) σ post :=
  Ev_getf c hdg hF.1 hv hs hF.2.2 (by unfold fvl; rw [hF.2.1]; rfl) kk
theorem Ev_getl {mt : Mth} {d pc : Nat} {lc : List (Nat × VV)} {st : List VV} {σ : Sg} {post : PO} {v : Int} {idx ci k : Nat} (c : Nat) (hdg : decode mt.2.1 pc = .ok (.getfield idx, 3)) (hF : FG mt.1.cls idx ci k ∧ fty ci k = 1 ∧ k < nfs ci) (hv : v.toNat = c) (hs : shp c = (0, ci)) (kk : Ev mt d (pc + 3) lc (((1, σ c k) : VV) :: st) σ post) : Ev mt d pc lc (((2, v) : VV) :: st) σ post :=
  Ev_getf c hdg hF.1 hv hs hF.2.2 (by unfold fvl; rw [hF.2.1]; rfl) kk
theorem Ev_getr {mt : Mth} {d pc : Nat} {lc : List (Nat × VV)} {st : List VV} {σ : Sg} {post : PO} {v : Int} {idx ci k : Nat} (c : Nat) (r : Int) (hdg : decode mt.2.1 pc = .ok (.getfield idx, 3)) (hF : FG mt.1.cls idx ci k ∧ fty ci k = 2 ∧ k < nfs ci) (hv : v.toNat = c) (hs : shp c = (0, ci)) (hr : ((rf c k : Nat) : Int) = r) (kk : Ev mt d (pc + 3) lc (((2, r) : VV) :: st) σ post) : Ev mt d pc lc (((2, v) : VV) :: st) σ post :=
  Ev_getf c hdg hF.1 hv hs hF.2.2 (by unfold fvl; rw [hF.2.1]; exact congrArg (fun z => ((2, z) : VV)) hr) kk
/-- a field that may be written: its type -/
def FP (own : String) (idx ci k : Nat) (ty : FieldType) : Prop := ∃ (C : String) (T : u_T) (N : Nat) (ty0 : Nat → FieldType), vwCl[ci]? = some (C, T, N) ∧ k < N ∧ (∀ w ∈ u_ws C T N, w ∈ tbG) ∧ (T k).1 = C ∧ (Cond.fieldLink own idx C (T k).2.1 (T k).2.2.1 ∈ tbG ∨ ∃ host, Cond.fieldLinkNest own idx C (T k).2.1 (T k).2.2.1 host ∈ tbG) ∧
  (∀ k, k < N → parseFieldDescriptor (T k).2.2.1 = some (ty0 k)) ∧ (∀ a, a < N → ∀ b, b < N → a ≠ b → (T a).2.1 ≠ (T b).2.1) ∧ (T k).2.2.2 = false ∧ parseFieldDescriptor (T k).2.2.1 = some ty
theorem fvl_up {g : Nat → Int} {c ci k j : Nat} {x : Int} (h : j ≠ k) : fvl (fun k' => if k' = k then x else g k') c ci j = fvl g c ci j := by
  unfold fvl
  simp only [if_neg h]
theorem map_set_fvl {X : MX} {g : Nat → Int} {c ci k : Nat} {x : Int} {u : VV} (hu : fvl (fun k' => if k' = k then x else g k') c ci k = u) :
    ((List.range (nfs ci)).map (fun j => cv X.2.1 (fvl g c ci j))).set k (cv X.2.1 u) = (List.range (nfs ci)).map (fun j => cv X.2.1 (fvl (fun k' => if k' = k then x else g k') c ci j)) := by
  apply List.ext_getElem?
  intro i
  rw [List.getElem?_set]
  by_cases e : k = i
  · subst e
    rw [if_pos rfl, List.getElem?_map]
    by_cases h : k < nfs ci
    · rw [if_pos (by simpa using h), List.getElem?_range h, Option.map_some, hu]
    · rw [if_neg (by simpa using h), List.getElem?_eq_none (by simpa using h)]; rfl
  · rw [if_neg e, List.getElem?_map, List.getElem?_map]
    by_cases h : i < nfs ci
    · rw [List.getElem?_range h, Option.map_some, Option.map_some, fvl_up (fun q => e q.symm)]
    · rw [List.getElem?_eq_none (by simpa using h)]; rfl
theorem Ev_putf {mt : Mth} {d pc : Nat} {lc : List (Nat × VV)} {st : List VV} {σ : Sg} {post : PO} {v x : Int} {t idx ci k : Nat} {ty : FieldType} (c : Nat) (hdg : decode mt.2.1 pc = .ok (.putfield idx, 3)) (hF : FP mt.1.cls idx ci k ty) (hv : v.toNat = c) (hs : shp c = (0, ci)) (hn : k < nfs ci) (ht : fty ci k = t) (ht2 : t = 0 ∨ t = 1)
    (hnar : ∀ ad, okv (t, x) → narrow ty (cv ad (t, x)) = cv ad (t, x)) (hfit : ∀ ad, okv (t, x) → fits ty (cv ad (t, x)) = true) (kk : Ev mt d (pc + 3) lc st (up σ c k x) post) : Ev mt d pc lc (((t, x) : VV) :: ((2, v) : VV) :: st) σ post := by
  intro p l e R s m args below meth c0 cells slots Q X A H0 H locs ls hC hR hW hS hl hlo hso
  obtain ⟨hx, hb, hml, hown, hts, hC2⟩ := id hC
  subst hv
  have hc := shp_lt hs (by decide)
  obtain ⟨C, T, N, ty0, h1, h2, h3, h4, h5, h6, h7, h8, h9⟩ := hF
  have hox : okv (t, x) := hso _ List.mem_cons_self
  have hso2 : ∀ w ∈ st, okv w := fun w hw => hso w (by simp [hw])
  have hu : fvl (fun k' => if k' = k then x else σ v.toNat k') v.toNat ci k = (t, x) := by
    unfold fvl
    rw [ht]
    rcases ht2 with rfl | rfl <;> simp
  have hsg : sgok (up σ v.toNat k x) := by
    refine sgok_up hW.2.2.2 ?_
    unfold sty
    rw [hs]
    show okt (fty ci k) x
    rw [ht]
    rcases ht2 with rfl | rfl
    · exact hox
    · exact hox
  have he := wd_at X σ hc
  rw [ent_obj hs] at he
  have hset : (wd X σ).set v.toNat (X.2.1 v.toNat, .inr (ci, ((List.range (nfs ci)).map (fun j => cv X.2.1 (fvl (σ v.toNat) v.toNat ci j))).set k (cv X.2.1 (t, x)))) = wd X (up σ v.toNat k x) := by
    refine wd_setg X hc (fun c' h => up_ne σ k x h) ?_
    rw [up_c, ent_obj hs, map_set_fvl hu]
  have K := fun (H1 : Heap) (locs1 : List Loc) (hP1 : va_P X.1 vwCl (wd X (up σ v.toNat k x)) H1) (hD1 : va_D A (wd X (up σ v.toNat k x))) (hS1 : va_S A H0 H1 locs1) => kk p l e R s m args below meth c0 cells slots Q X A H0 H1 locs1 ls hC hR ⟨hP1, hW.2.1, hD1, hsg⟩ hS1 hl hlo hso2
  rcases h5 with h5 | ⟨host, h5⟩
  · exact va_put (D := X.1) (ci := ci) (v := cv X.2.1 (t, x)) (ty := ty) hx hb hts h3 ty0 h6 h7 hown hW.2.1 hW.1 hW.2.2.1 hS v.toNat he h1 k h2 (hts _ h5) (fun x hx => by rw [← h4]; exact hx) h8 h9 (hnar _ hox) (hfit _ hox) (by simpa using hn) hdg (fun H1 locs1 a1 a2 a3 => K H1 locs1 (hset ▸ a1) (hset ▸ a2) a3)
  · exact va_putN (D := X.1) (ci := ci) (v := cv X.2.1 (t, x)) (ty := ty) hx hb hts h3 ty0 h6 h7 hown hW.2.1 hW.1 hW.2.2.1 hS v.toNat he h1 k h2 (hts _ h5) (fun x hx => by rw [← h4]; exact hx) h8 h9 (hnar _ hox) (hfit _ hox) (by simpa using hn) hdg (fun H1 locs1 a1 a2 a3 => K H1 locs1 (hset ▸ a1) (hset ▸ a2) a3)
theorem Ev_puti {mt : Mth} {d pc : Nat} {lc : List (Nat × VV)} {st : List VV} {σ : Sg} {post : PO} {v x : Int} {idx ci k : Nat} (c : Nat) (hdg : decode mt.2.1 pc = .ok (.putfield idx, 3)) (hF : FP mt.1.cls idx ci k .int ∧ fty ci k = 0 ∧ k < nfs ci) (hv : v.toNat = c) (hs : shp c = (0, ci)) (kk : Ev mt d (pc + 3) lc st (up σ c k x) post) : Ev mt d pc lc (((0, x) : VV) :: ((2, v) : VV) :: st) σ post :=
  Ev_putf c hdg hF.1 hv hs hF.2.2 hF.2.1 (Or.inl rfl) (fun _ _ => rfl) (fun _ _ => rfl) kk
theorem Ev_putl {mt : Mth} {d pc : Nat} {lc : List (Nat × VV)} {st : List VV} {σ : Sg} {post : PO} {v x : Int} {idx ci k : Nat} (c : Nat) (hdg : decode mt.2.1 pc = .ok (.putfield idx, 3)) (hF : FP mt.1.cls idx ci k .long ∧ fty ci k = 1 ∧ k < nfs ci) (hv : v.toNat = c) (hs : shp c = (0, ci)) (kk : Ev mt d (pc + 3) lc st (up σ c k x) post) : Ev mt d pc lc (((1, x) : VV) :: ((2, v) : VV) :: st) σ post :=
  Ev_putf c hdg hF.1 hv hs hF.2.2 hF.2.1 (Or.inr rfl) (fun _ _ => rfl) (fun _ _ => rfl) kk
theorem Ev_putz {mt : Mth} {d pc : Nat} {lc : List (Nat × VV)} {st : List VV} {σ : Sg} {post : PO} {v x : Int} {idx ci k : Nat} (c : Nat) (hdg : decode mt.2.1 pc = .ok (.putfield idx, 3)) (hF : FP mt.1.cls idx ci k .boolean ∧ fty ci k = 0 ∧ k < nfs ci) (hx : x = 0 ∨ x = 1) (hv : v.toNat = c) (hs : shp c = (0, ci)) (kk : Ev mt d (pc + 3) lc st (up σ c k x) post) : Ev mt d pc lc (((0, x) : VV) :: ((2, v) : VV) :: st) σ post :=
  Ev_putf c hdg hF.1 hv hs hF.2.2 hF.2.1 (Or.inl rfl) (fun _ _ => by rcases hx with rfl | rfl <;> rfl) (fun _ _ => by rcases hx with rfl | rfl <;> rfl) kk
/-! arrays -/
theorem tn32 {i : Int} (h : ok32 i) : (i32 i).toNatClampNeg = i.toNat := by
  show (i32 i).toInt.toNat = i.toNat
  rw [i32_toInt h]
theorem in32 {i : Int} {n : Nat} (h : ok32 i) (h0 : 0 ≤ i) (h1 : i < n) : vp_in (i32 i) n := by
  unfold vp_in
  rw [tn32 h]
  rintro (q | q)
  · rw [Int32.lt_iff_toInt_lt, i32_toInt h] at q
    have : (0 : Int32).toInt = 0 := rfl
    omega
  · omega
theorem cpyf {α : Type} (f g : Nat → Int) (T : Int → α) (sp dp n : Nat) : va_cpy (fun j => T (f j)) (fun j => T (g j)) sp dp n = fun j => T (if dp ≤ j ∧ j < dp + n then f (sp + (j - dp)) else g j) := by
  funext j
  unfold va_cpy
  split <;> rfl
theorem updf (g : Nat → Int) (k : Nat) (x : Int) : upd (fun j => i32 (g j)) k (i32 x) = fun j => i32 (if j = k then x else g j) := by
  funext j
  unfold upd
  split <;> rfl
theorem updfL (g : Nat → Int) (k : Nat) (x : Int) : vp_updL (fun j => i64 (g j)) k (i64 x) = fun j => i64 (if j = k then x else g j) := by
  funext j
  unfold vp_updL
  split <;> rfl
theorem Ev_iald {mt : Mth} {d pc : Nat} {lc : List (Nat × VV)} {st : List VV} {σ : Sg} {post : PO} {v i : Int} {n : Nat} (c : Nat) (hdg : decode mt.2.1 pc = .ok (.iaload, 1)) (hv : v.toNat = c) (hs : shp c = (1, n)) (h0 : 0 ≤ i ∧ i < n) (kk : Ev mt d (pc + 1) lc (((0, σ c i.toNat) : VV) :: st) σ post) : Ev mt d pc lc (((0, i) : VV) :: ((2, v) : VV) :: st) σ post := by
  intro p l e R s m args below meth c0 cells slots Q X A H0 H locs ls hC hR hW hS hl hlo hso
  obtain ⟨hx, hb, hml, hown, hts, hC2⟩ := id hC
  subst hv
  have hc := shp_lt hs (by decide)
  have hi : ok32 i := hso (0, i) (by simp)
  have hok : ok32 (σ v.toNat i.toNat) := by
    have h := hW.2.2.2 v.toNat i.toNat
    unfold sty at h
    rw [hs] at h
    exact h
  have K := kk p l e R s m args below meth c0 cells slots Q X A H0 H locs ls hC hR hW hS hl hlo (by
    intro w hw
    rcases List.mem_cons.mp hw with rfl | hw
    · exact hok
    · exact hso w (by simp [hw]))
  have he := wd_at X σ hc
  rw [ent_int hs] at he
  refine va_iald (D := X.1) hx hb hW.2.1 hW.1 v.toNat 0 he rfl (in32 hi h0.1 h0.2) hdg ?_
  rw [tn32 hi]
  exact K
theorem Ev_lald {mt : Mth} {d pc : Nat} {lc : List (Nat × VV)} {st : List VV} {σ : Sg} {post : PO} {v i : Int} {n : Nat} (c : Nat) (hdg : decode mt.2.1 pc = .ok (.laload, 1)) (hv : v.toNat = c) (hs : shp c = (2, n)) (h0 : 0 ≤ i ∧ i < n) (kk : Ev mt d (pc + 1) lc (((1, σ c i.toNat) : VV) :: st) σ post) : Ev mt d pc lc (((0, i) : VV) :: ((2, v) : VV) :: st) σ post := by
  intro p l e R s m args below meth c0 cells slots Q X A H0 H locs ls hC hR hW hS hl hlo hso
  obtain ⟨hx, hb, hml, hown, hts, hC2⟩ := id hC
  subst hv
  have hc := shp_lt hs (by decide)
  have hi : ok32 i := hso (0, i) (by simp)
  have hok : ok64 (σ v.toNat i.toNat) := by
    have h := hW.2.2.2 v.toNat i.toNat
    unfold sty at h
    rw [hs] at h
    exact h
  have K := kk p l e R s m args below meth c0 cells slots Q X A H0 H locs ls hC hR hW hS hl hlo (by
    intro w hw
    rcases List.mem_cons.mp hw with rfl | hw
    · exact hok
    · exact hso w (by simp [hw]))
  have he := wd_at X σ hc
  rw [ent_long hs] at he
  refine va_lald (D := X.1) hx hb hW.2.1 hW.1 v.toNat 1 he rfl (in32 hi h0.1 h0.2) hdg ?_
  rw [tn32 hi]
  exact K
theorem Ev_zald {mt : Mth} {d pc : Nat} {lc : List (Nat × VV)} {st : List VV} {σ : Sg} {post : PO} {v i : Int} {n : Nat} (c : Nat) (hdg : decode mt.2.1 pc = .ok (.baload, 1)) (hv : v.toNat = c) (hs : shp c = (3, n)) (h0 : 0 ≤ i ∧ i < n) (kk : Ev mt d (pc + 1) lc (((0, σ c i.toNat) : VV) :: st) σ post) : Ev mt d pc lc (((0, i) : VV) :: ((2, v) : VV) :: st) σ post := by
  intro p l e R s m args below meth c0 cells slots Q X A H0 H locs ls hC hR hW hS hl hlo hso
  obtain ⟨hx, hb, hml, hown, hts, hC2⟩ := id hC
  subst hv
  have hc := shp_lt hs (by decide)
  have hi : ok32 i := hso (0, i) (by simp)
  have hok : ok32 (σ v.toNat i.toNat) := by
    have h := hW.2.2.2 v.toNat i.toNat
    unfold sty at h
    rw [hs] at h
    exact h
  have K := kk p l e R s m args below meth c0 cells slots Q X A H0 H locs ls hC hR hW hS hl hlo (by
    intro w hw
    rcases List.mem_cons.mp hw with rfl | hw
    · exact hok
    · exact hso w (by simp [hw]))
  have he := wd_at X σ hc
  rw [ent_bool hs] at he
  refine va_zald (D := X.1) hx hb hW.2.1 hW.1 v.toNat 2 he rfl (in32 hi h0.1 h0.2) hdg ?_
  rw [tn32 hi]
  exact K
theorem Ev_iast {mt : Mth} {d pc : Nat} {lc : List (Nat × VV)} {st : List VV} {σ : Sg} {post : PO} {v i x : Int} {n : Nat} (c : Nat) (hdg : decode mt.2.1 pc = .ok (.iastore, 1)) (hv : v.toNat = c) (hs : shp c = (1, n)) (h0 : 0 ≤ i ∧ i < n) (kk : Ev mt d (pc + 1) lc st (up σ c i.toNat x) post) : Ev mt d pc lc (((0, x) : VV) :: ((0, i) : VV) :: ((2, v) : VV) :: st) σ post := by
  intro p l e R s m args below meth c0 cells slots Q X A H0 H locs ls hC hR hW hS hl hlo hso
  obtain ⟨hx, hb, hml, hown, hts, hC2⟩ := id hC
  subst hv
  have hc := shp_lt hs (by decide)
  have hox : ok32 x := hso (0, x) (by simp)
  have hi : ok32 i := hso (0, i) (by simp)
  have hsg : sgok (up σ v.toNat i.toNat x) := by
    refine sgok_up hW.2.2.2 ?_
    unfold sty
    rw [hs]
    exact hox
  have he := wd_at X σ hc
  rw [ent_int hs] at he
  refine va_iast (D := X.1) hx hb hW.2.1 hW.1 hW.2.2.1 hS v.toNat 0 he rfl (in32 hi h0.1 h0.2) hdg (fun H1 locs1 a1 a2 a3 => ?_)
  rw [tn32 hi, updf, wd_setg X (σ' := up σ v.toNat i.toNat x) hc (fun c' h => up_ne σ i.toNat x h) (by rw [up_c, ent_int hs])] at a1 a2
  exact kk p l e R s m args below meth c0 cells slots Q X A H0 H1 locs1 ls hC hR ⟨a1, hW.2.1, a2, hsg⟩ a3 hl hlo (fun w hw => hso w (by simp [hw]))
theorem Ev_last {mt : Mth} {d pc : Nat} {lc : List (Nat × VV)} {st : List VV} {σ : Sg} {post : PO} {v i x : Int} {n : Nat} (c : Nat) (hdg : decode mt.2.1 pc = .ok (.lastore, 1)) (hv : v.toNat = c) (hs : shp c = (2, n)) (h0 : 0 ≤ i ∧ i < n) (kk : Ev mt d (pc + 1) lc st (up σ c i.toNat x) post) : Ev mt d pc lc (((1, x) : VV) :: ((0, i) : VV) :: ((2, v) : VV) :: st) σ post := by
  intro p l e R s m args below meth c0 cells slots Q X A H0 H locs ls hC hR hW hS hl hlo hso
  obtain ⟨hx, hb, hml, hown, hts, hC2⟩ := id hC
  subst hv
  have hc := shp_lt hs (by decide)
  have hox : ok64 x := hso (1, x) (by simp)
  have hi : ok32 i := hso (0, i) (by simp)
  have hsg : sgok (up σ v.toNat i.toNat x) := by
    refine sgok_up hW.2.2.2 ?_
    unfold sty
    rw [hs]
    exact hox
  have he := wd_at X σ hc
  rw [ent_long hs] at he
  refine va_last (D := X.1) hx hb hW.2.1 hW.1 hW.2.2.1 hS v.toNat 1 he rfl (in32 hi h0.1 h0.2) hdg (fun H1 locs1 a1 a2 a3 => ?_)
  rw [tn32 hi, updfL, wd_setg X (σ' := up σ v.toNat i.toNat x) hc (fun c' h => up_ne σ i.toNat x h) (by rw [up_c, ent_long hs])] at a1 a2
  exact kk p l e R s m args below meth c0 cells slots Q X A H0 H1 locs1 ls hC hR ⟨a1, hW.2.1, a2, hsg⟩ a3 hl hlo (fun w hw => hso w (by simp [hw]))
theorem Ev_zast {mt : Mth} {d pc : Nat} {lc : List (Nat × VV)} {st : List VV} {σ : Sg} {post : PO} {v i x : Int} {n : Nat} (c : Nat) (hdg : decode mt.2.1 pc = .ok (.bastore, 1)) (hv : v.toNat = c) (hs : shp c = (3, n)) (h0 : 0 ≤ i ∧ i < n) (hz : x = 0 ∨ x = 1) (kk : Ev mt d (pc + 1) lc st (up σ c i.toNat x) post) : Ev mt d pc lc (((0, x) : VV) :: ((0, i) : VV) :: ((2, v) : VV) :: st) σ post := by
  intro p l e R s m args below meth c0 cells slots Q X A H0 H locs ls hC hR hW hS hl hlo hso
  obtain ⟨hx, hb, hml, hown, hts, hC2⟩ := id hC
  subst hv
  have hc := shp_lt hs (by decide)
  have hox : ok32 x := hso (0, x) (by simp)
  have hi : ok32 i := hso (0, i) (by simp)
  have hsg : sgok (up σ v.toNat i.toNat x) := by
    refine sgok_up hW.2.2.2 ?_
    unfold sty
    rw [hs]
    exact hox
  have he := wd_at X σ hc
  rw [ent_bool hs] at he
  refine va_zast (D := X.1) hx hb hW.2.1 hW.1 hW.2.2.1 hS v.toNat 2 he rfl (in32 hi h0.1 h0.2) hdg (fun H1 locs1 a1 a2 a3 => ?_)
  rw [tn32 hi, show vp_nar .boolean (i32 x) = i32 x by (rcases hz with rfl | rfl <;> rfl), updf, wd_setg X (σ' := up σ v.toNat i.toNat x) hc (fun c' h => up_ne σ i.toNat x h) (by rw [up_c, ent_bool hs])] at a1 a2
  exact kk p l e R s m args below meth c0 cells slots Q X A H0 H1 locs1 ls hC hR ⟨a1, hW.2.1, a2, hsg⟩ a3 hl hlo (fun w hw => hso w (by simp [hw]))
theorem Ev_aaldi {mt : Mth} {d pc : Nat} {lc : List (Nat × VV)} {st : List VV} {σ : Sg} {post : PO} {v i : Int} {n : Nat} (c : Nat) (r : Int) (hdg : decode mt.2.1 pc = .ok (.aaload, 1)) (hv : v.toNat = c) (hs : shp c = (4, n)) (h0 : 0 ≤ i ∧ i < n) (hr : r.toNat = rf c i.toNat) (kk : Ev mt d (pc + 1) lc (((2, r) : VV) :: st) σ post) : Ev mt d pc lc (((0, i) : VV) :: ((2, v) : VV) :: st) σ post := by
  intro p l e R s m args below meth c0 cells slots Q X A H0 H locs ls hC hR hW hS hl hlo hso
  obtain ⟨hx, hb, hml, hown, hts, hC2⟩ := id hC
  subst hv
  have hc := shp_lt hs (by decide)
  have hi : ok32 i := hso (0, i) (by simp)
  have K := kk p l e R s m args below meth c0 cells slots Q X A H0 H locs ls hC hR hW hS hl hlo (by
    intro w hw
    rcases List.mem_cons.mp hw with rfl | hw
    · exact trivial
    · exact hso w (by simp [hw]))
  have he := wd_at X σ hc
  rw [ent_ai hs] at he
  have hlt : i.toNat < n := by omega
  have hv2 : cv X.2.1 (2, r) = va_rf (if i.toNat < n then some (X.2.1 (rf v.toNat i.toNat)) else none) := by
    rw [if_pos hlt]
    show Value.ref (X.2.1 r.toNat) = _
    rw [hr]; rfl
  refine W.aald (v := cv X.2.1 (2, r)) (ty := .array .int) hx hb (hW.1 v.toNat _ he) ((hW.2.1.2 3 _ rfl).1 n (fun j => va_rf (if j < n then some (X.2.1 (rf v.toNat j)) else none))) rfl (fun q => by cases q) ?_ ?_ rfl rfl hdg K
  · show ¬ (i32 i < 0 ∨ (arrV _ _ _).slots.size ≤ _)
    rw [arrV_size]
    exact in32 hi h0.1 h0.2
  · show (arrV _ _ _).slots[_]? = _
    rw [tn32 hi, arrV_read _ _ hlt, hv2]
theorem Ev_aaldz {mt : Mth} {d pc : Nat} {lc : List (Nat × VV)} {st : List VV} {σ : Sg} {post : PO} {v i : Int} {n : Nat} (c : Nat) (r : Int) (hdg : decode mt.2.1 pc = .ok (.aaload, 1)) (hv : v.toNat = c) (hs : shp c = (5, n)) (h0 : 0 ≤ i ∧ i < n) (hr : r.toNat = rf c i.toNat) (kk : Ev mt d (pc + 1) lc (((2, r) : VV) :: st) σ post) : Ev mt d pc lc (((0, i) : VV) :: ((2, v) : VV) :: st) σ post := by
  intro p l e R s m args below meth c0 cells slots Q X A H0 H locs ls hC hR hW hS hl hlo hso
  obtain ⟨hx, hb, hml, hown, hts, hC2⟩ := id hC
  subst hv
  have hc := shp_lt hs (by decide)
  have hi : ok32 i := hso (0, i) (by simp)
  have K := kk p l e R s m args below meth c0 cells slots Q X A H0 H locs ls hC hR hW hS hl hlo (by
    intro w hw
    rcases List.mem_cons.mp hw with rfl | hw
    · exact trivial
    · exact hso w (by simp [hw]))
  have he := wd_at X σ hc
  rw [ent_az hs] at he
  have hlt : i.toNat < n := by omega
  have hv2 : cv X.2.1 (2, r) = va_rf (if i.toNat < n then some (X.2.1 (rf v.toNat i.toNat)) else none) := by
    rw [if_pos hlt]
    show Value.ref (X.2.1 r.toNat) = _
    rw [hr]; rfl
  refine W.aald (v := cv X.2.1 (2, r)) (ty := .array .boolean) hx hb (hW.1 v.toNat _ he) ((hW.2.1.2 4 _ rfl).1 n (fun j => va_rf (if j < n then some (X.2.1 (rf v.toNat j)) else none))) rfl (fun q => by cases q) ?_ ?_ rfl rfl hdg K
  · show ¬ (i32 i < 0 ∨ (arrV _ _ _).slots.size ≤ _)
    rw [arrV_size]
    exact in32 hi h0.1 h0.2
  · show (arrV _ _ _).slots[_]? = _
    rw [tn32 hi, arrV_read _ _ hlt, hv2]
