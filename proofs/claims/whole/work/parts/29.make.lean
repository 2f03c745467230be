/-! making: the heap of the two objects as it grows: cells come in the order of their numbers -/
def entP (X : MX) (nul : Nat → Bool) (g : Nat → Int) (c : Nat) : va_E := match (shp c).1 with
  | 0 => .inr ((shp c).2, (List.range (nfs (shp c).2)).map (fun k => if fty (shp c).2 k = 2 ∧ nul k = true then .null else cv X.2.1 (fvl g c (shp c).2 k)))
  | _ => ent X g c
def wdP (X : MX) (nul : Nat → Nat → Bool) (σ : Sg) (n : Nat) : va_W := (List.range n).map (fun c => (X.2.1 c, entP X (nul c) (σ c) c))
theorem entP_obj {X : MX} {nul : Nat → Bool} {g : Nat → Int} {c ci : Nat} (hs : shp c = (0, ci)) : entP X nul g c = .inr (ci, (List.range (nfs ci)).map (fun k => if fty ci k = 2 ∧ nul k = true then .null else cv X.2.1 (fvl g c ci k))) := by
  unfold entP; rw [hs]; rfl
theorem entP_arr {X : MX} {nul : Nat → Bool} {g : Nat → Int} {c t n : Nat} (hs : shp c = (t + 1, n)) : entP X nul g c = ent X g c := by
  unfold entP; rw [hs]; rfl
theorem wdP_at (X : MX) (nul : Nat → Nat → Bool) (σ : Sg) {n c : Nat} (h : c < n) : (wdP X nul σ n)[c]? = some (X.2.1 c, entP X (nul c) (σ c) c) := by
  simp [wdP, List.getElem?_map, List.getElem?_range h]
theorem wdP_len (X : MX) (nul : Nat → Nat → Bool) (σ : Sg) (n : Nat) : (wdP X nul σ n).length = n := by simp [wdP]
theorem wdP_succ (X : MX) (nul : Nat → Nat → Bool) (σ : Sg) (n : Nat) : wdP X nul σ n ++ [(X.2.1 n, entP X (nul n) (σ n) n)] = wdP X nul σ (n + 1) := by
  simp [wdP, List.range_succ]
theorem wdP_set (X : MX) {nul nul' : Nat → Nat → Bool} {σ σ' : Sg} {n c : Nat} {e : va_E} (h : c < n) (hσ : ∀ c', c' ≠ c → σ' c' = σ c') (hn : ∀ c', c' ≠ c → nul' c' = nul c') (he : entP X (nul' c) (σ' c) c = e) : (wdP X nul σ n).set c (X.2.1 c, e) = wdP X nul' σ' n := by
  apply List.ext_getElem?
  intro i
  by_cases hi : i < n
  · rw [wdP_at X _ _ hi, List.getElem?_set]
    by_cases e2 : c = i
    · subst e2
      rw [if_pos rfl, if_pos (by rw [wdP_len]; exact h), he]
    · rw [if_neg e2, wdP_at X nul σ hi, hσ i (fun q => e2 q.symm), hn i (fun q => e2 q.symm)]
  · rw [List.getElem?_eq_none (by rw [List.length_set, wdP_len]; omega), List.getElem?_eq_none (by rw [wdP_len]; omega)]
theorem wdP_full (X : MX) {nul : Nat → Nat → Bool} (σ : Sg) (h : ∀ c k, nul c k = false) : wdP X nul σ NC = wd X σ := by
  unfold wdP wd
  refine List.map_congr_left (fun c _ => ?_)
  have : entP X (nul c) (σ c) c = ent X (σ c) c := by
    unfold entP ent
    split
    · rename_i e
      rw [e]
      simp [h]
    · rfl
  rw [this]
/-- the arrays of arrays that the tables speak of -/
def AOm (U : State) : Prop := (Cond.arrayOver (.array .int)).before #[] U = true ∧ (Cond.arrayOver (.array .boolean)).before #[] U = true
/-- the world while it is made: n cells stand, from the address B on -/
def PW (X : MX) (B n : Nat) (nul : Nat → Nat → Bool) (σ : Sg) (U : State) (H : Heap) : Prop := va_P X.1 vwCl (wdP X nul σ n) H ∧ va_K X.1 vwCl (tyA X) U ∧ H.size = B + n ∧ (∀ c, c < NC → X.2.1 c = B + c) ∧ n ≤ NC
theorem wdP_D {X : MX} {B n : Nat} (nul : Nat → Nat → Bool) (σ : Sg) (hX : ∀ c, c < NC → X.2.1 c = B + c) (hn : n ≤ NC) : va_D (fun q => B ≤ q) (wdP X nul σ n) := by
  have hp : ∀ (i : Nat) (p : Nat × va_E), (wdP X nul σ n)[i]? = some p → i < n ∧ p.1 = B + i := by
    intro i p hi
    have hlt : i < n := by
      have := (List.getElem?_eq_some_iff.mp hi).1
      rwa [wdP_len] at this
    rw [wdP_at X nul σ hlt] at hi
    exact ⟨hlt, by rw [← Option.some.inj hi]; exact hX i (by omega)⟩
  refine ⟨fun i j p q hi hj hpq => ?_, fun k q hk => ?_⟩
  · have h1 := (hp i p hi).2
    have h2 := (hp j q hj).2
    omega
  · have h1 := (hp k q hk).2
    show B ≤ q.1
    omega
/-- places that the first n cells take -/
def slc : Nat → Nat
  | 0 => 0
  | n + 1 => slc n + (if (shp n).1 = 0 then nfs (shp n).2 else (shp n).2)
def CtxC (p : Program) (R : Room) (s : State) (m : MethodId) (args : Array Value) (meth : Method) (c : Code) (B : Nat) (mt : Mth) (d n0 n1 : Nat) : Prop :=
  p.tables.exec = Jvm.exec ∧ c.code = mt.2.1 ∧ c.maxLocals = mt.2.2.1 ∧ s.vm.findClass mt.1.cls = some m.cls ∧ (∀ w ∈ tbG, w.before args s = true) ∧ d ≤ R.frames ∧ 64 * d ≤ R.locals ∧ n1 - n0 ≤ R.cells ∧ slc n1 - slc n0 ≤ R.slots ∧ (mt.1.name = "<init>" → meth.name = "<init>") ∧ AOm s ∧ s.heap.size = B + n0 ∧ n0 ≤ n1
abbrev PX : Type := Nat → (Nat → Nat → Bool) → Sg → Prop
/-- where a stretch of making ends: place, locals, stack, cells, what is null, numbers -/
abbrev PC : Type := Nat → List (Nat × VV) → List VV → Nat → (Nat → Nat → Bool) → Sg → Prop
def RetC (p : Program) (l : Launch) (e : Env) (R : Room) (s : State) (m : MethodId) (args : Array Value) (below : List Frame) (meth : Method) (c : Code) (Q : State → Prop) (X : MX) (B : Nat) (H0 : Heap) (mt : Mth) (n0 n1 : Nat) (post : PC) : Prop :=
  ∀ (nul : Nat → Nat → Bool) (σ : Sg) (H : Heap) (locs : List Loc) (pc : Nat) (ls : Array Slot) (lc : List (Nat × VV)) (st : List VV), post pc lc st n1 nul σ → PW X B n1 nul σ s H → va_S (fun q => B ≤ q) H0 H locs → lv_has ls mt.2.2.1 (lc.map (fun q => (q.1, cv X.2.1 q.2))) → (∀ q ∈ lc, okv q.2) → (∀ v ∈ st, okv v) →
    W p l e R s m args below meth c H locs (n1 - n0) (slc n1 - slc n0) Q (F0 m pc ls (st.map (cv X.2.1)))
def Cv (mt : Mth) (d n0 n1 pc : Nat) (lc : List (Nat × VV)) (st : List VV) (n : Nat) (nul : Nat → Nat → Bool) (σ : Sg) (post : PC) : Prop :=
  ∀ (p : Program) (l : Launch) (e : Env) (R : Room) (s : State) (m : MethodId) (args : Array Value) (below : List Frame) (meth : Method) (c : Code) (Q : State → Prop) (X : MX) (B : Nat) (H0 H : Heap) (locs : List Loc) (ls : Array Slot),
    CtxC p R s m args meth c B mt d n0 n1 → B ≤ H0.size → RetC p l e R s m args below meth c Q X B H0 mt n0 n1 post → PW X B n nul σ s H → va_S (fun q => B ≤ q) H0 H locs → lv_has ls mt.2.2.1 (lc.map (fun q => (q.1, cv X.2.1 q.2))) → (∀ q ∈ lc, okv q.2) → (∀ v ∈ st, okv v) → n0 ≤ n → n ≤ n1 →
    W p l e R s m args below meth c H locs (n - n0) (slc n - slc n0) Q (F0 m pc ls (st.map (cv X.2.1)))
theorem slc_mono {a b : Nat} (h : a ≤ b) : slc a ≤ slc b := by
  induction h with
  | refl => exact Nat.le_refl _
  | step _ ih => exact Nat.le_trans ih (Nat.le_add_right _ _)
theorem Cv_iconst {mt : Mth} {d n0 n1 pc n : Nat} {lc : List (Nat × VV)} {st : List VV} {nul : Nat → Nat → Bool} {σ : Sg} {post : PC} {i v : Int} (hdg : decode mt.2.1 pc = .ok (.iconst i, 1)) (hv : i = v) (ho : ok32 v) (k : Cv mt d n0 n1 (pc + 1) lc (((0, v) : VV) :: st) n nul σ post) : Cv mt d n0 n1 pc lc st n nul σ post := by
  intro p l e R s m args below meth c Q X B H0 H locs ls hC hB hR hW hS hl hlo hso hn0 hn1
  obtain ⟨hx, hb, hml, hown, hts, hC2⟩ := id hC
  have K := fun hv => k p l e R s m args below meth c Q X B H0 H locs ls hC hB hR hW hS hl hlo (by
    intro w hw
    rcases List.mem_cons.mp hw with rfl | hw
    · exact hv
    · exact hso w hw) hn0 hn1
  subst hv
  exact lv_iconst hx hb hdg rfl (K ho)
theorem Cv_bipush {mt : Mth} {d n0 n1 pc n : Nat} {lc : List (Nat × VV)} {st : List VV} {nul : Nat → Nat → Bool} {σ : Sg} {post : PC} {i v : Int} (hdg : decode mt.2.1 pc = .ok (.bipush i, 2)) (hv : (Int8.ofInt i).toInt32.toInt = v) (k : Cv mt d n0 n1 (pc + 2) lc (((0, v) : VV) :: st) n nul σ post) : Cv mt d n0 n1 pc lc st n nul σ post := by
  intro p l e R s m args below meth c Q X B H0 H locs ls hC hB hR hW hS hl hlo hso hn0 hn1
  obtain ⟨hx, hb, hml, hown, hts, hC2⟩ := id hC
  have K := fun hv => k p l e R s m args below meth c Q X B H0 H locs ls hC hB hR hW hS hl hlo (by
    intro w hw
    rcases List.mem_cons.mp hw with rfl | hw
    · exact hv
    · exact hso w hw) hn0 hn1
  subst hv
  exact lv_bipush hx hb hdg (Int32.ofInt_toInt _).symm (K (ok32_of _))
theorem Cv_sipush {mt : Mth} {d n0 n1 pc n : Nat} {lc : List (Nat × VV)} {st : List VV} {nul : Nat → Nat → Bool} {σ : Sg} {post : PC} {i v : Int} (hdg : decode mt.2.1 pc = .ok (.sipush i, 3)) (hv : (Int16.ofInt i).toInt32.toInt = v) (k : Cv mt d n0 n1 (pc + 3) lc (((0, v) : VV) :: st) n nul σ post) : Cv mt d n0 n1 pc lc st n nul σ post := by
  intro p l e R s m args below meth c Q X B H0 H locs ls hC hB hR hW hS hl hlo hso hn0 hn1
  obtain ⟨hx, hb, hml, hown, hts, hC2⟩ := id hC
  have K := fun hv => k p l e R s m args below meth c Q X B H0 H locs ls hC hB hR hW hS hl hlo (by
    intro w hw
    rcases List.mem_cons.mp hw with rfl | hw
    · exact hv
    · exact hso w hw) hn0 hn1
  subst hv
  exact lv_sipush hx hb hdg (Int32.ofInt_toInt _).symm (K (ok32_of _))
theorem Cv_iload_n {mt : Mth} {d n0 n1 pc n : Nat} {lc : List (Nat × VV)} {st : List VV} {nul : Nat → Nat → Bool} {σ : Sg} {post : PC} {i : Fin 4} {v : Int} (hdg : decode mt.2.1 pc = .ok (.iload_n i, 1)) (q : Nat) (hq : lc[q]? = some ((i : Nat), ((0, v) : VV))) (k : Cv mt d n0 n1 (pc + 1) lc (((0, v) : VV) :: st) n nul σ post) : Cv mt d n0 n1 pc lc st n nul σ post := by
  intro p l e R s m args below meth c Q X B H0 H locs ls hC hB hR hW hS hl hlo hso hn0 hn1
  obtain ⟨hx, hb, hml, hown, hts, hC2⟩ := id hC
  have K := fun hv => k p l e R s m args below meth c Q X B H0 H locs ls hC hB hR hW hS hl hlo (by
    intro w hw
    rcases List.mem_cons.mp hw with rfl | hw
    · exact hv
    · exact hso w hw) hn0 hn1
  exact lv_iload_n hx hb hdg rfl (lv_at hl q (by rw [List.getElem?_map, hq]; rfl)) (K (hlo _ (List.mem_of_getElem? hq)))
theorem Cv_aload_n {mt : Mth} {d n0 n1 pc n : Nat} {lc : List (Nat × VV)} {st : List VV} {nul : Nat → Nat → Bool} {σ : Sg} {post : PC} {i : Fin 4} {v : Int} (hdg : decode mt.2.1 pc = .ok (.aload_n i, 1)) (q : Nat) (hq : lc[q]? = some ((i : Nat), ((2, v) : VV))) (k : Cv mt d n0 n1 (pc + 1) lc (((2, v) : VV) :: st) n nul σ post) : Cv mt d n0 n1 pc lc st n nul σ post := by
  intro p l e R s m args below meth c Q X B H0 H locs ls hC hB hR hW hS hl hlo hso hn0 hn1
  obtain ⟨hx, hb, hml, hown, hts, hC2⟩ := id hC
  have K := fun hv => k p l e R s m args below meth c Q X B H0 H locs ls hC hB hR hW hS hl hlo (by
    intro w hw
    rcases List.mem_cons.mp hw with rfl | hw
    · exact hv
    · exact hso w hw) hn0 hn1
  exact lv_aload_n hx hb hdg rfl (lv_at hl q (by rw [List.getElem?_map, hq]; rfl)) (K (hlo _ (List.mem_of_getElem? hq)))
theorem Cv_dup {mt : Mth} {d n0 n1 pc n : Nat} {lc : List (Nat × VV)} {st : List VV} {nul : Nat → Nat → Bool} {σ : Sg} {post : PC} {v : VV} (hdg : decode mt.2.1 pc = .ok (.dup, 1)) (hv : ¬ v.1 = 1) (k : Cv mt d n0 n1 (pc + 1) lc (v :: v :: st) n nul σ post) : Cv mt d n0 n1 pc lc (v :: st) n nul σ post := by
  intro p l e R s m args below meth c Q X B H0 H locs ls hC hB hR hW hS hl hlo hso hn0 hn1
  obtain ⟨hx, hb, hml, hown, hts, hC2⟩ := id hC
  exact lv_dup hx hb hdg (cat1 hv) (k p l e R s m args below meth c Q X B H0 H locs ls hC hB hR hW hS hl hlo (by
    intro w hw
    rcases List.mem_cons.mp hw with rfl | hw
    · exact hso _ List.mem_cons_self
    · exact hso w hw) hn0 hn1)
theorem Cv_istore_n {mt : Mth} {d n0 n1 pc n : Nat} {lc : List (Nat × VV)} {st : List VV} {nul : Nat → Nat → Bool} {σ : Sg} {post : PC} {lc2 : List (Nat × VV)} {i : Fin 4} {v : Int} (hdg : decode mt.2.1 pc = .ok (.istore_n i, 1)) (hn : (i : Nat) < mt.2.2.1) (hl2 : ((i : Nat), ((0, v) : VV)) :: lc.filter (fun q => !(q.1 == (i : Nat)) && !(q.1 + 1 == (i : Nat) && q.2.1 == 1)) = lc2) (k : Cv mt d n0 n1 (pc + 1) lc2 st n nul σ post) : Cv mt d n0 n1 pc lc (((0, v) : VV) :: st) n nul σ post := by
  intro p l e R s m args below meth c Q X B H0 H locs ls hC hB hR hW hS hl hlo hso hn0 hn1
  obtain ⟨hx, hb, hml, hown, hts, hC2⟩ := id hC
  subst hl2
  refine lv_istore_n (lv' := (((i : Nat), ((0, v) : VV)) :: lc.filter (fun q => !(q.1 == (i : Nat)) && !(q.1 + 1 == (i : Nat) && q.2.1 == 1))).map (fun q => (q.1, cv X.2.1 q.2))) hx hb hdg rfl hl hn ?_ (fun ls2 hl3 => ?_)
  · rw [List.map_cons, List.filter_map]
    refine congrArg (fun t => _ :: t) (congrArg (List.map _) (List.filter_congr (fun q _ => ?_)))
    simp only [Function.comp, cat2]
  · exact k p l e R s m args below meth c Q X B H0 H locs ls2 hC hB hR hW hS hl3 (by
      intro q hq
      rcases List.mem_cons.mp hq with rfl | hq
      · exact hso _ List.mem_cons_self
      · exact hlo q (List.mem_filter.mp hq).1) (fun w hw => hso w (List.mem_cons_of_mem _ hw)) hn0 hn1
theorem Cv_iinc {mt : Mth} {d n0 n1 pc n : Nat} {lc : List (Nat × VV)} {st : List VV} {nul : Nat → Nat → Bool} {σ : Sg} {post : PC} {lc2 : List (Nat × VV)} {i : Nat} {j x v : Int} (hdg : decode mt.2.1 pc = .ok (.iinc i j, 3)) (q : Nat) (hq : lc[q]? = some (i, ((0, x) : VV))) (hv : w32 (x + j) = v) (hn : i < mt.2.2.1) (hl2 : (i, ((0, v) : VV)) :: lc.filter (fun q => !(q.1 == i) && !(q.1 + 1 == i && q.2.1 == 1)) = lc2) (k : Cv mt d n0 n1 (pc + 3) lc2 st n nul σ post) : Cv mt d n0 n1 pc lc st n nul σ post := by
  intro p l e R s m args below meth c Q X B H0 H locs ls hC hB hR hW hS hl hlo hso hn0 hn1
  obtain ⟨hx, hb, hml, hown, hts, hC2⟩ := id hC
  subst hl2
  subst hv
  refine lv_iinc (v := i32 (w32 (x + j))) (lv' := ((i, ((0, w32 (x + j)) : VV)) :: lc.filter (fun q => !(q.1 == i) && !(q.1 + 1 == i && q.2.1 == 1))).map (fun q => (q.1, cv X.2.1 q.2))) hx hb hdg hl (k := q) (x := i32 x) (by rw [List.getElem?_map, hq]; rfl) (i32_add x j) hn ?_ (fun ls2 hl3 => ?_)
  · rw [List.map_cons, List.filter_map]
    refine congrArg (fun t => _ :: t) (congrArg (List.map _) (List.filter_congr (fun q _ => ?_)))
    simp only [Function.comp, cat2]
  · exact k p l e R s m args below meth c Q X B H0 H locs ls2 hC hB hR hW hS hl3 (by
      intro q hq
      rcases List.mem_cons.mp hq with rfl | hq
      · exact w32_ok _
      · exact hlo q (List.mem_filter.mp hq).1) hso hn0 hn1
theorem Cv_goto {mt : Mth} {d n0 n1 pc n : Nat} {lc : List (Nat × VV)} {st : List VV} {nul : Nat → Nat → Bool} {σ : Sg} {post : PC} {off : Int} {tgt : Nat} (hdg : decode mt.2.1 pc = .ok (.goto off, 3)) (ht : (pc : Int) + off = (tgt : Int)) (k : Cv mt d n0 n1 tgt lc st n nul σ post) : Cv mt d n0 n1 pc lc st n nul σ post := by
  intro p l e R s m args below meth c Q X B H0 H locs ls hC hB hR hW hS hl hlo hso hn0 hn1
  obtain ⟨hx, hb, hml, hown, hts, hC2⟩ := id hC
  exact lv_goto hx hb hdg ht (k p l e R s m args below meth c Q X B H0 H locs ls hC hB hR hW hS hl hlo hso hn0 hn1)
theorem Cv_icmp_ge {mt : Mth} {d n0 n1 pc n : Nat} {lc : List (Nat × VV)} {st : List VV} {nul : Nat → Nat → Bool} {σ : Sg} {post : PC} {a b : Int} {off : Int} {tgt : Nat} (hdg : decode mt.2.1 pc = .ok (.if_icmp .ge off, 3)) (ht : (pc : Int) + off = (tgt : Int)) (kt : b ≤ a → Cv mt d n0 n1 tgt lc st n nul σ post) (kf : ¬ b ≤ a → Cv mt d n0 n1 (pc + 3) lc st n nul σ post) : Cv mt d n0 n1 pc lc (((0, b) : VV) :: ((0, a) : VV) :: st) n nul σ post := by
  intro p l e R s m args below meth c Q X B H0 H locs ls hC hB hR hW hS hl hlo hso hn0 hn1
  obtain ⟨hx, hb, hml, hown, hts, hC2⟩ := id hC
  have h_a : ok32 a := hso (0, a) (by simp)
  have h_b : ok32 b := hso (0, b) (by simp)
  have hso2 : ∀ v ∈ st, okv v := fun v hv => hso v (by simp [hv])
  refine lv_icmp_ge hx hb hdg ht (fun q => kt ((i32_le h_b h_a).mp (by first | exact q | simpa using q)) p l e R s m args below meth c Q X B H0 H locs ls hC hB hR hW hS hl hlo hso2 hn0 hn1) (fun q => kf (fun z => absurd ((i32_le h_b h_a).mpr z) (by first | exact q | simpa using q)) p l e R s m args below meth c Q X B H0 H locs ls hC hB hR hW hS hl hlo hso2 hn0 hn1)
theorem Cv_exit {mt : Mth} {d n0 n1 pc : Nat} {lc : List (Nat × VV)} {st : List VV} {nul : Nat → Nat → Bool} {σ : Sg} {post : PC} (k : post pc lc st n1 nul σ) : Cv mt d n0 n1 pc lc st n1 nul σ post := by
  intro p l e R s m args below meth c Q X B H0 H locs ls hC hB hR hW hS hl hlo hso hn0 hn1
  exact hR nul σ H locs pc ls lc st k hW hS hl hlo hso
def exC (mt : Mth) (P : PX) : PC := fun pc _ st n nul σ => decode mt.2.1 pc = .ok (.return_, 1) ∧ st = [] ∧ P n nul σ
theorem Cv_ret {mt : Mth} {d n0 n1 pc : Nat} {lc : List (Nat × VV)} {nul : Nat → Nat → Bool} {σ : Sg} {P : PX} (hdg : decode mt.2.1 pc = .ok (.return_, 1)) (k : P n1 nul σ) : Cv mt d n0 n1 pc lc [] n1 nul σ (exC mt P) := Cv_exit ⟨hdg, rfl, k⟩
theorem Cv_astore_n {mt : Mth} {d n0 n1 pc n : Nat} {lc : List (Nat × VV)} {st : List VV} {nul : Nat → Nat → Bool} {σ : Sg} {post : PC} {lc2 : List (Nat × VV)} {i : Fin 4} {v : Int} (hdg : decode mt.2.1 pc = .ok (.astore_n i, 1)) (hn : (i : Nat) < mt.2.2.1) (hl2 : ((i : Nat), ((2, v) : VV)) :: lc.filter (fun q => !(q.1 == (i : Nat)) && !(q.1 + 1 == (i : Nat) && q.2.1 == 1)) = lc2) (k : Cv mt d n0 n1 (pc + 1) lc2 st n nul σ post) : Cv mt d n0 n1 pc lc (((2, v) : VV) :: st) n nul σ post := by
  intro p l e R s m args below meth c Q X B H0 H locs ls hC hB hR hW hS hl hlo hso hn0 hn1
  obtain ⟨hx, hb, hml, hown, hts, hC2⟩ := id hC
  subst hl2
  refine lv_astore_n (lv' := (((i : Nat), ((2, v) : VV)) :: lc.filter (fun q => !(q.1 == (i : Nat)) && !(q.1 + 1 == (i : Nat) && q.2.1 == 1))).map (fun q => (q.1, cv X.2.1 q.2))) hx hb hdg rfl hl hn ?_ (fun ls2 hl3 => ?_)
  · rw [List.map_cons, List.filter_map]
    refine congrArg (fun t => _ :: t) (congrArg (List.map _) (List.filter_congr (fun q _ => ?_)))
    simp only [Function.comp, cat2]
  · exact k p l e R s m args below meth c Q X B H0 H locs ls2 hC hB hR hW hS hl3 (by
      intro q hq
      rcases List.mem_cons.mp hq with rfl | hq
      · exact trivial
      · exact hlo q (List.mem_filter.mp hq).1) (fun w hw => hso w (List.mem_cons_of_mem _ hw)) hn0 hn1
theorem Cv_obj {mt : Mth} {d n0 n1 pc n : Nat} {lc : List (Nat × VV)} {st : List VV} {nul : Nat → Nat → Bool} {σ : Sg} {post : PC} {v : Int} {idx : Nat} (hdg : decode mt.2.1 pc = .ok (.invokespecial idx, 3)) (hq : Cond.methodLink mt.1.cls idx objectInit ∈ tbG ∧ Cond.instanceMethod objectInit ∈ tbG ∧ Cond.code objectInit ⟨#[0xb1]⟩ 1 none ∈ tbG) (hd : 1 ≤ d) (hsum : (st.map (fun v => if v.1 = 1 then 2 else 1)).sum ≤ 8) (k : Cv mt d n0 n1 (pc + 3) lc st n nul σ post) : Cv mt d n0 n1 pc lc (((2, v) : VV) :: st) n nul σ post := by
  intro p l e R s m args below meth c Q X B H0 H locs ls hC hB hR hW hS hl hlo hso hn0 hn1
  obtain ⟨hx, hb, hml, hown, hts, hC2⟩ := id hC
  have hsz := hl.1
  refine W.objInit hx hb hown (hts _ hq.1) (hts _ hq.2.1) (hts _ hq.2.2) rfl (hsz.trans hml.symm) rfl hdg (by have := hC2.1; omega) (by have h1 := cat_sum (ad := X.2.1) hsum; have h2 := hC2.2.1; show 2 * 0 + _ + 12 ≤ _; omega) ?_
  exact k p l e R s m args below meth c Q X B H0 H locs ls hC hB hR hW hS hl hlo (fun w hw => hso w (List.mem_cons_of_mem _ hw)) hn0 hn1
theorem W_size {p : Program} {l : Launch} {e : Env} {R : Room} {s : State} {m : MethodId} {args : Array Value} {below : List Frame} {meth : Method} {c : Code} {H : Heap} {locs : List Loc} {cells slots : Nat} {Q : State → Prop} {g : JFrame} (k : H.size ≤ s.heap.size + cells → W p l e R s m args below meth c H locs cells slots Q g) : W p l e R s m args below meth c H locs cells slots Q g :=
  fun T hT X => k (hT ▸ X.heapSize) T hT X
theorem size_of {X : MX} {B n : Nat} {nul : Nat → Nat → Bool} {σ : Sg} {H : Heap} (h : va_P X.1 vwCl (wdP X nul σ n) H ∧ (∀ c, c < NC → X.2.1 c = B + c) ∧ n ≤ NC) (hn : 0 < n) (hle : H.size ≤ B + n) : H.size = B + n := by
  have g1 := (h.1 (n - 1) _ (wdP_at X nul σ (show n - 1 < n by omega))).lt
  have g2 : X.2.1 (n - 1) < H.size := g1
  rw [h.2.1 _ (by omega)] at g2
  omega
theorem fty_le (a b : Nat) : fty a b ≤ 2 := by
  have H : ∀ l ∈ ftL, ∀ x ∈ l, x ≤ 2 := by decide +kernel
  unfold fty
  rw [List.getD_eq_getElem?_getD]
  cases h : (ftL.getD a [])[b]? with
  | none => simp
  | some x =>
    have hm := List.mem_of_getElem? h
    rw [List.getD_eq_getElem?_getD] at hm
    cases h2 : ftL[a]? with
    | none => rw [h2] at hm; cases hm
    | some l =>
      rw [h2] at hm
      exact H l (List.mem_of_getElem? h2) x hm
/-- what 'new' of a class finds in the tables -/
def NW (own : String) (idx ci : Nat) : Prop := ∃ (C : String) (T : u_T) (N : Nat) (ty0 : Nat → FieldType), vwCl[ci]? = some (C, T, N) ∧ N = nfs ci ∧ (∀ w ∈ u_ws C T N, w ∈ tbG) ∧ (∀ k, k < N → parseFieldDescriptor (T k).2.2.1 = some (ty0 k)) ∧ Cond.classLink own idx C ∈ tbG ∧ Cond.instantiable C N ∈ tbG ∧ Cond.initialized C ∈ tbG ∧
  (∀ j, j < N → defaultValue (ty0 j) = (if fty ci j = 2 then .null else if fty ci j = 1 then .long 0 else .int 0))
theorem Cv_new {mt : Mth} {d n0 n1 pc n : Nat} {lc : List (Nat × VV)} {st : List VV} {nul : Nat → Nat → Bool} {σ : Sg} {post : PC} {idx ci : Nat} {v : Int} (hdg : decode mt.2.1 pc = .ok (.new idx, 3)) (hq : NW mt.1.cls idx ci) (hs : shp n = (0, ci)) (hz : ∀ k, σ n k = 0) (hnl : ∀ k, nul n k = true) (hn : n + 1 ≤ n1) (hv : v.toNat = n)
    (k : Cv mt d n0 n1 (pc + 3) lc (((2, v) : VV) :: st) (n + 1) nul σ post) : Cv mt d n0 n1 pc lc st n nul σ post := by
  intro p l e R s m args below meth c Q X B H0 H locs ls hC hB hR hW hS hl hlo hso hn0 hn1
  obtain ⟨hx, hb, hml, hown, hts, hC2⟩ := id hC
  obtain ⟨C, T, N, ty0, h1, h2, h3, h4, h5, h6, h7, h8⟩ := hq
  obtain ⟨hP, hK, hsz, hX, hNC⟩ := hW
  have hc := shp_lt hs (by decide)
  have hKn := hK.1 ci _ h1
  have hsl : slc (n + 1) = slc n + N := by
    show slc n + (if (shp n).1 = 0 then nfs (shp n).2 else (shp n).2) = _
    rw [hs, h2]; rfl
  have hsl2 : slc (n + 1) ≤ slc n1 := slc_mono hn
  have hsl3 : slc n0 ≤ slc n := slc_mono hn0
  subst hv
  refine W.newcK hx hb hown (hts _ h5) (hts _ h6) (hts _ h7) rfl hdg (by omega) (by omega) hKn.2.1 hsz fun H1 kC hkC e1 z1 o1 => ?_
  have hk : ∀ (i : Nat) (x : Nat × va_E), (wdP X nul σ v.toNat)[i]? = some x → H1[x.1]? = H[x.1]? := fun i x hx => o1 x.1 (by have := (hP i x hx).lt; omega)
  have hP1 : va_P X.1 vwCl (wdP X nul σ (v.toNat + 1)) H1 := by
    rw [← wdP_succ]
    refine (hP.kept hk).app (fun i x hx => ?_)
    have hi1 : i < 1 := (List.getElem?_eq_some_iff.mp hx).1
    rw [show i = 0 by omega] at hx
    cases hx
    rw [entP_obj hs]
    have e2 : H1[X.2.1 v.toNat]? = some (blank (X.1.1 ci) kC) := by rw [hX _ hc]; exact e1
    refine ⟨_, h1, (u_born ty0 hts h3 hKn hkC e2 h4).to (fun j hj => ?_)⟩
    rw [h8 j hj]
    unfold vp_V
    rw [List.getD_eq_getElem?_getD, List.getElem?_map, List.getElem?_range (by omega)]
    simp only [Option.map_some, Option.getD_some, hnl, and_true]
    by_cases ht : fty ci j = 2
    · simp [ht]
    · rw [if_neg ht, if_neg ht]
      unfold fvl
      by_cases ht1 : fty ci j = 1
      · rw [if_pos ht1, ht1, hz]; rfl
      · rw [if_neg ht1]
        have ht0 : fty ci j = 0 ∨ ∃ t, fty ci j = t + 3 := by
          match hq : fty ci j, ht, ht1 with
          | 0, _, _ => exact Or.inl rfl
          | 1, _, h => exact absurd rfl h
          | 2, h, _ => exact absurd rfl h
          | t + 3, _, _ => exact Or.inr ⟨t, rfl⟩
        rcases ht0 with ht0 | ⟨t, ht0⟩
        · rw [ht0, hz]; rfl
        · exfalso
          have hb2 : ∀ a b : Nat, fty a b ≤ 2 := fty_le
          have := hb2 ci j
          omega
  have hS1 : va_S (fun q => B ≤ q) H0 H1 locs := ⟨by have := hS.1; omega, fun x g1 g2 => (o1 x (by have : ¬ B ≤ x := g2; omega)).trans (hS.2.1 x g1 g2), hS.2.2⟩
  have K := k p l e R s m args below meth c Q X B H0 H1 locs ls hC hB hR ⟨hP1, hK, by omega, hX, by omega⟩ hS1 hl hlo (by
    intro w hw
    rcases List.mem_cons.mp hw with rfl | hw
    · exact trivial
    · exact hso w hw) (by omega) hn
  have e3 : v.toNat + 1 - n0 = v.toNat - n0 + 1 := by omega
  have e4 : slc (v.toNat + 1) - slc n0 = slc v.toNat - slc n0 + N := by omega
  rw [e3, e4] at K
  have e5 : (((2, v) : VV) :: st).map (cv X.2.1) = .ref (B + v.toNat) :: st.map (cv X.2.1) := by
    show Value.ref (X.2.1 v.toNat) :: _ = _
    rw [hX _ hc]
  rw [e5] at K
  exact K
theorem Cv_nai {mt : Mth} {d n0 n1 pc n : Nat} {lc : List (Nat × VV)} {st : List VV} {nul : Nat → Nat → Bool} {σ : Sg} {post : PC} {v a : Int} {len : Nat} (hdg : decode mt.2.1 pc = .ok (.newarray .int, 2)) (hq : Cond.arrayClass .int ∈ tbG) (hs : shp n = (1, len)) (ha : a = (len : Int)) (hlen : len ≤ 1000) (hz : ∀ k, σ n k = 0) (hn : n + 1 ≤ n1) (hv : v.toNat = n)
    (k : Cv mt d n0 n1 (pc + 2) lc (((2, v) : VV) :: st) (n + 1) nul σ post) : Cv mt d n0 n1 pc lc (((0, a) : VV) :: st) n nul σ post := by
  intro p l e R s m args below meth c Q X B H0 H locs ls hC hB hR hW hS hl hlo hso hn0 hn1
  obtain ⟨hx, hb, hml, hown, hts, hC2⟩ := id hC
  obtain ⟨hP, hK, hsz, hX, hNC⟩ := hW
  have hc := shp_lt hs (by decide)
  have hsl : slc (n + 1) = slc n + len := by
    show slc n + (if (shp n).1 = 0 then nfs (shp n).2 else (shp n).2) = _
    rw [hs]; rfl
  have hsl2 : slc (n + 1) ≤ slc n1 := slc_mono hn
  have hsl3 : slc n0 ≤ slc n := slc_mono hn0
  subst hv
  subst ha
  have hlo32 : ok32 (len : Int) := ⟨by omega, by omega⟩
  have hneg : ¬ i32 (len : Int) < 0 := fun q => by
    rw [Int32.lt_iff_toInt_lt, i32_toInt hlo32] at q
    have : (0 : Int32).toInt = 0 := rfl
    omega
  refine va_newaK (atype := .int) hx hb (hts _ hq) rfl hdg rfl hneg (tn32 hlo32) (by show ((len : Int)).toNat * _ ≤ _; simp only [Int.toNat_natCast, componentBytes, newarray.typeOf]; omega) (by omega) (by simp only [Int.toNat_natCast]; omega) hsz fun H1 cA e1 z1 o1 hAr hfc => ?_
  have hk : ∀ (i : Nat) (x : Nat × va_E), (wdP X nul σ v.toNat)[i]? = some x → H1[x.1]? = H[x.1]? := fun i x hx => o1 x.1 (by have := (hP i x hx).lt; omega)
  have hcA : cA = X.2.2 0 := by
    have h := (hK.2 0 (X.2.2 0, .int) rfl).2
    have h2 : s.vm.findClass ("[" ++ FieldType.toString .int) = some (X.2.2 0) := h
    exact Option.some.inj (hfc.symm.trans h2)
  have hP1 : va_P X.1 vwCl (wdP X nul σ (v.toNat + 1)) H1 := by
    rw [← wdP_succ]
    refine (hP.kept hk).app (fun i x hx => ?_)
    have hi1 : i < 1 := (List.getElem?_eq_some_iff.mp hx).1
    rw [show i = 0 by omega] at hx
    cases hx
    rw [entP_arr hs, ent_int hs, hX _ hc]
    show H1[B + v.toNat]? = some (vp_cell (X.2.2 0) (len, .inl (fun j => i32 (σ v.toNat j))))
    rw [e1, hcA, Int.toNat_natCast]
    simp only [hz]
    rfl
  have hS1 : va_S (fun q => B ≤ q) H0 H1 locs := ⟨by have := hS.1; omega, fun x g1 g2 => (o1 x (by have : ¬ B ≤ x := g2; omega)).trans (hS.2.1 x g1 g2), hS.2.2⟩
  have K := k p l e R s m args below meth c Q X B H0 H1 locs ls hC hB hR ⟨hP1, hK, by omega, hX, by omega⟩ hS1 hl hlo (by
    intro w hw
    rcases List.mem_cons.mp hw with rfl | hw
    · exact trivial
    · exact hso w (List.mem_cons_of_mem _ hw)) (by omega) hn
  have e3 : v.toNat + 1 - n0 = v.toNat - n0 + 1 := by omega
  have e4 : slc (v.toNat + 1) - slc n0 = slc v.toNat - slc n0 + ((len : Int)).toNat := by rw [Int.toNat_natCast]; omega
  rw [e3, e4] at K
  have e5 : (((2, v) : VV) :: st).map (cv X.2.1) = .ref (B + v.toNat) :: st.map (cv X.2.1) := by
    show Value.ref (X.2.1 v.toNat) :: _ = _
    rw [hX _ hc]
  rw [e5] at K
  exact K
theorem Cv_nal {mt : Mth} {d n0 n1 pc n : Nat} {lc : List (Nat × VV)} {st : List VV} {nul : Nat → Nat → Bool} {σ : Sg} {post : PC} {v a : Int} {len : Nat} (hdg : decode mt.2.1 pc = .ok (.newarray .long, 2)) (hq : Cond.arrayClass .long ∈ tbG) (hs : shp n = (2, len)) (ha : a = (len : Int)) (hlen : len ≤ 1000) (hz : ∀ k, σ n k = 0) (hn : n + 1 ≤ n1) (hv : v.toNat = n)
    (k : Cv mt d n0 n1 (pc + 2) lc (((2, v) : VV) :: st) (n + 1) nul σ post) : Cv mt d n0 n1 pc lc (((0, a) : VV) :: st) n nul σ post := by
  intro p l e R s m args below meth c Q X B H0 H locs ls hC hB hR hW hS hl hlo hso hn0 hn1
  obtain ⟨hx, hb, hml, hown, hts, hC2⟩ := id hC
  obtain ⟨hP, hK, hsz, hX, hNC⟩ := hW
  have hc := shp_lt hs (by decide)
  have hsl : slc (n + 1) = slc n + len := by
    show slc n + (if (shp n).1 = 0 then nfs (shp n).2 else (shp n).2) = _
    rw [hs]; rfl
  have hsl2 : slc (n + 1) ≤ slc n1 := slc_mono hn
  have hsl3 : slc n0 ≤ slc n := slc_mono hn0
  subst hv
  subst ha
  have hlo32 : ok32 (len : Int) := ⟨by omega, by omega⟩
  have hneg : ¬ i32 (len : Int) < 0 := fun q => by
    rw [Int32.lt_iff_toInt_lt, i32_toInt hlo32] at q
    have : (0 : Int32).toInt = 0 := rfl
    omega
  refine va_newaK (atype := .long) hx hb (hts _ hq) rfl hdg rfl hneg (tn32 hlo32) (by show ((len : Int)).toNat * _ ≤ _; simp only [Int.toNat_natCast, componentBytes, newarray.typeOf]; omega) (by omega) (by simp only [Int.toNat_natCast]; omega) hsz fun H1 cA e1 z1 o1 hAr hfc => ?_
  have hk : ∀ (i : Nat) (x : Nat × va_E), (wdP X nul σ v.toNat)[i]? = some x → H1[x.1]? = H[x.1]? := fun i x hx => o1 x.1 (by have := (hP i x hx).lt; omega)
  have hcA : cA = X.2.2 1 := by
    have h := (hK.2 1 (X.2.2 1, .long) rfl).2
    have h2 : s.vm.findClass ("[" ++ FieldType.toString .long) = some (X.2.2 1) := h
    exact Option.some.inj (hfc.symm.trans h2)
  have hP1 : va_P X.1 vwCl (wdP X nul σ (v.toNat + 1)) H1 := by
    rw [← wdP_succ]
    refine (hP.kept hk).app (fun i x hx => ?_)
    have hi1 : i < 1 := (List.getElem?_eq_some_iff.mp hx).1
    rw [show i = 0 by omega] at hx
    cases hx
    rw [entP_arr hs, ent_long hs, hX _ hc]
    show H1[B + v.toNat]? = some (vp_cell (X.2.2 1) (len, .inr (.inl (fun j => i64 (σ v.toNat j)))))
    rw [e1, hcA, Int.toNat_natCast]
    simp only [hz]
    rfl
  have hS1 : va_S (fun q => B ≤ q) H0 H1 locs := ⟨by have := hS.1; omega, fun x g1 g2 => (o1 x (by have : ¬ B ≤ x := g2; omega)).trans (hS.2.1 x g1 g2), hS.2.2⟩
  have K := k p l e R s m args below meth c Q X B H0 H1 locs ls hC hB hR ⟨hP1, hK, by omega, hX, by omega⟩ hS1 hl hlo (by
    intro w hw
    rcases List.mem_cons.mp hw with rfl | hw
    · exact trivial
    · exact hso w (List.mem_cons_of_mem _ hw)) (by omega) hn
  have e3 : v.toNat + 1 - n0 = v.toNat - n0 + 1 := by omega
  have e4 : slc (v.toNat + 1) - slc n0 = slc v.toNat - slc n0 + ((len : Int)).toNat := by rw [Int.toNat_natCast]; omega
  rw [e3, e4] at K
  have e5 : (((2, v) : VV) :: st).map (cv X.2.1) = .ref (B + v.toNat) :: st.map (cv X.2.1) := by
    show Value.ref (X.2.1 v.toNat) :: _ = _
    rw [hX _ hc]
  rw [e5] at K
  exact K
theorem Cv_naz {mt : Mth} {d n0 n1 pc n : Nat} {lc : List (Nat × VV)} {st : List VV} {nul : Nat → Nat → Bool} {σ : Sg} {post : PC} {v a : Int} {len : Nat} (hdg : decode mt.2.1 pc = .ok (.newarray .boolean, 2)) (hq : Cond.arrayClass .boolean ∈ tbG) (hs : shp n = (3, len)) (ha : a = (len : Int)) (hlen : len ≤ 1000) (hz : ∀ k, σ n k = 0) (hn : n + 1 ≤ n1) (hv : v.toNat = n)
    (k : Cv mt d n0 n1 (pc + 2) lc (((2, v) : VV) :: st) (n + 1) nul σ post) : Cv mt d n0 n1 pc lc (((0, a) : VV) :: st) n nul σ post := by
  intro p l e R s m args below meth c Q X B H0 H locs ls hC hB hR hW hS hl hlo hso hn0 hn1
  obtain ⟨hx, hb, hml, hown, hts, hC2⟩ := id hC
  obtain ⟨hP, hK, hsz, hX, hNC⟩ := hW
  have hc := shp_lt hs (by decide)
  have hsl : slc (n + 1) = slc n + len := by
    show slc n + (if (shp n).1 = 0 then nfs (shp n).2 else (shp n).2) = _
    rw [hs]; rfl
  have hsl2 : slc (n + 1) ≤ slc n1 := slc_mono hn
  have hsl3 : slc n0 ≤ slc n := slc_mono hn0
  subst hv
  subst ha
  have hlo32 : ok32 (len : Int) := ⟨by omega, by omega⟩
  have hneg : ¬ i32 (len : Int) < 0 := fun q => by
    rw [Int32.lt_iff_toInt_lt, i32_toInt hlo32] at q
    have : (0 : Int32).toInt = 0 := rfl
    omega
  refine va_newaK (atype := .boolean) hx hb (hts _ hq) rfl hdg rfl hneg (tn32 hlo32) (by show ((len : Int)).toNat * _ ≤ _; simp only [Int.toNat_natCast, componentBytes, newarray.typeOf]; omega) (by omega) (by simp only [Int.toNat_natCast]; omega) hsz fun H1 cA e1 z1 o1 hAr hfc => ?_
  have hk : ∀ (i : Nat) (x : Nat × va_E), (wdP X nul σ v.toNat)[i]? = some x → H1[x.1]? = H[x.1]? := fun i x hx => o1 x.1 (by have := (hP i x hx).lt; omega)
  have hcA : cA = X.2.2 2 := by
    have h := (hK.2 2 (X.2.2 2, .boolean) rfl).2
    have h2 : s.vm.findClass ("[" ++ FieldType.toString .boolean) = some (X.2.2 2) := h
    exact Option.some.inj (hfc.symm.trans h2)
  have hP1 : va_P X.1 vwCl (wdP X nul σ (v.toNat + 1)) H1 := by
    rw [← wdP_succ]
    refine (hP.kept hk).app (fun i x hx => ?_)
    have hi1 : i < 1 := (List.getElem?_eq_some_iff.mp hx).1
    rw [show i = 0 by omega] at hx
    cases hx
    rw [entP_arr hs, ent_bool hs, hX _ hc]
    show H1[B + v.toNat]? = some (vp_cell (X.2.2 2) (len, .inl (fun j => i32 (σ v.toNat j))))
    rw [e1, hcA, Int.toNat_natCast]
    simp only [hz]
    rfl
  have hS1 : va_S (fun q => B ≤ q) H0 H1 locs := ⟨by have := hS.1; omega, fun x g1 g2 => (o1 x (by have : ¬ B ≤ x := g2; omega)).trans (hS.2.1 x g1 g2), hS.2.2⟩
  have K := k p l e R s m args below meth c Q X B H0 H1 locs ls hC hB hR ⟨hP1, hK, by omega, hX, by omega⟩ hS1 hl hlo (by
    intro w hw
    rcases List.mem_cons.mp hw with rfl | hw
    · exact trivial
    · exact hso w (List.mem_cons_of_mem _ hw)) (by omega) hn
  have e3 : v.toNat + 1 - n0 = v.toNat - n0 + 1 := by omega
  have e4 : slc (v.toNat + 1) - slc n0 = slc v.toNat - slc n0 + ((len : Int)).toNat := by rw [Int.toNat_natCast]; omega
  rw [e3, e4] at K
  have e5 : (((2, v) : VV) :: st).map (cv X.2.1) = .ref (B + v.toNat) :: st.map (cv X.2.1) := by
    show Value.ref (X.2.1 v.toNat) :: _ = _
    rw [hX _ hc]
  rw [e5] at K
  exact K
/-- a final field that a constructor lays: a reference -/
def FR (own : String) (idx ci k : Nat) : Prop := ∃ (C : String) (T : u_T) (N : Nat) (ty0 : Nat → FieldType) (ty : FieldType), vwCl[ci]? = some (C, T, N) ∧ k < N ∧ (∀ w ∈ u_ws C T N, w ∈ tbG) ∧ (T k).1 = C ∧ Cond.fieldLink own idx C (T k).2.1 (T k).2.2.1 ∈ tbG ∧
  (∀ k, k < N → parseFieldDescriptor (T k).2.2.1 = some (ty0 k)) ∧ (∀ a, a < N → ∀ b, b < N → a ≠ b → (T a).2.1 ≠ (T b).2.1) ∧ (T k).2.2.2 = true ∧ C = own ∧ parseFieldDescriptor (T k).2.2.1 = some ty ∧ (∀ a, narrow ty (.ref a) = .ref a) ∧ (∀ a, fits ty (.ref a) = true) ∧ fty ci k = 2 ∧ k < nfs ci
def nset (nul : Nat → Nat → Bool) (c k : Nat) : Nat → Nat → Bool := fun c' => if c' = c then (fun k' => if k' = k then false else nul c k') else nul c'
theorem Cv_putr {mt : Mth} {d n0 n1 pc n : Nat} {lc : List (Nat × VV)} {st : List VV} {nul : Nat → Nat → Bool} {σ : Sg} {post : PC} {r v : Int} {idx ci k : Nat} (c : Nat) (hdg : decode mt.2.1 pc = .ok (.putfield idx, 3)) (hF : FR mt.1.cls idx ci k) (hv : v.toNat = c) (hs : shp c = (0, ci)) (hcn : c < n) (hr : r.toNat = rf c k) (hini : mt.1.name = "<init>")
    (kk : Cv mt d n0 n1 (pc + 3) lc st n (nset nul c k) σ post) : Cv mt d n0 n1 pc lc (((2, r) : VV) :: ((2, v) : VV) :: st) n nul σ post := by
  intro p l e R s m args below meth c0 Q X B H0 H locs ls hC hB hR hW hS hl hlo hso hn0 hn1
  obtain ⟨hx, hb, hml, hown, hts, hC2⟩ := id hC
  obtain ⟨C, T, N, ty0, ty, h1, h2, h3, h4, h5, h6, h7, h8, h9, h10, h11, h12, h13, h14⟩ := hF
  obtain ⟨hP, hK, hsz, hX, hNC⟩ := id hW
  subst hv
  have he := wdP_at X nul σ hcn
  rw [entP_obj hs] at he
  have hset : (wdP X nul σ n).set v.toNat (X.2.1 v.toNat, .inr (ci, ((List.range (nfs ci)).map (fun j => if fty ci j = 2 ∧ nul v.toNat j = true then .null else cv X.2.1 (fvl (σ v.toNat) v.toNat ci j))).set k (.ref (X.2.1 r.toNat)))) = wdP X (nset nul v.toNat k) σ n := by
    refine wdP_set X hcn (fun _ _ => rfl) (fun c' h => by unfold nset; rw [if_neg h]) ?_
    rw [entP_obj hs]
    refine congrArg (fun z => Sum.inr (ci, z)) ?_
    apply List.ext_getElem?
    intro i
    rw [List.getElem?_set, List.getElem?_map]
    by_cases hi : i < nfs ci
    · rw [List.getElem?_range hi, Option.map_some]
      by_cases e2 : k = i
      · subst e2
        have h20 : (nset nul v.toNat k) v.toNat k = false := by simp [nset]
        have e4 : (if fty ci k = 2 ∧ nset nul v.toNat k v.toNat k = true then Value.null else cv X.2.1 (fvl (σ v.toNat) v.toNat ci k)) = Value.ref (X.2.1 r.toNat) := by
          rw [h20]
          simp [fvl, h13, cv, hr]
        rw [e4, if_pos rfl, if_pos (by simpa using hi)]
      · rw [if_neg e2, List.getElem?_map, List.getElem?_range hi, Option.map_some]
        have : (nset nul v.toNat k) v.toNat i = nul v.toNat i := by simp [nset, Ne.symm e2]
        rw [this]
    · rw [List.getElem?_eq_none (by simpa using hi)]
      have e2 : ¬ k = i := by omega
      rw [if_neg e2, List.getElem?_eq_none (by simpa using hi)]; rfl
  refine va_putF (D := X.1) (ci := ci) (v := .ref (X.2.1 r.toNat)) (ty := ty) hx hb hts h3 ty0 h6 h7 hown hK hP (wdP_D nul σ hX hNC) hS v.toNat he h1 k h2 (hts _ h5) (fun x hx => by rw [← h4]; exact hx) h8 (hC2.2.2.2.2.1 hini) (h4.trans h9) h10 (h11 _) (h12 _) (by simpa using h14) hdg (fun H1 locs1 a1 a2 a3 => ?_)
  rw [hset] at a1
  refine W_size fun hle => ?_
  have hsz1 : H1.size = B + n := size_of ⟨a1, hX, hNC⟩ (by omega) (by have := hC2.2.2.2.2.2.2.1; omega)
  exact kk p l e R s m args below meth c0 Q X B H0 H1 locs1 ls hC hB hR ⟨a1, hK, hsz1, hX, hNC⟩ a3 hl hlo (fun w hw => hso w (by simp [hw])) hn0 hn1
