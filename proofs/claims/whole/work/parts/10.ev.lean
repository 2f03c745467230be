theorem iand_c (a b : Int) : i32 a &&& i32 b = i32 (iand a b) := (Int32.ofInt_toInt _).symm
theorem ior_c (a b : Int) : i32 a ||| i32 b = i32 (ior a b) := (Int32.ofInt_toInt _).symm
theorem ixor_c (a b : Int) : i32 a ^^^ i32 b = i32 (ixor a b) := (Int32.ofInt_toInt _).symm
theorem land_c (a b : Int) : i64 a &&& i64 b = i64 (land a b) := (Int64.ofInt_toInt _).symm
theorem lor_c (a b : Int) : i64 a ||| i64 b = i64 (lor a b) := (Int64.ofInt_toInt _).symm
theorem ishl_c (a b : Int) : i32 a <<< (i32 b &&& 31) = i32 (ishl a b) := (Int32.ofInt_toInt _).symm
theorem ishr_c (a b : Int) : i32 a >>> (i32 b &&& 31) = i32 (ishr a b) := (Int32.ofInt_toInt _).symm
/-! the light judgement: Ev says of a method's place, locals, stack and heap that the machine goes on from there to an end that 'post' tells -/
/-- the law's script: L ints, at the cell behind all others -/
def Scr (X : MX) (A : Nat → Prop) (H0 : Heap) (s : State) (q : Option (Nat × (Nat → Int))) : Prop := match q with
  | none => True
  | some (L, xs) => va_X (X.2.1 NC) L (fun j => i32 (xs j)) s H0 ∧ X.2.1 NC < H0.size ∧ ¬ A (X.2.1 NC) ∧ (∀ j, ok32 (xs j)) ∧ (L : Int) < 2147483648
def Ctx (p : Program) (R : Room) (s : State) (m : MethodId) (args : Array Value) (meth : Method) (c : Code) (cells slots : Nat) (X : MX) (A : Nat → Prop) (H0 : Heap) (mt : Mth) (d : Nat) : Prop :=
  p.tables.exec = Jvm.exec ∧ c.code = mt.2.1 ∧ c.maxLocals = mt.2.2.1 ∧ s.vm.findClass mt.1.cls = some m.cls ∧ (∀ w ∈ tbG, w.before args s = true) ∧ d ≤ R.frames ∧ 64 * d ≤ R.locals ∧ cells ≤ R.cells ∧ slots ≤ R.slots ∧ Scr X A H0 s mt.2.2.2.2
theorem cat2 (ad : Nat → Nat) (v : VV) : ((cv ad v).category == 2) = (v.1 == 1) := by
  rw [cv_cat]
  by_cases e : v.1 = 1 <;> simp [e]
def okvo (v : Option VV) : Prop := match v with
  | none => True
  | some v => okv v
/-- an answer of the type that the method's head names -/
def rok (ret : Option FieldType) (v : Option VV) : Prop := match ret, v with
  | none, none => True
  | some .int, some (0, _) => True
  | some .boolean, some (0, x) => x = 0 ∨ x = 1
  | some .long, some (1, _) => True
  | some (.array _), some (2, _) => True
  | _, _ => False
def rin (v : Option VV) : Instr := match v with
  | none => .return_
  | some (0, _) => .ireturn
  | some (1, _) => .lreturn
  | some _ => .areturn
abbrev PO : Type := Option VV → Sg → Prop
def RetH (p : Program) (l : Launch) (e : Env) (R : Room) (s : State) (m : MethodId) (args : Array Value) (below : List Frame) (meth : Method) (c : Code) (cells slots : Nat) (Q : State → Prop) (X : MX) (A : Nat → Prop) (H0 : Heap) (mt : Mth) (post : PO) : Prop :=
  ∀ (v : Option VV) (σ : Sg) (H : Heap) (locs : List Loc) (pc : Nat) (ls : Array Slot), okvo v → rok mt.2.2.2.1 v → post v σ → WD X A σ s H → va_S A H0 H locs → decode mt.2.1 pc = .ok (rin v, 1) →
    W p l e R s m args below meth c H locs cells slots Q (F0 m pc ls ((v.map (cv X.2.1)).toList))
def Ev (mt : Mth) (d pc : Nat) (lc : List (Nat × VV)) (st : List VV) (σ : Sg) (post : PO) : Prop :=
  ∀ (p : Program) (l : Launch) (e : Env) (R : Room) (s : State) (m : MethodId) (args : Array Value) (below : List Frame) (meth : Method) (c : Code) (cells slots : Nat) (Q : State → Prop) (X : MX) (A : Nat → Prop) (H0 H : Heap) (locs : List Loc) (ls : Array Slot),
    Ctx p R s m args meth c cells slots X A H0 mt d → RetH p l e R s m args below meth c cells slots Q X A H0 mt post → WD X A σ s H → va_S A H0 H locs → lv_has ls mt.2.2.1 (lc.map (fun q => (q.1, cv X.2.1 q.2))) → (∀ q ∈ lc, okv q.2) → (∀ v ∈ st, okv v) →
    W p l e R s m args below meth c H locs cells slots Q (F0 m pc ls (st.map (cv X.2.1)))

theorem Ev_iadd {mt : Mth} {d pc : Nat} {lc : List (Nat × VV)} {st : List VV} {σ : Sg} {post : PO} {b a : Int} (hdg : decode mt.2.1 pc = .ok (.iadd, 1)) (k : Ev mt d (pc + 1) lc (((0, w32 (a + b)) : VV) :: st) σ post) : Ev mt d pc lc (((0, b) : VV) :: ((0, a) : VV) :: st) σ post := by
  intro p l e R s m args below meth c cells slots Q X A H0 H locs ls hC hR hW hS hl hlo hso
  obtain ⟨hx, hb, hml, hown, hts, hC2⟩ := id hC

  have h_b : ok32 b := hso (0, b) (by simp)
  have h_a : ok32 a := hso (0, a) (by simp)
  have K := k p l e R s m args below meth c cells slots Q X A H0 H locs ls hC hR hW hS hl hlo (by
    intro v hv
    rcases List.mem_cons.mp hv with rfl | hv
    · exact w32_ok _
    · exact hso v (by simp [hv]))
  have E := i32_add a b
  refine lv_iadd hx hb hdg ?_
  have K2 : W p l e R s m args below meth c H locs cells slots Q (F0 m (pc + 1) ls (cv X.2.1 (0, w32 (a + b)) :: st.map (cv X.2.1))) := K
  rw [show cv X.2.1 (0, w32 (a + b)) = .int (i32 (w32 (a + b))) from rfl, ← E] at K2
  exact K2
theorem Ev_isub {mt : Mth} {d pc : Nat} {lc : List (Nat × VV)} {st : List VV} {σ : Sg} {post : PO} {b a : Int} (hdg : decode mt.2.1 pc = .ok (.isub, 1)) (k : Ev mt d (pc + 1) lc (((0, w32 (a - b)) : VV) :: st) σ post) : Ev mt d pc lc (((0, b) : VV) :: ((0, a) : VV) :: st) σ post := by
  intro p l e R s m args below meth c cells slots Q X A H0 H locs ls hC hR hW hS hl hlo hso
  obtain ⟨hx, hb, hml, hown, hts, hC2⟩ := id hC

  have h_b : ok32 b := hso (0, b) (by simp)
  have h_a : ok32 a := hso (0, a) (by simp)
  have K := k p l e R s m args below meth c cells slots Q X A H0 H locs ls hC hR hW hS hl hlo (by
    intro v hv
    rcases List.mem_cons.mp hv with rfl | hv
    · exact w32_ok _
    · exact hso v (by simp [hv]))
  have E := i32_sub a b
  refine lv_isub hx hb hdg ?_
  have K2 : W p l e R s m args below meth c H locs cells slots Q (F0 m (pc + 1) ls (cv X.2.1 (0, w32 (a - b)) :: st.map (cv X.2.1))) := K
  rw [show cv X.2.1 (0, w32 (a - b)) = .int (i32 (w32 (a - b))) from rfl, ← E] at K2
  exact K2
theorem Ev_imul {mt : Mth} {d pc : Nat} {lc : List (Nat × VV)} {st : List VV} {σ : Sg} {post : PO} {b a : Int} (hdg : decode mt.2.1 pc = .ok (.imul, 1)) (k : Ev mt d (pc + 1) lc (((0, w32 (a * b)) : VV) :: st) σ post) : Ev mt d pc lc (((0, b) : VV) :: ((0, a) : VV) :: st) σ post := by
  intro p l e R s m args below meth c cells slots Q X A H0 H locs ls hC hR hW hS hl hlo hso
  obtain ⟨hx, hb, hml, hown, hts, hC2⟩ := id hC

  have h_b : ok32 b := hso (0, b) (by simp)
  have h_a : ok32 a := hso (0, a) (by simp)
  have K := k p l e R s m args below meth c cells slots Q X A H0 H locs ls hC hR hW hS hl hlo (by
    intro v hv
    rcases List.mem_cons.mp hv with rfl | hv
    · exact w32_ok _
    · exact hso v (by simp [hv]))
  have E := i32_mul a b
  refine lv_imul hx hb hdg ?_
  have K2 : W p l e R s m args below meth c H locs cells slots Q (F0 m (pc + 1) ls (cv X.2.1 (0, w32 (a * b)) :: st.map (cv X.2.1))) := K
  rw [show cv X.2.1 (0, w32 (a * b)) = .int (i32 (w32 (a * b))) from rfl, ← E] at K2
  exact K2
theorem Ev_idiv {mt : Mth} {d pc : Nat} {lc : List (Nat × VV)} {st : List VV} {σ : Sg} {post : PO} {b a : Int} (hdg : decode mt.2.1 pc = .ok (.idiv, 1)) (hne : ¬ b = 0) (k : Ev mt d (pc + 1) lc (((0, w32 (a.tdiv b)) : VV) :: st) σ post) : Ev mt d pc lc (((0, b) : VV) :: ((0, a) : VV) :: st) σ post := by
  intro p l e R s m args below meth c cells slots Q X A H0 H locs ls hC hR hW hS hl hlo hso
  obtain ⟨hx, hb, hml, hown, hts, hC2⟩ := id hC

  have h_b : ok32 b := hso (0, b) (by simp)
  have h_a : ok32 a := hso (0, a) (by simp)
  have K := k p l e R s m args below meth c cells slots Q X A H0 H locs ls hC hR hW hS hl hlo (by
    intro v hv
    rcases List.mem_cons.mp hv with rfl | hv
    · exact w32_ok _
    · exact hso v (by simp [hv]))
  have E := i32_div h_a h_b
  refine lv_idiv hx hb hdg (fun q => hne ((i32_ei h_b ok32_0).mp q)) ?_
  have K2 : W p l e R s m args below meth c H locs cells slots Q (F0 m (pc + 1) ls (cv X.2.1 (0, w32 (a.tdiv b)) :: st.map (cv X.2.1))) := K
  rw [show cv X.2.1 (0, w32 (a.tdiv b)) = .int (i32 (w32 (a.tdiv b))) from rfl, ← E] at K2
  exact K2
theorem Ev_irem {mt : Mth} {d pc : Nat} {lc : List (Nat × VV)} {st : List VV} {σ : Sg} {post : PO} {b a : Int} (hdg : decode mt.2.1 pc = .ok (.irem, 1)) (hne : ¬ b = 0) (k : Ev mt d (pc + 1) lc (((0, w32 (a.tmod b)) : VV) :: st) σ post) : Ev mt d pc lc (((0, b) : VV) :: ((0, a) : VV) :: st) σ post := by
  intro p l e R s m args below meth c cells slots Q X A H0 H locs ls hC hR hW hS hl hlo hso
  obtain ⟨hx, hb, hml, hown, hts, hC2⟩ := id hC

  have h_b : ok32 b := hso (0, b) (by simp)
  have h_a : ok32 a := hso (0, a) (by simp)
  have K := k p l e R s m args below meth c cells slots Q X A H0 H locs ls hC hR hW hS hl hlo (by
    intro v hv
    rcases List.mem_cons.mp hv with rfl | hv
    · exact w32_ok _
    · exact hso v (by simp [hv]))
  have E := i32_rem h_a h_b
  refine lv_irem hx hb hdg (fun q => hne ((i32_ei h_b ok32_0).mp q)) ?_
  have K2 : W p l e R s m args below meth c H locs cells slots Q (F0 m (pc + 1) ls (cv X.2.1 (0, w32 (a.tmod b)) :: st.map (cv X.2.1))) := K
  rw [show cv X.2.1 (0, w32 (a.tmod b)) = .int (i32 (w32 (a.tmod b))) from rfl, ← E] at K2
  exact K2
theorem Ev_ladd {mt : Mth} {d pc : Nat} {lc : List (Nat × VV)} {st : List VV} {σ : Sg} {post : PO} {b a : Int} (hdg : decode mt.2.1 pc = .ok (.ladd, 1)) (k : Ev mt d (pc + 1) lc (((1, w64 (a + b)) : VV) :: st) σ post) : Ev mt d pc lc (((1, b) : VV) :: ((1, a) : VV) :: st) σ post := by
  intro p l e R s m args below meth c cells slots Q X A H0 H locs ls hC hR hW hS hl hlo hso
  obtain ⟨hx, hb, hml, hown, hts, hC2⟩ := id hC

  have h_b : ok64 b := hso (1, b) (by simp)
  have h_a : ok64 a := hso (1, a) (by simp)
  have K := k p l e R s m args below meth c cells slots Q X A H0 H locs ls hC hR hW hS hl hlo (by
    intro v hv
    rcases List.mem_cons.mp hv with rfl | hv
    · exact w64_ok _
    · exact hso v (by simp [hv]))
  have E := i64_add a b
  refine lv_ladd hx hb hdg ?_
  have K2 : W p l e R s m args below meth c H locs cells slots Q (F0 m (pc + 1) ls (cv X.2.1 (1, w64 (a + b)) :: st.map (cv X.2.1))) := K
  rw [show cv X.2.1 (1, w64 (a + b)) = .long (i64 (w64 (a + b))) from rfl, ← E] at K2
  exact K2
theorem Ev_lsub {mt : Mth} {d pc : Nat} {lc : List (Nat × VV)} {st : List VV} {σ : Sg} {post : PO} {b a : Int} (hdg : decode mt.2.1 pc = .ok (.lsub, 1)) (k : Ev mt d (pc + 1) lc (((1, w64 (a - b)) : VV) :: st) σ post) : Ev mt d pc lc (((1, b) : VV) :: ((1, a) : VV) :: st) σ post := by
  intro p l e R s m args below meth c cells slots Q X A H0 H locs ls hC hR hW hS hl hlo hso
  obtain ⟨hx, hb, hml, hown, hts, hC2⟩ := id hC

  have h_b : ok64 b := hso (1, b) (by simp)
  have h_a : ok64 a := hso (1, a) (by simp)
  have K := k p l e R s m args below meth c cells slots Q X A H0 H locs ls hC hR hW hS hl hlo (by
    intro v hv
    rcases List.mem_cons.mp hv with rfl | hv
    · exact w64_ok _
    · exact hso v (by simp [hv]))
  have E := i64_sub a b
  refine lv_lsub hx hb hdg ?_
  have K2 : W p l e R s m args below meth c H locs cells slots Q (F0 m (pc + 1) ls (cv X.2.1 (1, w64 (a - b)) :: st.map (cv X.2.1))) := K
  rw [show cv X.2.1 (1, w64 (a - b)) = .long (i64 (w64 (a - b))) from rfl, ← E] at K2
  exact K2
theorem Ev_lmul {mt : Mth} {d pc : Nat} {lc : List (Nat × VV)} {st : List VV} {σ : Sg} {post : PO} {b a : Int} (hdg : decode mt.2.1 pc = .ok (.lmul, 1)) (k : Ev mt d (pc + 1) lc (((1, w64 (a * b)) : VV) :: st) σ post) : Ev mt d pc lc (((1, b) : VV) :: ((1, a) : VV) :: st) σ post := by
  intro p l e R s m args below meth c cells slots Q X A H0 H locs ls hC hR hW hS hl hlo hso
  obtain ⟨hx, hb, hml, hown, hts, hC2⟩ := id hC

  have h_b : ok64 b := hso (1, b) (by simp)
  have h_a : ok64 a := hso (1, a) (by simp)
  have K := k p l e R s m args below meth c cells slots Q X A H0 H locs ls hC hR hW hS hl hlo (by
    intro v hv
    rcases List.mem_cons.mp hv with rfl | hv
    · exact w64_ok _
    · exact hso v (by simp [hv]))
  have E := i64_mul a b
  refine lv_lmul hx hb hdg ?_
  have K2 : W p l e R s m args below meth c H locs cells slots Q (F0 m (pc + 1) ls (cv X.2.1 (1, w64 (a * b)) :: st.map (cv X.2.1))) := K
  rw [show cv X.2.1 (1, w64 (a * b)) = .long (i64 (w64 (a * b))) from rfl, ← E] at K2
  exact K2
theorem Ev_ldiv {mt : Mth} {d pc : Nat} {lc : List (Nat × VV)} {st : List VV} {σ : Sg} {post : PO} {b a : Int} (hdg : decode mt.2.1 pc = .ok (.ldiv, 1)) (hne : ¬ b = 0) (k : Ev mt d (pc + 1) lc (((1, w64 (a.tdiv b)) : VV) :: st) σ post) : Ev mt d pc lc (((1, b) : VV) :: ((1, a) : VV) :: st) σ post := by
  intro p l e R s m args below meth c cells slots Q X A H0 H locs ls hC hR hW hS hl hlo hso
  obtain ⟨hx, hb, hml, hown, hts, hC2⟩ := id hC

  have h_b : ok64 b := hso (1, b) (by simp)
  have h_a : ok64 a := hso (1, a) (by simp)
  have K := k p l e R s m args below meth c cells slots Q X A H0 H locs ls hC hR hW hS hl hlo (by
    intro v hv
    rcases List.mem_cons.mp hv with rfl | hv
    · exact w64_ok _
    · exact hso v (by simp [hv]))
  have E := i64_div h_a h_b
  refine lv_ldiv hx hb hdg (fun q => hne ((i64_ei h_b ok64_0).mp q)) ?_
  have K2 : W p l e R s m args below meth c H locs cells slots Q (F0 m (pc + 1) ls (cv X.2.1 (1, w64 (a.tdiv b)) :: st.map (cv X.2.1))) := K
  rw [show cv X.2.1 (1, w64 (a.tdiv b)) = .long (i64 (w64 (a.tdiv b))) from rfl, ← E] at K2
  exact K2
theorem Ev_lrem {mt : Mth} {d pc : Nat} {lc : List (Nat × VV)} {st : List VV} {σ : Sg} {post : PO} {b a : Int} (hdg : decode mt.2.1 pc = .ok (.lrem, 1)) (hne : ¬ b = 0) (k : Ev mt d (pc + 1) lc (((1, w64 (a.tmod b)) : VV) :: st) σ post) : Ev mt d pc lc (((1, b) : VV) :: ((1, a) : VV) :: st) σ post := by
  intro p l e R s m args below meth c cells slots Q X A H0 H locs ls hC hR hW hS hl hlo hso
  obtain ⟨hx, hb, hml, hown, hts, hC2⟩ := id hC

  have h_b : ok64 b := hso (1, b) (by simp)
  have h_a : ok64 a := hso (1, a) (by simp)
  have K := k p l e R s m args below meth c cells slots Q X A H0 H locs ls hC hR hW hS hl hlo (by
    intro v hv
    rcases List.mem_cons.mp hv with rfl | hv
    · exact w64_ok _
    · exact hso v (by simp [hv]))
  have E := i64_rem h_a h_b
  refine lv_lrem hx hb hdg (fun q => hne ((i64_ei h_b ok64_0).mp q)) ?_
  have K2 : W p l e R s m args below meth c H locs cells slots Q (F0 m (pc + 1) ls (cv X.2.1 (1, w64 (a.tmod b)) :: st.map (cv X.2.1))) := K
  rw [show cv X.2.1 (1, w64 (a.tmod b)) = .long (i64 (w64 (a.tmod b))) from rfl, ← E] at K2
  exact K2
theorem Ev_iand {mt : Mth} {d pc : Nat} {lc : List (Nat × VV)} {st : List VV} {σ : Sg} {post : PO} {b a : Int} (hdg : decode mt.2.1 pc = .ok (.iand, 1)) (k : Ev mt d (pc + 1) lc (((0, iand a b) : VV) :: st) σ post) : Ev mt d pc lc (((0, b) : VV) :: ((0, a) : VV) :: st) σ post := by
  intro p l e R s m args below meth c cells slots Q X A H0 H locs ls hC hR hW hS hl hlo hso
  obtain ⟨hx, hb, hml, hown, hts, hC2⟩ := id hC

  have h_b : ok32 b := hso (0, b) (by simp)
  have h_a : ok32 a := hso (0, a) (by simp)
  have K := k p l e R s m args below meth c cells slots Q X A H0 H locs ls hC hR hW hS hl hlo (by
    intro v hv
    rcases List.mem_cons.mp hv with rfl | hv
    · exact ok32_of _
    · exact hso v (by simp [hv]))
  have E := iand_c a b
  refine lv_iand hx hb hdg ?_
  have K2 : W p l e R s m args below meth c H locs cells slots Q (F0 m (pc + 1) ls (cv X.2.1 (0, iand a b) :: st.map (cv X.2.1))) := K
  rw [show cv X.2.1 (0, iand a b) = .int (i32 (iand a b)) from rfl, ← E] at K2
  exact K2
theorem Ev_ior {mt : Mth} {d pc : Nat} {lc : List (Nat × VV)} {st : List VV} {σ : Sg} {post : PO} {b a : Int} (hdg : decode mt.2.1 pc = .ok (.ior, 1)) (k : Ev mt d (pc + 1) lc (((0, ior a b) : VV) :: st) σ post) : Ev mt d pc lc (((0, b) : VV) :: ((0, a) : VV) :: st) σ post := by
  intro p l e R s m args below meth c cells slots Q X A H0 H locs ls hC hR hW hS hl hlo hso
  obtain ⟨hx, hb, hml, hown, hts, hC2⟩ := id hC

  have h_b : ok32 b := hso (0, b) (by simp)
  have h_a : ok32 a := hso (0, a) (by simp)
  have K := k p l e R s m args below meth c cells slots Q X A H0 H locs ls hC hR hW hS hl hlo (by
    intro v hv
    rcases List.mem_cons.mp hv with rfl | hv
    · exact ok32_of _
    · exact hso v (by simp [hv]))
  have E := ior_c a b
  refine lv_ior hx hb hdg ?_
  have K2 : W p l e R s m args below meth c H locs cells slots Q (F0 m (pc + 1) ls (cv X.2.1 (0, ior a b) :: st.map (cv X.2.1))) := K
  rw [show cv X.2.1 (0, ior a b) = .int (i32 (ior a b)) from rfl, ← E] at K2
  exact K2
theorem Ev_ixor {mt : Mth} {d pc : Nat} {lc : List (Nat × VV)} {st : List VV} {σ : Sg} {post : PO} {b a : Int} (hdg : decode mt.2.1 pc = .ok (.ixor, 1)) (k : Ev mt d (pc + 1) lc (((0, ixor a b) : VV) :: st) σ post) : Ev mt d pc lc (((0, b) : VV) :: ((0, a) : VV) :: st) σ post := by
  intro p l e R s m args below meth c cells slots Q X A H0 H locs ls hC hR hW hS hl hlo hso
  obtain ⟨hx, hb, hml, hown, hts, hC2⟩ := id hC

  have h_b : ok32 b := hso (0, b) (by simp)
  have h_a : ok32 a := hso (0, a) (by simp)
  have K := k p l e R s m args below meth c cells slots Q X A H0 H locs ls hC hR hW hS hl hlo (by
    intro v hv
    rcases List.mem_cons.mp hv with rfl | hv
    · exact ok32_of _
    · exact hso v (by simp [hv]))
  have E := ixor_c a b
  refine lv_ixor hx hb hdg ?_
  have K2 : W p l e R s m args below meth c H locs cells slots Q (F0 m (pc + 1) ls (cv X.2.1 (0, ixor a b) :: st.map (cv X.2.1))) := K
  rw [show cv X.2.1 (0, ixor a b) = .int (i32 (ixor a b)) from rfl, ← E] at K2
  exact K2
theorem Ev_land {mt : Mth} {d pc : Nat} {lc : List (Nat × VV)} {st : List VV} {σ : Sg} {post : PO} {b a : Int} (hdg : decode mt.2.1 pc = .ok (.land, 1)) (k : Ev mt d (pc + 1) lc (((1, land a b) : VV) :: st) σ post) : Ev mt d pc lc (((1, b) : VV) :: ((1, a) : VV) :: st) σ post := by
  intro p l e R s m args below meth c cells slots Q X A H0 H locs ls hC hR hW hS hl hlo hso
  obtain ⟨hx, hb, hml, hown, hts, hC2⟩ := id hC

  have h_b : ok64 b := hso (1, b) (by simp)
  have h_a : ok64 a := hso (1, a) (by simp)
  have K := k p l e R s m args below meth c cells slots Q X A H0 H locs ls hC hR hW hS hl hlo (by
    intro v hv
    rcases List.mem_cons.mp hv with rfl | hv
    · exact ok64_of _
    · exact hso v (by simp [hv]))
  have E := land_c a b
  refine lv_land hx hb hdg ?_
  have K2 : W p l e R s m args below meth c H locs cells slots Q (F0 m (pc + 1) ls (cv X.2.1 (1, land a b) :: st.map (cv X.2.1))) := K
  rw [show cv X.2.1 (1, land a b) = .long (i64 (land a b)) from rfl, ← E] at K2
  exact K2
theorem Ev_lor {mt : Mth} {d pc : Nat} {lc : List (Nat × VV)} {st : List VV} {σ : Sg} {post : PO} {b a : Int} (hdg : decode mt.2.1 pc = .ok (.lor, 1)) (k : Ev mt d (pc + 1) lc (((1, lor a b) : VV) :: st) σ post) : Ev mt d pc lc (((1, b) : VV) :: ((1, a) : VV) :: st) σ post := by
  intro p l e R s m args below meth c cells slots Q X A H0 H locs ls hC hR hW hS hl hlo hso
  obtain ⟨hx, hb, hml, hown, hts, hC2⟩ := id hC

  have h_b : ok64 b := hso (1, b) (by simp)
  have h_a : ok64 a := hso (1, a) (by simp)
  have K := k p l e R s m args below meth c cells slots Q X A H0 H locs ls hC hR hW hS hl hlo (by
    intro v hv
    rcases List.mem_cons.mp hv with rfl | hv
    · exact ok64_of _
    · exact hso v (by simp [hv]))
  have E := lor_c a b
  refine lv_lor hx hb hdg ?_
  have K2 : W p l e R s m args below meth c H locs cells slots Q (F0 m (pc + 1) ls (cv X.2.1 (1, lor a b) :: st.map (cv X.2.1))) := K
  rw [show cv X.2.1 (1, lor a b) = .long (i64 (lor a b)) from rfl, ← E] at K2
  exact K2
theorem Ev_ishl {mt : Mth} {d pc : Nat} {lc : List (Nat × VV)} {st : List VV} {σ : Sg} {post : PO} {b a : Int} (hdg : decode mt.2.1 pc = .ok (.ishl, 1)) (k : Ev mt d (pc + 1) lc (((0, ishl a b) : VV) :: st) σ post) : Ev mt d pc lc (((0, b) : VV) :: ((0, a) : VV) :: st) σ post := by
  intro p l e R s m args below meth c cells slots Q X A H0 H locs ls hC hR hW hS hl hlo hso
  obtain ⟨hx, hb, hml, hown, hts, hC2⟩ := id hC

  have h_b : ok32 b := hso (0, b) (by simp)
  have h_a : ok32 a := hso (0, a) (by simp)
  have K := k p l e R s m args below meth c cells slots Q X A H0 H locs ls hC hR hW hS hl hlo (by
    intro v hv
    rcases List.mem_cons.mp hv with rfl | hv
    · exact ok32_of _
    · exact hso v (by simp [hv]))
  have E := ishl_c a b
  refine lv_ishl hx hb hdg ?_
  have K2 : W p l e R s m args below meth c H locs cells slots Q (F0 m (pc + 1) ls (cv X.2.1 (0, ishl a b) :: st.map (cv X.2.1))) := K
  rw [show cv X.2.1 (0, ishl a b) = .int (i32 (ishl a b)) from rfl, ← E] at K2
  exact K2
theorem Ev_ishr {mt : Mth} {d pc : Nat} {lc : List (Nat × VV)} {st : List VV} {σ : Sg} {post : PO} {b a : Int} (hdg : decode mt.2.1 pc = .ok (.ishr, 1)) (k : Ev mt d (pc + 1) lc (((0, ishr a b) : VV) :: st) σ post) : Ev mt d pc lc (((0, b) : VV) :: ((0, a) : VV) :: st) σ post := by
  intro p l e R s m args below meth c cells slots Q X A H0 H locs ls hC hR hW hS hl hlo hso
  obtain ⟨hx, hb, hml, hown, hts, hC2⟩ := id hC

  have h_b : ok32 b := hso (0, b) (by simp)
  have h_a : ok32 a := hso (0, a) (by simp)
  have K := k p l e R s m args below meth c cells slots Q X A H0 H locs ls hC hR hW hS hl hlo (by
    intro v hv
    rcases List.mem_cons.mp hv with rfl | hv
    · exact ok32_of _
    · exact hso v (by simp [hv]))
  have E := ishr_c a b
  refine lv_ishr hx hb hdg ?_
  have K2 : W p l e R s m args below meth c H locs cells slots Q (F0 m (pc + 1) ls (cv X.2.1 (0, ishr a b) :: st.map (cv X.2.1))) := K
  rw [show cv X.2.1 (0, ishr a b) = .int (i32 (ishr a b)) from rfl, ← E] at K2
  exact K2
theorem Ev_iushr {mt : Mth} {d pc : Nat} {lc : List (Nat × VV)} {st : List VV} {σ : Sg} {post : PO} {b a : Int} (hdg : decode mt.2.1 pc = .ok (.iushr, 1)) (k : Ev mt d (pc + 1) lc (((0, iushr a b) : VV) :: st) σ post) : Ev mt d pc lc (((0, b) : VV) :: ((0, a) : VV) :: st) σ post := by
  intro p l e R s m args below meth c cells slots Q X A H0 H locs ls hC hR hW hS hl hlo hso
  obtain ⟨hx, hb, hml, hown, hts, hC2⟩ := id hC

  have h_b : ok32 b := hso (0, b) (by simp)
  have h_a : ok32 a := hso (0, a) (by simp)
  have K := k p l e R s m args below meth c cells slots Q X A H0 H locs ls hC hR hW hS hl hlo (by
    intro v hv
    rcases List.mem_cons.mp hv with rfl | hv
    · exact ok32_of _
    · exact hso v (by simp [hv]))
  have E := True.intro
  refine lv_iushr hx hb hdg (hv := (Int32.ofInt_toInt _).symm) ?_
  have K2 : W p l e R s m args below meth c H locs cells slots Q (F0 m (pc + 1) ls (cv X.2.1 (0, iushr a b) :: st.map (cv X.2.1))) := K
  exact K2
theorem Ev_lshl {mt : Mth} {d pc : Nat} {lc : List (Nat × VV)} {st : List VV} {σ : Sg} {post : PO} {b a : Int} (hdg : decode mt.2.1 pc = .ok (.lshl, 1)) (k : Ev mt d (pc + 1) lc (((1, lshl a b) : VV) :: st) σ post) : Ev mt d pc lc (((0, b) : VV) :: ((1, a) : VV) :: st) σ post := by
  intro p l e R s m args below meth c cells slots Q X A H0 H locs ls hC hR hW hS hl hlo hso
  obtain ⟨hx, hb, hml, hown, hts, hC2⟩ := id hC

  have h_b : ok32 b := hso (0, b) (by simp)
  have h_a : ok64 a := hso (1, a) (by simp)
  have K := k p l e R s m args below meth c cells slots Q X A H0 H locs ls hC hR hW hS hl hlo (by
    intro v hv
    rcases List.mem_cons.mp hv with rfl | hv
    · exact ok64_of _
    · exact hso v (by simp [hv]))
  have E := True.intro
  refine lv_lshl hx hb hdg (hv := (Int64.ofInt_toInt _).symm) ?_
  have K2 : W p l e R s m args below meth c H locs cells slots Q (F0 m (pc + 1) ls (cv X.2.1 (1, lshl a b) :: st.map (cv X.2.1))) := K
  exact K2
theorem Ev_lshr {mt : Mth} {d pc : Nat} {lc : List (Nat × VV)} {st : List VV} {σ : Sg} {post : PO} {b a : Int} (hdg : decode mt.2.1 pc = .ok (.lshr, 1)) (k : Ev mt d (pc + 1) lc (((1, lshr a b) : VV) :: st) σ post) : Ev mt d pc lc (((0, b) : VV) :: ((1, a) : VV) :: st) σ post := by
  intro p l e R s m args below meth c cells slots Q X A H0 H locs ls hC hR hW hS hl hlo hso
  obtain ⟨hx, hb, hml, hown, hts, hC2⟩ := id hC

  have h_b : ok32 b := hso (0, b) (by simp)
  have h_a : ok64 a := hso (1, a) (by simp)
  have K := k p l e R s m args below meth c cells slots Q X A H0 H locs ls hC hR hW hS hl hlo (by
    intro v hv
    rcases List.mem_cons.mp hv with rfl | hv
    · exact ok64_of _
    · exact hso v (by simp [hv]))
  have E := True.intro
  refine lv_lshr hx hb hdg (hv := (Int64.ofInt_toInt _).symm) ?_
  have K2 : W p l e R s m args below meth c H locs cells slots Q (F0 m (pc + 1) ls (cv X.2.1 (1, lshr a b) :: st.map (cv X.2.1))) := K
  exact K2
theorem Ev_lushr {mt : Mth} {d pc : Nat} {lc : List (Nat × VV)} {st : List VV} {σ : Sg} {post : PO} {b a : Int} (hdg : decode mt.2.1 pc = .ok (.lushr, 1)) (k : Ev mt d (pc + 1) lc (((1, lushr a b) : VV) :: st) σ post) : Ev mt d pc lc (((0, b) : VV) :: ((1, a) : VV) :: st) σ post := by
  intro p l e R s m args below meth c cells slots Q X A H0 H locs ls hC hR hW hS hl hlo hso
  obtain ⟨hx, hb, hml, hown, hts, hC2⟩ := id hC

  have h_b : ok32 b := hso (0, b) (by simp)
  have h_a : ok64 a := hso (1, a) (by simp)
  have K := k p l e R s m args below meth c cells slots Q X A H0 H locs ls hC hR hW hS hl hlo (by
    intro v hv
    rcases List.mem_cons.mp hv with rfl | hv
    · exact ok64_of _
    · exact hso v (by simp [hv]))
  have E := True.intro
  refine lv_lushr hx hb hdg (hv := (Int64.ofInt_toInt _).symm) ?_
  have K2 : W p l e R s m args below meth c H locs cells slots Q (F0 m (pc + 1) ls (cv X.2.1 (1, lushr a b) :: st.map (cv X.2.1))) := K
  exact K2
theorem Ev_ineg {mt : Mth} {d pc : Nat} {lc : List (Nat × VV)} {st : List VV} {σ : Sg} {post : PO} {a : Int} (hdg : decode mt.2.1 pc = .ok (.ineg, 1)) (k : Ev mt d (pc + 1) lc (((0, w32 (-a)) : VV) :: st) σ post) : Ev mt d pc lc (((0, a) : VV) :: st) σ post := by
  intro p l e R s m args below meth c cells slots Q X A H0 H locs ls hC hR hW hS hl hlo hso
  obtain ⟨hx, hb, hml, hown, hts, hC2⟩ := id hC

  have h_a : ok32 a := hso (0, a) (by simp)
  have K := k p l e R s m args below meth c cells slots Q X A H0 H locs ls hC hR hW hS hl hlo (by
    intro v hv
    rcases List.mem_cons.mp hv with rfl | hv
    · exact w32_ok _
    · exact hso v (by simp [hv]))
  have E := i32_neg a
  refine lv_ineg hx hb hdg ?_
  have K2 : W p l e R s m args below meth c H locs cells slots Q (F0 m (pc + 1) ls (cv X.2.1 (0, w32 (-a)) :: st.map (cv X.2.1))) := K
  rw [show cv X.2.1 (0, w32 (-a)) = .int (i32 (w32 (-a))) from rfl, ← E] at K2
  exact K2
theorem Ev_lneg {mt : Mth} {d pc : Nat} {lc : List (Nat × VV)} {st : List VV} {σ : Sg} {post : PO} {a : Int} (hdg : decode mt.2.1 pc = .ok (.lneg, 1)) (k : Ev mt d (pc + 1) lc (((1, w64 (-a)) : VV) :: st) σ post) : Ev mt d pc lc (((1, a) : VV) :: st) σ post := by
  intro p l e R s m args below meth c cells slots Q X A H0 H locs ls hC hR hW hS hl hlo hso
  obtain ⟨hx, hb, hml, hown, hts, hC2⟩ := id hC

  have h_a : ok64 a := hso (1, a) (by simp)
  have K := k p l e R s m args below meth c cells slots Q X A H0 H locs ls hC hR hW hS hl hlo (by
    intro v hv
    rcases List.mem_cons.mp hv with rfl | hv
    · exact w64_ok _
    · exact hso v (by simp [hv]))
  have E := i64_neg a
  refine lv_lneg hx hb hdg ?_
  have K2 : W p l e R s m args below meth c H locs cells slots Q (F0 m (pc + 1) ls (cv X.2.1 (1, w64 (-a)) :: st.map (cv X.2.1))) := K
  rw [show cv X.2.1 (1, w64 (-a)) = .long (i64 (w64 (-a))) from rfl, ← E] at K2
  exact K2
theorem Ev_i2l {mt : Mth} {d pc : Nat} {lc : List (Nat × VV)} {st : List VV} {σ : Sg} {post : PO} {a : Int} (hdg : decode mt.2.1 pc = .ok (.i2l, 1)) (k : Ev mt d (pc + 1) lc (((1, a) : VV) :: st) σ post) : Ev mt d pc lc (((0, a) : VV) :: st) σ post := by
  intro p l e R s m args below meth c cells slots Q X A H0 H locs ls hC hR hW hS hl hlo hso
  obtain ⟨hx, hb, hml, hown, hts, hC2⟩ := id hC

  have h_a : ok32 a := hso (0, a) (by simp)
  have K := k p l e R s m args below meth c cells slots Q X A H0 H locs ls hC hR hW hS hl hlo (by
    intro v hv
    rcases List.mem_cons.mp hv with rfl | hv
    · exact ok32_64 h_a
    · exact hso v (by simp [hv]))
  exact lv_i2l hx hb hdg (i32_i2l h_a) K
theorem Ev_l2i {mt : Mth} {d pc : Nat} {lc : List (Nat × VV)} {st : List VV} {σ : Sg} {post : PO} {a : Int} (hdg : decode mt.2.1 pc = .ok (.l2i, 1)) (k : Ev mt d (pc + 1) lc (((0, w32 a) : VV) :: st) σ post) : Ev mt d pc lc (((1, a) : VV) :: st) σ post := by
  intro p l e R s m args below meth c cells slots Q X A H0 H locs ls hC hR hW hS hl hlo hso
  obtain ⟨hx, hb, hml, hown, hts, hC2⟩ := id hC

  have h_a : ok64 a := hso (1, a) (by simp)
  have K := k p l e R s m args below meth c cells slots Q X A H0 H locs ls hC hR hW hS hl hlo (by
    intro v hv
    rcases List.mem_cons.mp hv with rfl | hv
    · exact w32_ok _
    · exact hso v (by simp [hv]))
  exact lv_l2i hx hb hdg (i64_l2i h_a) K
theorem Ev_i2b {mt : Mth} {d pc : Nat} {lc : List (Nat × VV)} {st : List VV} {σ : Sg} {post : PO} {a : Int} (hdg : decode mt.2.1 pc = .ok (.i2b, 1)) (k : Ev mt d (pc + 1) lc (((0, w8 a) : VV) :: st) σ post) : Ev mt d pc lc (((0, a) : VV) :: st) σ post := by
  intro p l e R s m args below meth c cells slots Q X A H0 H locs ls hC hR hW hS hl hlo hso
  obtain ⟨hx, hb, hml, hown, hts, hC2⟩ := id hC

  have h_a : ok32 a := hso (0, a) (by simp)
  have K := k p l e R s m args below meth c cells slots Q X A H0 H locs ls hC hR hW hS hl hlo (by
    intro v hv
    rcases List.mem_cons.mp hv with rfl | hv
    · exact w8_ok _
    · exact hso v (by simp [hv]))
  exact lv_i2b hx hb hdg (i32_i2b h_a) K
theorem Ev_lcmp {mt : Mth} {d pc : Nat} {lc : List (Nat × VV)} {st : List VV} {σ : Sg} {post : PO} {b a : Int} (hdg : decode mt.2.1 pc = .ok (.lcmp, 1)) (k : Ev mt d (pc + 1) lc (((0, lcmp a b) : VV) :: st) σ post) : Ev mt d pc lc (((1, b) : VV) :: ((1, a) : VV) :: st) σ post := by
  intro p l e R s m args below meth c cells slots Q X A H0 H locs ls hC hR hW hS hl hlo hso
  obtain ⟨hx, hb, hml, hown, hts, hC2⟩ := id hC

  have h_b : ok64 b := hso (1, b) (by simp)
  have h_a : ok64 a := hso (1, a) (by simp)
  have K := k p l e R s m args below meth c cells slots Q X A H0 H locs ls hC hR hW hS hl hlo (by
    intro v hv
    rcases List.mem_cons.mp hv with rfl | hv
    · exact lcmp_ok _ _
    · exact hso v (by simp [hv]))
  have E := lcmp_c h_a h_b
  refine W.lcmp hx hb hdg ?_
  rw [E]
  exact K
theorem Ev_iconst {mt : Mth} {d pc : Nat} {lc : List (Nat × VV)} {st : List VV} {σ : Sg} {post : PO} {n v : Int} (hdg : decode mt.2.1 pc = .ok (.iconst n, 1)) (hvv : n = v) (ho : ok32 v) (k : Ev mt d (pc + 1) lc (((0, v) : VV) :: st) σ post) : Ev mt d pc lc (st) σ post := by
  intro p l e R s m args below meth c cells slots Q X A H0 H locs ls hC hR hW hS hl hlo hso
  obtain ⟨hx, hb, hml, hown, hts, hC2⟩ := id hC

  have K := k p l e R s m args below meth c cells slots Q X A H0 H locs ls hC hR hW hS hl hlo (by
    intro v hv
    rcases List.mem_cons.mp hv with rfl | hv
    · exact ho
    · exact hso v (by simp [hv]))
  subst hvv
  exact lv_iconst hx hb hdg rfl K
theorem Ev_bipush {mt : Mth} {d pc : Nat} {lc : List (Nat × VV)} {st : List VV} {σ : Sg} {post : PO} {n v : Int} (hdg : decode mt.2.1 pc = .ok (.bipush n, 2)) (hvv : (Int8.ofInt n).toInt32.toInt = v) (k : Ev mt d (pc + 2) lc (((0, v) : VV) :: st) σ post) : Ev mt d pc lc (st) σ post := by
  intro p l e R s m args below meth c cells slots Q X A H0 H locs ls hC hR hW hS hl hlo hso
  obtain ⟨hx, hb, hml, hown, hts, hC2⟩ := id hC

  have K := k p l e R s m args below meth c cells slots Q X A H0 H locs ls hC hR hW hS hl hlo (by
    intro v hv
    rcases List.mem_cons.mp hv with rfl | hv
    · exact hvv ▸ ok32_of _
    · exact hso v (by simp [hv]))
  subst hvv
  exact lv_bipush hx hb hdg (Int32.ofInt_toInt _).symm K
theorem Ev_sipush {mt : Mth} {d pc : Nat} {lc : List (Nat × VV)} {st : List VV} {σ : Sg} {post : PO} {n v : Int} (hdg : decode mt.2.1 pc = .ok (.sipush n, 3)) (hvv : (Int16.ofInt n).toInt32.toInt = v) (k : Ev mt d (pc + 3) lc (((0, v) : VV) :: st) σ post) : Ev mt d pc lc (st) σ post := by
  intro p l e R s m args below meth c cells slots Q X A H0 H locs ls hC hR hW hS hl hlo hso
  obtain ⟨hx, hb, hml, hown, hts, hC2⟩ := id hC

  have K := k p l e R s m args below meth c cells slots Q X A H0 H locs ls hC hR hW hS hl hlo (by
    intro v hv
    rcases List.mem_cons.mp hv with rfl | hv
    · exact hvv ▸ ok32_of _
    · exact hso v (by simp [hv]))
  subst hvv
  exact lv_sipush hx hb hdg (Int32.ofInt_toInt _).symm K
theorem Ev_lconst {mt : Mth} {d pc : Nat} {lc : List (Nat × VV)} {st : List VV} {σ : Sg} {post : PO} {n : Fin 2} {v : Int} (hdg : decode mt.2.1 pc = .ok (.lconst n, 1)) (hvv : (Int64.ofNat (n : Nat)).toInt = v) (k : Ev mt d (pc + 1) lc (((1, v) : VV) :: st) σ post) : Ev mt d pc lc (st) σ post := by
  intro p l e R s m args below meth c cells slots Q X A H0 H locs ls hC hR hW hS hl hlo hso
  obtain ⟨hx, hb, hml, hown, hts, hC2⟩ := id hC

  have K := k p l e R s m args below meth c cells slots Q X A H0 H locs ls hC hR hW hS hl hlo (by
    intro v hv
    rcases List.mem_cons.mp hv with rfl | hv
    · exact hvv ▸ ok64_of _
    · exact hso v (by simp [hv]))
  subst hvv
  exact lv_lconst hx hb hdg (Int64.ofInt_toInt _).symm K
theorem Ev_ldcw {mt : Mth} {d pc : Nat} {lc : List (Nat × VV)} {st : List VV} {σ : Sg} {post : PO} {n : Nat} {x : Int32} {v : Int} (hdg : decode mt.2.1 pc = .ok (.ldc_w n, 3)) (hq : Jvm.Cond.constant mt.1.cls n x ∈ tbG) (hvv : x.toInt = v) (k : Ev mt d (pc + 3) lc (((0, v) : VV) :: st) σ post) : Ev mt d pc lc (st) σ post := by
  intro p l e R s m args below meth c cells slots Q X A H0 H locs ls hC hR hW hS hl hlo hso
  obtain ⟨hx, hb, hml, hown, hts, hC2⟩ := id hC

  have K := k p l e R s m args below meth c cells slots Q X A H0 H locs ls hC hR hW hS hl hlo (by
    intro v hv
    rcases List.mem_cons.mp hv with rfl | hv
    · exact hvv ▸ ok32_of _
    · exact hso v (by simp [hv]))
  subst hvv
  refine lv_ldcw hx hb hown (hts _ hq) hdg ?_
  have K2 : W p l e R s m args below meth c H locs cells slots Q (F0 m (pc + 3) ls (.int (Int32.ofInt x.toInt) :: st.map (cv X.2.1))) := K
  rw [Int32.ofInt_toInt] at K2
  exact K2
theorem Ev_ldc2 {mt : Mth} {d pc : Nat} {lc : List (Nat × VV)} {st : List VV} {σ : Sg} {post : PO} {n : Nat} {x : Int64} {v : Int} (hdg : decode mt.2.1 pc = .ok (.ldc2_w n, 3)) (hq : Jvm.Cond.constantLong mt.1.cls n x ∈ tbG) (hvv : x.toInt = v) (k : Ev mt d (pc + 3) lc (((1, v) : VV) :: st) σ post) : Ev mt d pc lc (st) σ post := by
  intro p l e R s m args below meth c cells slots Q X A H0 H locs ls hC hR hW hS hl hlo hso
  obtain ⟨hx, hb, hml, hown, hts, hC2⟩ := id hC

  have K := k p l e R s m args below meth c cells slots Q X A H0 H locs ls hC hR hW hS hl hlo (by
    intro v hv
    rcases List.mem_cons.mp hv with rfl | hv
    · exact hvv ▸ ok64_of _
    · exact hso v (by simp [hv]))
  subst hvv
  refine lv_ldc2 hx hb hown (hts _ hq) hdg ?_
  have K2 : W p l e R s m args below meth c H locs cells slots Q (F0 m (pc + 3) ls (.long (Int64.ofInt x.toInt) :: st.map (cv X.2.1))) := K
  rw [Int64.ofInt_toInt] at K2
  exact K2
theorem Ev_iload_n {mt : Mth} {d pc : Nat} {lc : List (Nat × VV)} {st : List VV} {σ : Sg} {post : PO} {i : Fin 4} {v : Int} (hdg : decode mt.2.1 pc = .ok (.iload_n i, 1)) (q : Nat) (hq : lc[q]? = some ((i : Nat), ((0, v) : VV))) (k : Ev mt d (pc + 1) lc (((0, v) : VV) :: st) σ post) : Ev mt d pc lc st σ post := by
  intro p l e R s m args below meth c cells slots Q X A H0 H locs ls hC hR hW hS hl hlo hso
  obtain ⟨hx, hb, hml, hown, hts, hC2⟩ := id hC

  have hv := hlo _ (List.mem_of_getElem? hq)
  have K := k p l e R s m args below meth c cells slots Q X A H0 H locs ls hC hR hW hS hl hlo (by
    intro w hw
    rcases List.mem_cons.mp hw with rfl | hw
    · exact hv
    · exact hso w hw)
  exact lv_iload_n hx hb hdg rfl (lv_at hl q (by rw [List.getElem?_map, hq]; rfl)) K
theorem Ev_iload {mt : Mth} {d pc : Nat} {lc : List (Nat × VV)} {st : List VV} {σ : Sg} {post : PO} {i : Nat} {v : Int} (hdg : decode mt.2.1 pc = .ok (.iload i, 2)) (q : Nat) (hq : lc[q]? = some (i, ((0, v) : VV))) (k : Ev mt d (pc + 2) lc (((0, v) : VV) :: st) σ post) : Ev mt d pc lc st σ post := by
  intro p l e R s m args below meth c cells slots Q X A H0 H locs ls hC hR hW hS hl hlo hso
  obtain ⟨hx, hb, hml, hown, hts, hC2⟩ := id hC

  have hv := hlo _ (List.mem_of_getElem? hq)
  have K := k p l e R s m args below meth c cells slots Q X A H0 H locs ls hC hR hW hS hl hlo (by
    intro w hw
    rcases List.mem_cons.mp hw with rfl | hw
    · exact hv
    · exact hso w hw)
  exact lv_iload hx hb hdg (lv_at hl q (by rw [List.getElem?_map, hq]; rfl)) K
theorem Ev_lload_n {mt : Mth} {d pc : Nat} {lc : List (Nat × VV)} {st : List VV} {σ : Sg} {post : PO} {i : Fin 4} {v : Int} (hdg : decode mt.2.1 pc = .ok (.lload_n i, 1)) (q : Nat) (hq : lc[q]? = some ((i : Nat), ((1, v) : VV))) (k : Ev mt d (pc + 1) lc (((1, v) : VV) :: st) σ post) : Ev mt d pc lc st σ post := by
  intro p l e R s m args below meth c cells slots Q X A H0 H locs ls hC hR hW hS hl hlo hso
  obtain ⟨hx, hb, hml, hown, hts, hC2⟩ := id hC

  have hv := hlo _ (List.mem_of_getElem? hq)
  have K := k p l e R s m args below meth c cells slots Q X A H0 H locs ls hC hR hW hS hl hlo (by
    intro w hw
    rcases List.mem_cons.mp hw with rfl | hw
    · exact hv
    · exact hso w hw)
  exact lv_lload_n hx hb hdg rfl (lv_at hl q (by rw [List.getElem?_map, hq]; rfl)) K
theorem Ev_lload {mt : Mth} {d pc : Nat} {lc : List (Nat × VV)} {st : List VV} {σ : Sg} {post : PO} {i : Nat} {v : Int} (hdg : decode mt.2.1 pc = .ok (.lload i, 2)) (q : Nat) (hq : lc[q]? = some (i, ((1, v) : VV))) (k : Ev mt d (pc + 2) lc (((1, v) : VV) :: st) σ post) : Ev mt d pc lc st σ post := by
  intro p l e R s m args below meth c cells slots Q X A H0 H locs ls hC hR hW hS hl hlo hso
  obtain ⟨hx, hb, hml, hown, hts, hC2⟩ := id hC

  have hv := hlo _ (List.mem_of_getElem? hq)
  have K := k p l e R s m args below meth c cells slots Q X A H0 H locs ls hC hR hW hS hl hlo (by
    intro w hw
    rcases List.mem_cons.mp hw with rfl | hw
    · exact hv
    · exact hso w hw)
  exact lv_lload hx hb hdg (lv_at hl q (by rw [List.getElem?_map, hq]; rfl)) K
theorem Ev_aload_n {mt : Mth} {d pc : Nat} {lc : List (Nat × VV)} {st : List VV} {σ : Sg} {post : PO} {i : Fin 4} {v : Int} (hdg : decode mt.2.1 pc = .ok (.aload_n i, 1)) (q : Nat) (hq : lc[q]? = some ((i : Nat), ((2, v) : VV))) (k : Ev mt d (pc + 1) lc (((2, v) : VV) :: st) σ post) : Ev mt d pc lc st σ post := by
  intro p l e R s m args below meth c cells slots Q X A H0 H locs ls hC hR hW hS hl hlo hso
  obtain ⟨hx, hb, hml, hown, hts, hC2⟩ := id hC

  have hv := hlo _ (List.mem_of_getElem? hq)
  have K := k p l e R s m args below meth c cells slots Q X A H0 H locs ls hC hR hW hS hl hlo (by
    intro w hw
    rcases List.mem_cons.mp hw with rfl | hw
    · exact hv
    · exact hso w hw)
  exact lv_aload_n hx hb hdg rfl (lv_at hl q (by rw [List.getElem?_map, hq]; rfl)) K
theorem Ev_aload {mt : Mth} {d pc : Nat} {lc : List (Nat × VV)} {st : List VV} {σ : Sg} {post : PO} {i : Nat} {v : Int} (hdg : decode mt.2.1 pc = .ok (.aload i, 2)) (q : Nat) (hq : lc[q]? = some (i, ((2, v) : VV))) (k : Ev mt d (pc + 2) lc (((2, v) : VV) :: st) σ post) : Ev mt d pc lc st σ post := by
  intro p l e R s m args below meth c cells slots Q X A H0 H locs ls hC hR hW hS hl hlo hso
  obtain ⟨hx, hb, hml, hown, hts, hC2⟩ := id hC

  have hv := hlo _ (List.mem_of_getElem? hq)
  have K := k p l e R s m args below meth c cells slots Q X A H0 H locs ls hC hR hW hS hl hlo (by
    intro w hw
    rcases List.mem_cons.mp hw with rfl | hw
    · exact hv
    · exact hso w hw)
  exact lv_aload hx hb hdg (lv_at hl q (by rw [List.getElem?_map, hq]; rfl)) K
theorem Ev_istore_n {mt : Mth} {d pc : Nat} {lc lc2 : List (Nat × VV)} {st : List VV} {σ : Sg} {post : PO} {i : Fin 4} {v : Int} (hdg : decode mt.2.1 pc = .ok (.istore_n i, 1)) (hn : (i : Nat) < mt.2.2.1) (hl2 : ((i : Nat), ((0, v) : VV)) :: lc.filter (fun q => !(q.1 == (i : Nat)) && !(q.1 + 1 == (i : Nat) && q.2.1 == 1)) = lc2) (k : Ev mt d (pc + 1) lc2 st σ post) : Ev mt d pc lc (((0, v) : VV) :: st) σ post := by
  intro p l e R s m args below meth c cells slots Q X A H0 H locs ls hC hR hW hS hl hlo hso
  obtain ⟨hx, hb, hml, hown, hts, hC2⟩ := id hC

  subst hl2
  refine lv_istore_n (lv' := (((i : Nat), ((0, v) : VV)) :: lc.filter (fun q => !(q.1 == (i : Nat)) && !(q.1 + 1 == (i : Nat) && q.2.1 == 1))).map (fun q => (q.1, cv X.2.1 q.2))) hx hb hdg rfl hl hn ?_ (fun ls2 hl3 => ?_)
  · rw [List.map_cons, List.filter_map]
    refine congrArg (fun t => _ :: t) (congrArg (List.map _) (List.filter_congr (fun q _ => ?_)))
    simp only [Function.comp, cat2]
  · exact k p l e R s m args below meth c cells slots Q X A H0 H locs ls2 hC hR hW hS hl3 (by
      intro q hq
      rcases List.mem_cons.mp hq with rfl | hq
      · exact hso _ List.mem_cons_self
      · exact hlo q (List.mem_filter.mp hq).1) (fun w hw => hso w (List.mem_cons_of_mem _ hw))
theorem Ev_istore {mt : Mth} {d pc : Nat} {lc lc2 : List (Nat × VV)} {st : List VV} {σ : Sg} {post : PO} {i : Nat} {v : Int} (hdg : decode mt.2.1 pc = .ok (.istore i, 2)) (hn : i < mt.2.2.1) (hl2 : (i, ((0, v) : VV)) :: lc.filter (fun q => !(q.1 == i) && !(q.1 + 1 == i && q.2.1 == 1)) = lc2) (k : Ev mt d (pc + 2) lc2 st σ post) : Ev mt d pc lc (((0, v) : VV) :: st) σ post := by
  intro p l e R s m args below meth c cells slots Q X A H0 H locs ls hC hR hW hS hl hlo hso
  obtain ⟨hx, hb, hml, hown, hts, hC2⟩ := id hC

  subst hl2
  refine lv_istore (lv' := ((i, ((0, v) : VV)) :: lc.filter (fun q => !(q.1 == i) && !(q.1 + 1 == i && q.2.1 == 1))).map (fun q => (q.1, cv X.2.1 q.2))) hx hb hdg hl hn ?_ (fun ls2 hl3 => ?_)
  · rw [List.map_cons, List.filter_map]
    refine congrArg (fun t => _ :: t) (congrArg (List.map _) (List.filter_congr (fun q _ => ?_)))
    simp only [Function.comp, cat2]
  · exact k p l e R s m args below meth c cells slots Q X A H0 H locs ls2 hC hR hW hS hl3 (by
      intro q hq
      rcases List.mem_cons.mp hq with rfl | hq
      · exact hso _ List.mem_cons_self
      · exact hlo q (List.mem_filter.mp hq).1) (fun w hw => hso w (List.mem_cons_of_mem _ hw))
theorem Ev_lstore_n {mt : Mth} {d pc : Nat} {lc lc2 : List (Nat × VV)} {st : List VV} {σ : Sg} {post : PO} {i : Fin 4} {v : Int} (hdg : decode mt.2.1 pc = .ok (.lstore_n i, 1)) (hn : (i : Nat) + 1 < mt.2.2.1) (hl2 : ((i : Nat), ((1, v) : VV)) :: lc.filter (fun q => !(q.1 == (i : Nat)) && (!(q.1 == (i : Nat) + 1) && !(q.1 + 1 == (i : Nat) && q.2.1 == 1))) = lc2) (k : Ev mt d (pc + 1) lc2 st σ post) : Ev mt d pc lc (((1, v) : VV) :: st) σ post := by
  intro p l e R s m args below meth c cells slots Q X A H0 H locs ls hC hR hW hS hl hlo hso
  obtain ⟨hx, hb, hml, hown, hts, hC2⟩ := id hC

  subst hl2
  refine lv_lstore_n (lv' := (((i : Nat), ((1, v) : VV)) :: lc.filter (fun q => !(q.1 == (i : Nat)) && (!(q.1 == (i : Nat) + 1) && !(q.1 + 1 == (i : Nat) && q.2.1 == 1)))).map (fun q => (q.1, cv X.2.1 q.2))) hx hb hdg rfl hl hn ?_ (fun ls2 hl3 => ?_)
  · rw [List.map_cons, List.filter_map]
    refine congrArg (fun t => _ :: t) (congrArg (List.map _) (List.filter_congr (fun q _ => ?_)))
    simp only [Function.comp, cat2]
  · exact k p l e R s m args below meth c cells slots Q X A H0 H locs ls2 hC hR hW hS hl3 (by
      intro q hq
      rcases List.mem_cons.mp hq with rfl | hq
      · exact hso _ List.mem_cons_self
      · exact hlo q (List.mem_filter.mp hq).1) (fun w hw => hso w (List.mem_cons_of_mem _ hw))
theorem Ev_lstore {mt : Mth} {d pc : Nat} {lc lc2 : List (Nat × VV)} {st : List VV} {σ : Sg} {post : PO} {i : Nat} {v : Int} (hdg : decode mt.2.1 pc = .ok (.lstore i, 2)) (hn : i + 1 < mt.2.2.1) (hl2 : (i, ((1, v) : VV)) :: lc.filter (fun q => !(q.1 == i) && (!(q.1 == i + 1) && !(q.1 + 1 == i && q.2.1 == 1))) = lc2) (k : Ev mt d (pc + 2) lc2 st σ post) : Ev mt d pc lc (((1, v) : VV) :: st) σ post := by
  intro p l e R s m args below meth c cells slots Q X A H0 H locs ls hC hR hW hS hl hlo hso
  obtain ⟨hx, hb, hml, hown, hts, hC2⟩ := id hC

  subst hl2
  refine lv_lstore (lv' := ((i, ((1, v) : VV)) :: lc.filter (fun q => !(q.1 == i) && (!(q.1 == i + 1) && !(q.1 + 1 == i && q.2.1 == 1)))).map (fun q => (q.1, cv X.2.1 q.2))) hx hb hdg hl hn ?_ (fun ls2 hl3 => ?_)
  · rw [List.map_cons, List.filter_map]
    refine congrArg (fun t => _ :: t) (congrArg (List.map _) (List.filter_congr (fun q _ => ?_)))
    simp only [Function.comp, cat2]
  · exact k p l e R s m args below meth c cells slots Q X A H0 H locs ls2 hC hR hW hS hl3 (by
      intro q hq
      rcases List.mem_cons.mp hq with rfl | hq
      · exact hso _ List.mem_cons_self
      · exact hlo q (List.mem_filter.mp hq).1) (fun w hw => hso w (List.mem_cons_of_mem _ hw))
theorem Ev_astore_n {mt : Mth} {d pc : Nat} {lc lc2 : List (Nat × VV)} {st : List VV} {σ : Sg} {post : PO} {i : Fin 4} {v : Int} (hdg : decode mt.2.1 pc = .ok (.astore_n i, 1)) (hn : (i : Nat) < mt.2.2.1) (hl2 : ((i : Nat), ((2, v) : VV)) :: lc.filter (fun q => !(q.1 == (i : Nat)) && !(q.1 + 1 == (i : Nat) && q.2.1 == 1)) = lc2) (k : Ev mt d (pc + 1) lc2 st σ post) : Ev mt d pc lc (((2, v) : VV) :: st) σ post := by
  intro p l e R s m args below meth c cells slots Q X A H0 H locs ls hC hR hW hS hl hlo hso
  obtain ⟨hx, hb, hml, hown, hts, hC2⟩ := id hC

  subst hl2
  refine lv_astore_n (lv' := (((i : Nat), ((2, v) : VV)) :: lc.filter (fun q => !(q.1 == (i : Nat)) && !(q.1 + 1 == (i : Nat) && q.2.1 == 1))).map (fun q => (q.1, cv X.2.1 q.2))) hx hb hdg rfl hl hn ?_ (fun ls2 hl3 => ?_)
  · rw [List.map_cons, List.filter_map]
    refine congrArg (fun t => _ :: t) (congrArg (List.map _) (List.filter_congr (fun q _ => ?_)))
    simp only [Function.comp, cat2]
  · exact k p l e R s m args below meth c cells slots Q X A H0 H locs ls2 hC hR hW hS hl3 (by
      intro q hq
      rcases List.mem_cons.mp hq with rfl | hq
      · exact hso _ List.mem_cons_self
      · exact hlo q (List.mem_filter.mp hq).1) (fun w hw => hso w (List.mem_cons_of_mem _ hw))
theorem Ev_astore {mt : Mth} {d pc : Nat} {lc lc2 : List (Nat × VV)} {st : List VV} {σ : Sg} {post : PO} {i : Nat} {v : Int} (hdg : decode mt.2.1 pc = .ok (.astore i, 2)) (hn : i < mt.2.2.1) (hl2 : (i, ((2, v) : VV)) :: lc.filter (fun q => !(q.1 == i) && !(q.1 + 1 == i && q.2.1 == 1)) = lc2) (k : Ev mt d (pc + 2) lc2 st σ post) : Ev mt d pc lc (((2, v) : VV) :: st) σ post := by
  intro p l e R s m args below meth c cells slots Q X A H0 H locs ls hC hR hW hS hl hlo hso
  obtain ⟨hx, hb, hml, hown, hts, hC2⟩ := id hC

  subst hl2
  refine lv_astore (lv' := ((i, ((2, v) : VV)) :: lc.filter (fun q => !(q.1 == i) && !(q.1 + 1 == i && q.2.1 == 1))).map (fun q => (q.1, cv X.2.1 q.2))) hx hb hdg hl hn ?_ (fun ls2 hl3 => ?_)
  · rw [List.map_cons, List.filter_map]
    refine congrArg (fun t => _ :: t) (congrArg (List.map _) (List.filter_congr (fun q _ => ?_)))
    simp only [Function.comp, cat2]
  · exact k p l e R s m args below meth c cells slots Q X A H0 H locs ls2 hC hR hW hS hl3 (by
      intro q hq
      rcases List.mem_cons.mp hq with rfl | hq
      · exact hso _ List.mem_cons_self
      · exact hlo q (List.mem_filter.mp hq).1) (fun w hw => hso w (List.mem_cons_of_mem _ hw))
theorem Ev_iinc {mt : Mth} {d pc : Nat} {lc lc2 : List (Nat × VV)} {st : List VV} {σ : Sg} {post : PO} {i : Nat} {n x v : Int} (hdg : decode mt.2.1 pc = .ok (.iinc i n, 3)) (q : Nat) (hq : lc[q]? = some (i, ((0, x) : VV))) (hv : w32 (x + n) = v) (hn : i < mt.2.2.1) (hl2 : (i, ((0, v) : VV)) :: lc.filter (fun q => !(q.1 == i) && !(q.1 + 1 == i && q.2.1 == 1)) = lc2) (k : Ev mt d (pc + 3) lc2 st σ post) : Ev mt d pc lc st σ post := by
  intro p l e R s m args below meth c cells slots Q X A H0 H locs ls hC hR hW hS hl hlo hso
  obtain ⟨hx, hb, hml, hown, hts, hC2⟩ := id hC

  subst hl2
  subst hv
  refine lv_iinc (v := i32 (w32 (x + n))) (lv' := ((i, ((0, w32 (x + n)) : VV)) :: lc.filter (fun q => !(q.1 == i) && !(q.1 + 1 == i && q.2.1 == 1))).map (fun q => (q.1, cv X.2.1 q.2))) hx hb hdg hl (k := q) (x := i32 x) (by rw [List.getElem?_map, hq]; rfl) (i32_add x n) hn ?_ (fun ls2 hl3 => ?_)
  · rw [List.map_cons, List.filter_map]
    refine congrArg (fun t => _ :: t) (congrArg (List.map _) (List.filter_congr (fun q _ => ?_)))
    simp only [Function.comp, cat2]
  · exact k p l e R s m args below meth c cells slots Q X A H0 H locs ls2 hC hR hW hS hl3 (by
      intro q hq
      rcases List.mem_cons.mp hq with rfl | hq
      · exact w32_ok _
      · exact hlo q (List.mem_filter.mp hq).1) hso
theorem Ev_sub {mt : Mth} {d pc : Nat} {lc lc2 : List (Nat × VV)} {st : List VV} {σ : Sg} {post : PO} (ks : List Nat) (h : ks.filterMap (fun k => lc[k]?) = lc2) (k : Ev mt d pc lc2 st σ post) : Ev mt d pc lc st σ post := by
  intro p l e R s m args below meth c cells slots Q X A H0 H locs ls hC hR hW hS hl hlo hso
  have hm : ∀ q ∈ lc2, q ∈ lc := by
    intro q hq
    rw [← h] at hq
    obtain ⟨k, -, hk⟩ := List.mem_filterMap.mp hq
    exact List.mem_of_getElem? hk
  refine k p l e R s m args below meth c cells slots Q X A H0 H locs ls hC hR hW hS ⟨hl.1, hl.2.1, fun q hq => ?_⟩ (fun q hq => hlo q (hm q hq)) hso
  obtain ⟨r, hr, rfl⟩ := List.mem_map.mp hq
  exact hl.2.2 _ (List.mem_map.mpr ⟨r, hm r hr, rfl⟩)
theorem Ev_icmp_eq {mt : Mth} {d pc : Nat} {lc : List (Nat × VV)} {st : List VV} {σ : Sg} {post : PO} {a b : Int} {off : Int} {tgt : Nat} (hdg : decode mt.2.1 pc = .ok (.if_icmp .eq off, 3)) (ht : (pc : Int) + off = (tgt : Int)) (kt : a = b → Ev mt d tgt lc st σ post) (kf : ¬ a = b → Ev mt d (pc + 3) lc st σ post) : Ev mt d pc lc (((0, b) : VV) :: ((0, a) : VV) :: st) σ post := by
  intro p l e R s m args below meth c cells slots Q X A H0 H locs ls hC hR hW hS hl hlo hso
  obtain ⟨hx, hb, hml, hown, hts, hC2⟩ := id hC

  have h_a : ok32 a := hso (0, a) (by simp)
  have h_b : ok32 b := hso (0, b) (by simp)
  have hso2 : ∀ v ∈ st, okv v := fun v hv => hso v (by simp [hv])
  refine lv_icmp_eq hx hb hdg ht (fun q => kt ((i32_ei h_a h_b).mp (by first | exact q | simpa using q)) p l e R s m args below meth c cells slots Q X A H0 H locs ls hC hR hW hS hl hlo hso2) (fun q => kf (fun z => absurd ((i32_ei h_a h_b).mpr z) (by first | exact q | simpa using q)) p l e R s m args below meth c cells slots Q X A H0 H locs ls hC hR hW hS hl hlo hso2)
theorem Ev_icmp_ne {mt : Mth} {d pc : Nat} {lc : List (Nat × VV)} {st : List VV} {σ : Sg} {post : PO} {a b : Int} {off : Int} {tgt : Nat} (hdg : decode mt.2.1 pc = .ok (.if_icmp .ne off, 3)) (ht : (pc : Int) + off = (tgt : Int)) (kt : ¬ a = b → Ev mt d tgt lc st σ post) (kf : a = b → Ev mt d (pc + 3) lc st σ post) : Ev mt d pc lc (((0, b) : VV) :: ((0, a) : VV) :: st) σ post := by
  intro p l e R s m args below meth c cells slots Q X A H0 H locs ls hC hR hW hS hl hlo hso
  obtain ⟨hx, hb, hml, hown, hts, hC2⟩ := id hC

  have h_a : ok32 a := hso (0, a) (by simp)
  have h_b : ok32 b := hso (0, b) (by simp)
  have hso2 : ∀ v ∈ st, okv v := fun v hv => hso v (by simp [hv])
  refine lv_icmp_ne hx hb hdg ht (fun q => kt (fun z => ?_) p l e R s m args below meth c cells slots Q X A H0 H locs ls hC hR hW hS hl hlo hso2) (fun q => kf ?_ p l e R s m args below meth c cells slots Q X A H0 H locs ls hC hR hW hS hl hlo hso2)
  · exact absurd ((i32_ei h_a h_b).mpr z) (by first | exact q | simpa using q)
  · exact (i32_ei h_a h_b).mp (by first | exact q | simpa using q)
theorem Ev_icmp_lt {mt : Mth} {d pc : Nat} {lc : List (Nat × VV)} {st : List VV} {σ : Sg} {post : PO} {a b : Int} {off : Int} {tgt : Nat} (hdg : decode mt.2.1 pc = .ok (.if_icmp .lt off, 3)) (ht : (pc : Int) + off = (tgt : Int)) (kt : a < b → Ev mt d tgt lc st σ post) (kf : ¬ a < b → Ev mt d (pc + 3) lc st σ post) : Ev mt d pc lc (((0, b) : VV) :: ((0, a) : VV) :: st) σ post := by
  intro p l e R s m args below meth c cells slots Q X A H0 H locs ls hC hR hW hS hl hlo hso
  obtain ⟨hx, hb, hml, hown, hts, hC2⟩ := id hC

  have h_a : ok32 a := hso (0, a) (by simp)
  have h_b : ok32 b := hso (0, b) (by simp)
  have hso2 : ∀ v ∈ st, okv v := fun v hv => hso v (by simp [hv])
  refine lv_icmp_lt hx hb hdg ht (fun q => kt ((i32_lt h_a h_b).mp (by first | exact q | simpa using q)) p l e R s m args below meth c cells slots Q X A H0 H locs ls hC hR hW hS hl hlo hso2) (fun q => kf (fun z => absurd ((i32_lt h_a h_b).mpr z) (by first | exact q | simpa using q)) p l e R s m args below meth c cells slots Q X A H0 H locs ls hC hR hW hS hl hlo hso2)
theorem Ev_icmp_ge {mt : Mth} {d pc : Nat} {lc : List (Nat × VV)} {st : List VV} {σ : Sg} {post : PO} {a b : Int} {off : Int} {tgt : Nat} (hdg : decode mt.2.1 pc = .ok (.if_icmp .ge off, 3)) (ht : (pc : Int) + off = (tgt : Int)) (kt : b ≤ a → Ev mt d tgt lc st σ post) (kf : ¬ b ≤ a → Ev mt d (pc + 3) lc st σ post) : Ev mt d pc lc (((0, b) : VV) :: ((0, a) : VV) :: st) σ post := by
  intro p l e R s m args below meth c cells slots Q X A H0 H locs ls hC hR hW hS hl hlo hso
  obtain ⟨hx, hb, hml, hown, hts, hC2⟩ := id hC

  have h_a : ok32 a := hso (0, a) (by simp)
  have h_b : ok32 b := hso (0, b) (by simp)
  have hso2 : ∀ v ∈ st, okv v := fun v hv => hso v (by simp [hv])
  refine lv_icmp_ge hx hb hdg ht (fun q => kt ((i32_le h_b h_a).mp (by first | exact q | simpa using q)) p l e R s m args below meth c cells slots Q X A H0 H locs ls hC hR hW hS hl hlo hso2) (fun q => kf (fun z => absurd ((i32_le h_b h_a).mpr z) (by first | exact q | simpa using q)) p l e R s m args below meth c cells slots Q X A H0 H locs ls hC hR hW hS hl hlo hso2)
theorem Ev_icmp_gt {mt : Mth} {d pc : Nat} {lc : List (Nat × VV)} {st : List VV} {σ : Sg} {post : PO} {a b : Int} {off : Int} {tgt : Nat} (hdg : decode mt.2.1 pc = .ok (.if_icmp .gt off, 3)) (ht : (pc : Int) + off = (tgt : Int)) (kt : b < a → Ev mt d tgt lc st σ post) (kf : ¬ b < a → Ev mt d (pc + 3) lc st σ post) : Ev mt d pc lc (((0, b) : VV) :: ((0, a) : VV) :: st) σ post := by
  intro p l e R s m args below meth c cells slots Q X A H0 H locs ls hC hR hW hS hl hlo hso
  obtain ⟨hx, hb, hml, hown, hts, hC2⟩ := id hC

  have h_a : ok32 a := hso (0, a) (by simp)
  have h_b : ok32 b := hso (0, b) (by simp)
  have hso2 : ∀ v ∈ st, okv v := fun v hv => hso v (by simp [hv])
  refine lv_icmp_gt hx hb hdg ht (fun q => kt ((i32_lt h_b h_a).mp (by first | exact q | simpa using q)) p l e R s m args below meth c cells slots Q X A H0 H locs ls hC hR hW hS hl hlo hso2) (fun q => kf (fun z => absurd ((i32_lt h_b h_a).mpr z) (by first | exact q | simpa using q)) p l e R s m args below meth c cells slots Q X A H0 H locs ls hC hR hW hS hl hlo hso2)
theorem Ev_icmp_le {mt : Mth} {d pc : Nat} {lc : List (Nat × VV)} {st : List VV} {σ : Sg} {post : PO} {a b : Int} {off : Int} {tgt : Nat} (hdg : decode mt.2.1 pc = .ok (.if_icmp .le off, 3)) (ht : (pc : Int) + off = (tgt : Int)) (kt : a ≤ b → Ev mt d tgt lc st σ post) (kf : ¬ a ≤ b → Ev mt d (pc + 3) lc st σ post) : Ev mt d pc lc (((0, b) : VV) :: ((0, a) : VV) :: st) σ post := by
  intro p l e R s m args below meth c cells slots Q X A H0 H locs ls hC hR hW hS hl hlo hso
  obtain ⟨hx, hb, hml, hown, hts, hC2⟩ := id hC

  have h_a : ok32 a := hso (0, a) (by simp)
  have h_b : ok32 b := hso (0, b) (by simp)
  have hso2 : ∀ v ∈ st, okv v := fun v hv => hso v (by simp [hv])
  refine lv_icmp_le hx hb hdg ht (fun q => kt ((i32_le h_a h_b).mp (by first | exact q | simpa using q)) p l e R s m args below meth c cells slots Q X A H0 H locs ls hC hR hW hS hl hlo hso2) (fun q => kf (fun z => absurd ((i32_le h_a h_b).mpr z) (by first | exact q | simpa using q)) p l e R s m args below meth c cells slots Q X A H0 H locs ls hC hR hW hS hl hlo hso2)
theorem Ev_if_eq {mt : Mth} {d pc : Nat} {lc : List (Nat × VV)} {st : List VV} {σ : Sg} {post : PO} {a : Int} {off : Int} {tgt : Nat} (hdg : decode mt.2.1 pc = .ok (.ifCond .eq off, 3)) (ht : (pc : Int) + off = (tgt : Int)) (kt : a = 0 → Ev mt d tgt lc st σ post) (kf : ¬ a = 0 → Ev mt d (pc + 3) lc st σ post) : Ev mt d pc lc (((0, a) : VV) :: st) σ post := by
  intro p l e R s m args below meth c cells slots Q X A H0 H locs ls hC hR hW hS hl hlo hso
  obtain ⟨hx, hb, hml, hown, hts, hC2⟩ := id hC

  have h_a : ok32 a := hso (0, a) (by simp)
  have h_b : ok32 0 := ok32_0
  have hso2 : ∀ v ∈ st, okv v := fun v hv => hso v (by simp [hv])
  refine lv_if_eq hx hb hdg ht (fun q => kt ((i32_ei h_a h_b).mp (by first | exact q | simpa using q)) p l e R s m args below meth c cells slots Q X A H0 H locs ls hC hR hW hS hl hlo hso2) (fun q => kf (fun z => absurd ((i32_ei h_a h_b).mpr z) (by first | exact q | simpa using q)) p l e R s m args below meth c cells slots Q X A H0 H locs ls hC hR hW hS hl hlo hso2)
theorem Ev_if_ne {mt : Mth} {d pc : Nat} {lc : List (Nat × VV)} {st : List VV} {σ : Sg} {post : PO} {a : Int} {off : Int} {tgt : Nat} (hdg : decode mt.2.1 pc = .ok (.ifCond .ne off, 3)) (ht : (pc : Int) + off = (tgt : Int)) (kt : ¬ a = 0 → Ev mt d tgt lc st σ post) (kf : a = 0 → Ev mt d (pc + 3) lc st σ post) : Ev mt d pc lc (((0, a) : VV) :: st) σ post := by
  intro p l e R s m args below meth c cells slots Q X A H0 H locs ls hC hR hW hS hl hlo hso
  obtain ⟨hx, hb, hml, hown, hts, hC2⟩ := id hC

  have h_a : ok32 a := hso (0, a) (by simp)
  have h_b : ok32 0 := ok32_0
  have hso2 : ∀ v ∈ st, okv v := fun v hv => hso v (by simp [hv])
  refine lv_if_ne hx hb hdg ht (fun q => kt (fun z => ?_) p l e R s m args below meth c cells slots Q X A H0 H locs ls hC hR hW hS hl hlo hso2) (fun q => kf ?_ p l e R s m args below meth c cells slots Q X A H0 H locs ls hC hR hW hS hl hlo hso2)
  · exact absurd ((i32_ei h_a h_b).mpr z) (by first | exact q | simpa using q)
  · exact (i32_ei h_a h_b).mp (by first | exact q | simpa using q)
theorem Ev_if_lt {mt : Mth} {d pc : Nat} {lc : List (Nat × VV)} {st : List VV} {σ : Sg} {post : PO} {a : Int} {off : Int} {tgt : Nat} (hdg : decode mt.2.1 pc = .ok (.ifCond .lt off, 3)) (ht : (pc : Int) + off = (tgt : Int)) (kt : a < 0 → Ev mt d tgt lc st σ post) (kf : ¬ a < 0 → Ev mt d (pc + 3) lc st σ post) : Ev mt d pc lc (((0, a) : VV) :: st) σ post := by
  intro p l e R s m args below meth c cells slots Q X A H0 H locs ls hC hR hW hS hl hlo hso
  obtain ⟨hx, hb, hml, hown, hts, hC2⟩ := id hC

  have h_a : ok32 a := hso (0, a) (by simp)
  have h_b : ok32 0 := ok32_0
  have hso2 : ∀ v ∈ st, okv v := fun v hv => hso v (by simp [hv])
  refine lv_if_lt hx hb hdg ht (fun q => kt ((i32_lt h_a h_b).mp (by first | exact q | simpa using q)) p l e R s m args below meth c cells slots Q X A H0 H locs ls hC hR hW hS hl hlo hso2) (fun q => kf (fun z => absurd ((i32_lt h_a h_b).mpr z) (by first | exact q | simpa using q)) p l e R s m args below meth c cells slots Q X A H0 H locs ls hC hR hW hS hl hlo hso2)
theorem Ev_if_ge {mt : Mth} {d pc : Nat} {lc : List (Nat × VV)} {st : List VV} {σ : Sg} {post : PO} {a : Int} {off : Int} {tgt : Nat} (hdg : decode mt.2.1 pc = .ok (.ifCond .ge off, 3)) (ht : (pc : Int) + off = (tgt : Int)) (kt : 0 ≤ a → Ev mt d tgt lc st σ post) (kf : ¬ 0 ≤ a → Ev mt d (pc + 3) lc st σ post) : Ev mt d pc lc (((0, a) : VV) :: st) σ post := by
  intro p l e R s m args below meth c cells slots Q X A H0 H locs ls hC hR hW hS hl hlo hso
  obtain ⟨hx, hb, hml, hown, hts, hC2⟩ := id hC

  have h_a : ok32 a := hso (0, a) (by simp)
  have h_b : ok32 0 := ok32_0
  have hso2 : ∀ v ∈ st, okv v := fun v hv => hso v (by simp [hv])
  refine lv_if_ge hx hb hdg ht (fun q => kt ((i32_le h_b h_a).mp (by first | exact q | simpa using q)) p l e R s m args below meth c cells slots Q X A H0 H locs ls hC hR hW hS hl hlo hso2) (fun q => kf (fun z => absurd ((i32_le h_b h_a).mpr z) (by first | exact q | simpa using q)) p l e R s m args below meth c cells slots Q X A H0 H locs ls hC hR hW hS hl hlo hso2)
theorem Ev_if_gt {mt : Mth} {d pc : Nat} {lc : List (Nat × VV)} {st : List VV} {σ : Sg} {post : PO} {a : Int} {off : Int} {tgt : Nat} (hdg : decode mt.2.1 pc = .ok (.ifCond .gt off, 3)) (ht : (pc : Int) + off = (tgt : Int)) (kt : 0 < a → Ev mt d tgt lc st σ post) (kf : ¬ 0 < a → Ev mt d (pc + 3) lc st σ post) : Ev mt d pc lc (((0, a) : VV) :: st) σ post := by
  intro p l e R s m args below meth c cells slots Q X A H0 H locs ls hC hR hW hS hl hlo hso
  obtain ⟨hx, hb, hml, hown, hts, hC2⟩ := id hC

  have h_a : ok32 a := hso (0, a) (by simp)
  have h_b : ok32 0 := ok32_0
  have hso2 : ∀ v ∈ st, okv v := fun v hv => hso v (by simp [hv])
  refine lv_if_gt hx hb hdg ht (fun q => kt ((i32_lt h_b h_a).mp (by first | exact q | simpa using q)) p l e R s m args below meth c cells slots Q X A H0 H locs ls hC hR hW hS hl hlo hso2) (fun q => kf (fun z => absurd ((i32_lt h_b h_a).mpr z) (by first | exact q | simpa using q)) p l e R s m args below meth c cells slots Q X A H0 H locs ls hC hR hW hS hl hlo hso2)
theorem Ev_if_le {mt : Mth} {d pc : Nat} {lc : List (Nat × VV)} {st : List VV} {σ : Sg} {post : PO} {a : Int} {off : Int} {tgt : Nat} (hdg : decode mt.2.1 pc = .ok (.ifCond .le off, 3)) (ht : (pc : Int) + off = (tgt : Int)) (kt : a ≤ 0 → Ev mt d tgt lc st σ post) (kf : ¬ a ≤ 0 → Ev mt d (pc + 3) lc st σ post) : Ev mt d pc lc (((0, a) : VV) :: st) σ post := by
  intro p l e R s m args below meth c cells slots Q X A H0 H locs ls hC hR hW hS hl hlo hso
  obtain ⟨hx, hb, hml, hown, hts, hC2⟩ := id hC

  have h_a : ok32 a := hso (0, a) (by simp)
  have h_b : ok32 0 := ok32_0
  have hso2 : ∀ v ∈ st, okv v := fun v hv => hso v (by simp [hv])
  refine lv_if_le hx hb hdg ht (fun q => kt ((i32_le h_a h_b).mp (by first | exact q | simpa using q)) p l e R s m args below meth c cells slots Q X A H0 H locs ls hC hR hW hS hl hlo hso2) (fun q => kf (fun z => absurd ((i32_le h_a h_b).mpr z) (by first | exact q | simpa using q)) p l e R s m args below meth c cells slots Q X A H0 H locs ls hC hR hW hS hl hlo hso2)
theorem Ev_goto {mt : Mth} {d pc : Nat} {lc : List (Nat × VV)} {st : List VV} {σ : Sg} {post : PO} {off : Int} {tgt : Nat} (hdg : decode mt.2.1 pc = .ok (.goto off, 3)) (ht : (pc : Int) + off = (tgt : Int)) (k : Ev mt d tgt lc st σ post) : Ev mt d pc lc st σ post := by
  intro p l e R s m args below meth c cells slots Q X A H0 H locs ls hC hR hW hS hl hlo hso
  obtain ⟨hx, hb, hml, hown, hts, hC2⟩ := id hC

  exact lv_goto hx hb hdg ht (k p l e R s m args below meth c cells slots Q X A H0 H locs ls hC hR hW hS hl hlo hso)
theorem Ev_tabIn {mt : Mth} {d pc : Nat} {lc : List (Nat × VV)} {st : List VV} {σ : Sg} {post : PO} {a dflt lo hi off : Int} {offs : Array Int} {len tgt : Nat} (hdg : decode mt.2.1 pc = .ok (.tableswitch dflt lo hi offs, len)) (h1 : lo ≤ a) (h2 : a ≤ hi) (ho : offs[(a - lo).toNat]? = some off) (ht : (pc : Int) + off = (tgt : Int)) (k : Ev mt d tgt lc st σ post) : Ev mt d pc lc (((0, a) : VV) :: st) σ post := by
  intro p l e R s m args below meth c cells slots Q X A H0 H locs ls hC hR hW hS hl hlo hso
  obtain ⟨hx, hb, hml, hown, hts, hC2⟩ := id hC

  have h_a : ok32 a := hso (0, a) (by simp)
  have e1 := i32_toInt h_a
  exact lv_tableIn hx hb hdg (by rw [e1]; omega) (by rw [e1]; omega) (by rw [e1]; exact ho) ht (k p l e R s m args below meth c cells slots Q X A H0 H locs ls hC hR hW hS hl hlo (fun v hv => hso v (by simp [hv])))
theorem Ev_tabOut {mt : Mth} {d pc : Nat} {lc : List (Nat × VV)} {st : List VV} {σ : Sg} {post : PO} {a dflt lo hi : Int} {offs : Array Int} {len tgt : Nat} (hdg : decode mt.2.1 pc = .ok (.tableswitch dflt lo hi offs, len)) (h1 : a < lo ∨ hi < a) (ht : (pc : Int) + dflt = (tgt : Int)) (k : Ev mt d tgt lc st σ post) : Ev mt d pc lc (((0, a) : VV) :: st) σ post := by
  intro p l e R s m args below meth c cells slots Q X A H0 H locs ls hC hR hW hS hl hlo hso
  obtain ⟨hx, hb, hml, hown, hts, hC2⟩ := id hC

  have h_a : ok32 a := hso (0, a) (by simp)
  have e1 := i32_toInt h_a
  exact lv_tableOut hx hb hdg (by rw [e1]; exact h1) ht (k p l e R s m args below meth c cells slots Q X A H0 H locs ls hC hR hW hS hl hlo (fun v hv => hso v (by simp [hv])))
theorem cat1 {ad : Nat → Nat} {v : VV} (h : ¬ v.1 = 1) : (cv ad v).category = 1 := by rw [cv_cat, if_neg h]
theorem Ev_dup {mt : Mth} {d pc : Nat} {lc : List (Nat × VV)} {st : List VV} {σ : Sg} {post : PO} {v : VV} (hdg : decode mt.2.1 pc = .ok (.dup, 1)) (hv : ¬ v.1 = 1) (k : Ev mt d (pc + 1) lc (v :: v :: st) σ post) : Ev mt d pc lc (v :: st) σ post := by
  intro p l e R s m args below meth c cells slots Q X A H0 H locs ls hC hR hW hS hl hlo hso
  obtain ⟨hx, hb, hml, hown, hts, hC2⟩ := id hC

  exact lv_dup hx hb hdg (cat1 hv) (k p l e R s m args below meth c cells slots Q X A H0 H locs ls hC hR hW hS hl hlo (by
    intro w hw
    rcases List.mem_cons.mp hw with rfl | hw
    · exact hso _ List.mem_cons_self
    · exact hso w hw))
theorem Ev_dup2 {mt : Mth} {d pc : Nat} {lc : List (Nat × VV)} {st : List VV} {σ : Sg} {post : PO} {v w : VV} (hdg : decode mt.2.1 pc = .ok (.dup2, 1)) (hv : ¬ v.1 = 1) (hw : ¬ w.1 = 1) (k : Ev mt d (pc + 1) lc (v :: w :: v :: w :: st) σ post) : Ev mt d pc lc (v :: w :: st) σ post := by
  intro p l e R s m args below meth c cells slots Q X A H0 H locs ls hC hR hW hS hl hlo hso
  obtain ⟨hx, hb, hml, hown, hts, hC2⟩ := id hC

  exact lv_dup2_11 hx hb hdg (cat1 hv) (cat1 hw) (k p l e R s m args below meth c cells slots Q X A H0 H locs ls hC hR hW hS hl hlo (by
    intro u hu
    rcases List.mem_cons.mp hu with rfl | hu
    · exact hso _ List.mem_cons_self
    · rcases List.mem_cons.mp hu with rfl | hu
      · exact hso _ (List.mem_cons_of_mem _ List.mem_cons_self)
      · exact hso u hu))
theorem Ev_pop {mt : Mth} {d pc : Nat} {lc : List (Nat × VV)} {st : List VV} {σ : Sg} {post : PO} {v : VV} (hdg : decode mt.2.1 pc = .ok (.pop, 1)) (hv : ¬ v.1 = 1) (k : Ev mt d (pc + 1) lc st σ post) : Ev mt d pc lc (v :: st) σ post := by
  intro p l e R s m args below meth c cells slots Q X A H0 H locs ls hC hR hW hS hl hlo hso
  obtain ⟨hx, hb, hml, hown, hts, hC2⟩ := id hC

  exact lv_pop hx hb hdg (cat1 hv) (k p l e R s m args below meth c cells slots Q X A H0 H locs ls hC hR hW hS hl hlo (fun w hw => hso w (List.mem_cons_of_mem _ hw)))
theorem Ev_ret {mt : Mth} {d pc : Nat} {lc : List (Nat × VV)} {σ : Sg} {post : PO} {v : VV} (hdg : decode mt.2.1 pc = .ok (rin (some v), 1)) (hr : rok mt.2.2.2.1 (some v)) (k : post (some v) σ) : Ev mt d pc lc [v] σ post := by
  intro p l e R s m args below meth c cells slots Q X A H0 H locs ls hC hR hW hS hl hlo hso
  exact hR (some v) σ H locs pc ls (hso v (by simp)) hr k hW hS hdg
theorem Ev_retv {mt : Mth} {d pc : Nat} {lc : List (Nat × VV)} {σ : Sg} {post : PO} (hdg : decode mt.2.1 pc = .ok (.return_, 1)) (hr : mt.2.2.2.1 = none) (k : post none σ) : Ev mt d pc lc [] σ post := by
  intro p l e R s m args below meth c cells slots Q X A H0 H locs ls hC hR hW hS hl hlo hso
  exact hR none σ H locs pc ls trivial (by rw [hr]; trivial) k hW hS hdg
