/-! constructors' contracts and calls -/
def PcC (X : MX) (B c n : Nat) (nul : Nat → Nat → Bool) (σ : Sg) : Array Value → State → Prop := fun v U => v = ([Value.ref (X.2.1 c)] : List Value).toArray ∧ PW X B n nul σ U U.heap ∧ AOm U
def QcC (X : MX) (B n1 : Nat) (post : PX) : Array Value → State → Outcome → State → Prop := fun _ st oc t => (∃ (nul : Nat → Nat → Bool) (σ : Sg), oc = .returned none ∧ post n1 nul σ ∧ va_P X.1 vwCl (wdP X nul σ n1) t.heap ∧ t.heap.size = B + n1) ∧ va_F (fun q => B ≤ q) st t
def EvC (mt : Mth) (d c n0 n1 : Nat) (nul : Nat → Nat → Bool) (σ : Sg) (post : PX) : Prop := ∀ (l : Launch) (X : MX) (B : Nat),
  Met l mt.1 (Cond.code mt.1 mt.2.1 mt.2.2.1 mt.2.2.2.1 :: tbG) { frames := d, cells := n1 - n0, slots := slc n1 - slc n0, locals := 64 * d } (PcC X B c n0 nul σ) (QcC X B n1 post) (n1 - n0) (slc n1 - slc n0) (fun q => B ≤ q)
theorem EvC_of {mt : Mth} {d c n0 n1 : Nat} {nul : Nat → Nat → Bool} {σ : Sg} {post : PX} (hpl : plainName mt.1.cls = true) (hnm : mt.1.name = "<init>") (hret : mt.2.2.2.1 = none) (hml1 : 1 ≤ mt.2.2.1) (h01 : n0 ≤ n1) (h : Cv mt d n0 n1 0 [(0, (2, (c : Int)))] [] n0 nul σ (exC mt post)) : EvC mt d c n0 n1 nul σ post := by
  intro l X B
  refine Met.ofW (cc := mt.2.1) (maxL := mt.2.2.1) (ret := mt.2.2.2.1) hpl rfl ?_
  intro p e s m args below meth cd s₁ BL hml hv
  obtain ⟨rfl, hPW, hAO⟩ := hv
  have hts := atoms_spec (ws := Cond.code mt.1 mt.2.1 mt.2.2.1 mt.2.2.2.1 :: tbG) BL.pre
  have hown : s.vm.findClass mt.1.cls = some m.cls := findClass_of_methodNamed BL.named
  have hin : meth.name = "<init>" := (name_of_methodNamed BL.named BL.method).1.trans hnm
  have hlocks := BL.notSynchronized
  have hl := lv_entry ([.ref (X.2.1 c)]) (n := mt.2.2.1) (by simpa [lg_sl, Value.category] using hml1)
  rw [lg_entry_eq]
  generalize (lg_sl ([.ref (X.2.1 c)]) ++ List.replicate (mt.2.2.1 - (lg_sl ([.ref (X.2.1 c)])).length) Slot.unset).toArray = ls at hl ⊢
  have hr := BL.returns
  rw [hret] at hr
  have hx := BL.exec
  have hb := BL.bytes
  have hbs := hPW.2.2.1
  have K := h p l e ({ frames := d, cells := n1 - n0, slots := slc n1 - slc n0, locals := 64 * d } : Room) s m _ below meth cd (MQ below (QcC X B n1 post) ([.ref (X.2.1 c)] : List Value).toArray s (n1 - n0) (slc n1 - slc n0) (fun q => B ≤ q)) X B s.heap s.heap [] ls ⟨hx, hb, hml, hown, fun w hw => hts w (List.mem_cons_of_mem _ hw), Nat.le_refl d, Nat.le_refl _, Nat.le_refl _, Nat.le_refl _, fun _ => hin, hAO, hbs, h01⟩ (by omega) ?_ hPW va_S.rf hl (fun q hq => by rcases List.mem_cons.mp hq with rfl | hq; exact trivial; cases hq) (fun v hv => by cases hv) (Nat.le_refl _) h01
  · rw [Nat.sub_self, Nat.sub_self] at K
    exact K
  · intro nul' σ' H locs pc ls' lc' st' hpost hW hS _ _ _
    obtain ⟨hdg, rfl, hpost⟩ := hpost
    have hq : ∀ t : State, t.heap = H → s.WarmedH t.vm → QcC X B n1 post ([.ref (X.2.1 c)] : List Value).toArray s (.returned none) t := fun t ht hUW => ⟨⟨nul', σ', rfl, hpost, by rw [ht]; exact hW.1, by rw [ht]; exact hW.2.2.1⟩, hS.F ht⟩
    exact W.vret hx hb hr hq hS.2.2 hdg
/-- what the tables say of a constructor -/
def MI (mt : Mth) : Prop := Cond.code mt.1 mt.2.1 mt.2.2.1 mt.2.2.2.1 ∈ tbG ∧ Cond.initialized mt.1.cls ∈ tbG ∧ (mt.1.cls ≠ "java/lang/invoke/MethodHandle" ∧ mt.1.cls ≠ "java/lang/invoke/VarHandle") ∧ (parseMethodDescriptor mt.1.desc).map (fun d => d.parameters.length) = some 0 ∧ Cond.instanceMethod mt.1 ∈ tbG ∧ mt.2.2.1 ≤ 40 ∧ mt.1.name = "<init>" ∧ mt.2.2.2.1 = none
theorem Cv_inv {mt mt' : Mth} {d d' n0 n1 pc n n1' idx : Nat} {b : Int} {lc : List (Nat × VV)} {st : List VV} {nul : Nat → Nat → Bool} {σ : Sg} {post : PC} {P : PX} (c0 : Nat) (hdg : decode mt.2.1 pc = .ok (.invokespecial idx, 3)) (hM : MI mt') (hli : Cond.methodLink mt.1.cls idx mt'.1 ∈ tbG ∨ ∃ host, Cond.methodLinkNest mt.1.cls idx mt'.1 host ∈ tbG)
    (hd : d' + 1 ≤ d) (hb0 : b.toNat = c0) (hsum : (st.map (fun v => if v.1 = 1 then 2 else 1)).sum ≤ 8) (hE : EvC mt' d' c0 n n1' nul σ P) (hn1' : n1' ≤ n1) (hn2 : n ≤ n1') (hNC : n1' ≤ NC)
    (kk : ∀ nul' σ', P n1' nul' σ' → Cv mt d n0 n1 (pc + 3) lc st n1' nul' σ' post) : Cv mt d n0 n1 pc lc (((2, b) : VV) :: st) n nul σ post := by
  intro p l e R s m args below meth c Q X B H0 H locs ls hC hB hR hW hS hl hlo hso hn0 hn1
  obtain ⟨hx, hb, hml, hown, hts, hd1, hd2, hd3, hd4, hd5, hd6, hd7, hd8⟩ := id hC
  obtain ⟨m1, m2, m3, m4, m5, m6, m7, m8⟩ := hM
  subst hb0
  have hMet := hE l X B
  have s1 : slc n ≤ slc n1' := slc_mono hn2
  have s2 : slc n1' ≤ slc n1 := slc_mono hn1'
  have s3 : slc n0 ≤ slc n := slc_mono hn0
  have hroom : d' + 1 ≤ R.frames ∧ 8 + (mt'.2.2.1 + 11) + 64 * d' ≤ R.locals := ⟨by omega, by omega⟩
  have hpre : PreS s H (PcC X B b.toNat n nul σ) (.ref (X.2.1 b.toNat) :: []) := ⟨fun a U g mk q => ⟨q.1, ⟨q.2.1.1, va_K.moved (u := U) (U := U.calling g mk a) (Vm.Alike.refl U.vm) q.2.1.2.1, q.2.1.2.2⟩, AOm_moved (u := U) (U := U.calling g mk a) (Vm.Alike.refl U.vm) q.2.2⟩, fun U hU hUW => ⟨rfl, by rw [hU]; exact ⟨hW.1, va_K.moved hUW.alike hW.2.1, hW.2.2⟩, AOm_moved hUW.alike hd6⟩⟩
  have hfix : CallFix p m c mt.2.1 mt.2.2.1 s args tbG mt.1.cls := ⟨hx, hb, hml, hown, hts⟩
  have hrun : va_Run p l e R s m args below meth c H locs (n - n0) (slc n - slc n0) (n1' - n) (slc n1' - slc n) (F0 m pc ls (.ref (X.2.1 b.toNat) :: st.map (cv X.2.1))) (st.map (cv X.2.1)) (QcC X B n1' P (Value.ref (X.2.1 b.toNat) :: []).toArray) (fun q => B ≤ q) := by
    have hm8 : Cond.code mt'.1 mt'.2.1 mt'.2.2.1 none ∈ (Cond.code mt'.1 mt'.2.1 mt'.2.2.1 mt'.2.2.2.1 :: tbG) := by rw [m8]; exact List.mem_cons_self
    have hm9 : Cond.code mt'.1 mt'.2.1 mt'.2.2.1 none ∈ tbG := by rw [← m8]; exact m1
    rcases hli with hli | ⟨host, hli⟩
    · exact va_runI (As := []) hfix hMet ⟨⟨rfl, rfl, hroom.1, hroom.2, tbl_warm hts m1, hm8, hts _ hm9, hts _ m2, m3, par_len m4, hts _ hli⟩, m7, hts _ m5⟩ hpre rfl rfl hl.1 rfl (cat_sum hsum) hdg ⟨by omega, by omega⟩
    · exact va_runIN (As := []) hfix hMet ⟨⟨⟨rfl, rfl, hroom.1, hroom.2, tbl_warm hts m1, hm8⟩, hts _ hm9, hts _ m2, m3, par_len m4, hts _ hli⟩, m7, hts _ m5⟩ hpre rfl rfl hl.1 rfl (cat_sum hsum) hdg ⟨by omega, by omega⟩
  intro T hT Xs
  obtain ⟨v, st₀, t, T', L, h0, X', hL, e1, e2, ⟨⟨nul', σ', hv, hp, hP, hsz⟩, hz, hk⟩, hst⟩ := hrun T hT Xs
  cases hv
  rw [h0] at hz hk
  have hW' : PW X B n1' nul' σ' s T'.heap := ⟨by rw [e1]; exact hP, hW.2.1, by rw [e1]; exact hsz, hW.2.2.2.1, hNC⟩
  have hS' : va_S (fun q => B ≤ q) H0 T'.heap (locs ++ L) := ⟨Nat.le_trans hS.1 (by rw [e1]; exact hz), fun q h1 h2 => by rw [e1, hk q (Nat.lt_of_lt_of_le h1 hS.1) h2]; exact hS.2.1 q h1 h2, fun q hq => by
      rcases List.mem_append.mp hq with h | h
      · exact hS.2.2 q h
      · exact hL q h⟩
  have e3 : n - n0 + (n1' - n) = n1' - n0 := by omega
  have e4 : slc n - slc n0 + (slc n1' - slc n) = slc n1' - slc n0 := by omega
  rw [e3, e4] at X'
  obtain ⟨t2, a1, b1⟩ := kk nul' σ' hp p l e R s m args below meth c Q X B H0 T'.heap (locs ++ L) ls hC hB hR hW' hS' hl hlo (fun w hw => hso w (List.mem_cons_of_mem _ hw)) (by omega) hn1' T' rfl X'
  exact ⟨t2, hst t2 a1, b1⟩
/-! Sheets' own loop: a field read, an item laid -/
theorem Cv_getr {mt : Mth} {d n0 n1 pc n : Nat} {lc : List (Nat × VV)} {st : List VV} {nul : Nat → Nat → Bool} {σ : Sg} {post : PC} {v : Int} {idx ci k : Nat} (c : Nat) (r : Int) (hdg : decode mt.2.1 pc = .ok (.getfield idx, 3)) (hF : FG mt.1.cls idx ci k ∧ fty ci k = 2 ∧ k < nfs ci) (hv : v.toNat = c) (hs : shp c = (0, ci)) (hcn : c < n) (hnl : nul c k = false) (hr : ((rf c k : Nat) : Int) = r) (kk : Cv mt d n0 n1 (pc + 3) lc (((2, r) : VV) :: st) n nul σ post) : Cv mt d n0 n1 pc lc (((2, v) : VV) :: st) n nul σ post := by
  intro p l e R s m args below meth c0 Q X B H0 H locs ls hC hB hR hW hS hl hlo hso hn0 hn1
  obtain ⟨hx, hb, hml, hown, hts, hC2⟩ := id hC
  subst hv
  subst hr
  obtain ⟨⟨C, T, N, h1, h2, h3, h4, h5⟩, hf2, hn⟩ := hF
  have K := kk p l e R s m args below meth c0 Q X B H0 H locs ls hC hB hR hW hS hl hlo (by
    intro w hw
    rcases List.mem_cons.mp hw with rfl | hw
    · exact trivial
    · exact hso w (List.mem_cons_of_mem _ hw)) hn0 hn1
  have he := wdP_at X nul σ hcn
  rw [entP_obj hs] at he
  have hval : ((List.range (nfs ci)).map (fun k => if fty ci k = 2 ∧ nul v.toNat k = true then Value.null else cv X.2.1 (fvl (σ v.toNat) v.toNat ci k)))[k]? = some (cv X.2.1 (2, ((rf v.toNat k : Nat) : Int))) := by
    rw [List.getElem?_map, List.getElem?_range hn, Option.map_some, hnl]
    simp [fvl, hf2]
  rcases h5 with h5 | ⟨host, h5⟩
  · exact va_get (D := X.1) (ci := ci) hx hb hts h3 hown hW.2.1 hW.1 v.toNat he h1 k h2 (hts _ h5) (fun x hx => by rw [← h4]; exact hx) hval hdg K
  · exact va_getN (D := X.1) (ci := ci) hx hb hts h3 hown hW.2.1 hW.1 v.toNat he h1 k h2 (hts _ h5) (fun x hx => by rw [← h4]; exact hx) hval hdg K
theorem Cv_iast {mt : Mth} {d n0 n1 pc n : Nat} {lc : List (Nat × VV)} {st : List VV} {nul : Nat → Nat → Bool} {σ : Sg} {post : PC} {v i x : Int} {len : Nat} (c : Nat) (hdg : decode mt.2.1 pc = .ok (.iastore, 1)) (hv : v.toNat = c) (hs : shp c = (1, len)) (hcn : c < n) (h0 : 0 ≤ i ∧ i < len) (kk : Cv mt d n0 n1 (pc + 1) lc st n nul (up σ c i.toNat x) post) : Cv mt d n0 n1 pc lc (((0, x) : VV) :: ((0, i) : VV) :: ((2, v) : VV) :: st) n nul σ post := by
  intro p l e R s m args below meth c0 Q X B H0 H locs ls hC hB hR hW hS hl hlo hso hn0 hn1
  obtain ⟨hx, hb, hml, hown, hts, hC2⟩ := id hC
  obtain ⟨hP, hK, hsz, hX, hNC⟩ := id hW
  subst hv
  have hi : ok32 i := hso (0, i) (by simp)
  have he := wdP_at X nul σ hcn
  rw [entP_arr hs, ent_int hs] at he
  refine va_iast (D := X.1) hx hb hK hP (wdP_D nul σ hX hNC) hS v.toNat 0 he rfl (in32 hi h0.1 h0.2) hdg (fun H1 locs1 a1 a2 a3 => ?_)
  rw [tn32 hi, updf, wdP_set X (σ' := up σ v.toNat i.toNat x) (nul' := nul) hcn (fun c' h => up_ne σ i.toNat x h) (fun _ _ => rfl) (by rw [entP_arr hs, up_c, ent_int hs])] at a1
  refine W_size fun hle => ?_
  have hsz1 : H1.size = B + n := size_of ⟨a1, hX, hNC⟩ (by omega) (by have := hC2.2.2.2.2.2.2.1; omega)
  exact kk p l e R s m args below meth c0 Q X B H0 H1 locs1 ls hC hB hR ⟨a1, hK, hsz1, hX, hNC⟩ a3 hl hlo (fun w hw => hso w (by simp [hw])) hn0 hn1
