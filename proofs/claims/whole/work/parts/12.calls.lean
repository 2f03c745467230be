/-! contracts and calls -/
def Pcm (X : MX) (as : List VV) (σ : Sg) : Array Value → State → Prop := fun v U => v = (as.map (cv X.2.1)).toArray ∧ va_P X.1 vwCl (wd X σ) U.heap ∧ va_K X.1 vwCl (tyA X) U ∧ va_D (AX X) (wd X σ)
def Qcm (X : MX) (post : PO) : Array Value → State → Outcome → State → Prop := fun _ st oc t => (∃ (v : Option VV) (σ : Sg), oc = .returned (v.map (cv X.2.1)) ∧ okvo v ∧ post v σ ∧ sgok σ ∧ va_P X.1 vwCl (wd X σ) t.heap) ∧ va_F (AX X) st t
def EvM (mt : Mth) (d : Nat) (as : List VV) (σ : Sg) (post : PO) : Prop := sgok σ → (∀ v ∈ as, okv v) → ∀ (l : Launch) (X : MX),
  Met l mt.1 (Cond.code mt.1 mt.2.1 mt.2.2.1 mt.2.2.2.1 :: tbG) { frames := d, cells := 0, slots := 0, locals := 64 * d } (Pcm X as σ) (Qcm X post) 0 0 (AX X)
theorem Pcm_blind (X : MX) (as : List VV) (σ : Sg) : FrameBlind (Pcm X as σ) := fun a U g mk q => ⟨q.1, q.2.1, va_K.moved (u := U) (U := U.calling g mk a) (Vm.Alike.refl U.vm) q.2.2.1, q.2.2.2⟩
/-- what the tables say of a static method, and of one of an object -/
def MS (mt : Mth) (n : Nat) : Prop := Cond.code mt.1 mt.2.1 mt.2.2.1 mt.2.2.2.1 ∈ tbG ∧ Cond.initialized mt.1.cls ∈ tbG ∧ (mt.1.cls ≠ "java/lang/invoke/MethodHandle" ∧ mt.1.cls ≠ "java/lang/invoke/VarHandle") ∧ (parseMethodDescriptor mt.1.desc).map (fun d => d.parameters.length) = some n ∧ Cond.static mt.1 ∈ tbG ∧ mt.2.2.1 ≤ 40
def MV (mt : Mth) (n : Nat) : Prop := Cond.code mt.1 mt.2.1 mt.2.2.1 mt.2.2.2.1 ∈ tbG ∧ Cond.initialized mt.1.cls ∈ tbG ∧ (mt.1.cls ≠ "java/lang/invoke/MethodHandle" ∧ mt.1.cls ≠ "java/lang/invoke/VarHandle") ∧ (parseMethodDescriptor mt.1.desc).map (fun d => d.parameters.length) = some n ∧ Cond.instanceMethod mt.1 ∈ tbG ∧ Cond.selects mt.1.cls mt.1 mt.1 ∈ tbG ∧ mt.2.2.1 ≤ 40
theorem tbl_warm {s : State} {args : Array Value} (hts : ∀ w ∈ tbG, w.before args s = true) {mt : Mth} (hc : Cond.code mt.1 mt.2.1 mt.2.2.1 mt.2.2.2.1 ∈ tbG) :
    ∀ w ∈ (Cond.code mt.1 mt.2.1 mt.2.2.1 mt.2.2.2.1 :: tbG), ∀ (a' : Array Value) (U : State), s.WarmedH U.vm → w.before a' U = true := by
  intro w hw a' U hU
  have hm : w ∈ tbG := by
    rcases List.mem_cons.mp hw with rfl | h
    · exact hc
    · exact h
  exact gW_keep hU (List.mem_filter.mp hm).2 (hts w hm)
theorem fin_call {p : Program} {l : Launch} {e : Env} {R : Room} {s : State} {m : MethodId} {args : Array Value} {below : List Frame} {meth : Method} {c : Code} {H : Heap} {locs : List Loc} {cells slots : Nat} {Q : State → Prop} {mt : Mth} {d pc : Nat} {lc : List (Nat × VV)} {st : List VV} {σ : Sg} {post P : PO} {X : MX} {A : Nat → Prop} {H0 : Heap} {ls : Array Slot} {st0 : List Value} {a : Array Value}
    (hC : Ctx p R s m args meth c cells slots X A H0 mt d) (hR : RetH p l e R s m args below meth c cells slots Q X A H0 mt post) (hW : WD X A σ s H) (hS : va_S A H0 H locs) (hl : lv_has ls mt.2.2.1 (lc.map (fun q => (q.1, cv X.2.1 q.2)))) (hlo : ∀ q ∈ lc, okv q.2) (hso : ∀ v ∈ st, okv v)
    (hr : va_Run p l e R s m args below meth c H locs cells slots 0 0 (F0 m pc ls st0) (st.map (cv X.2.1)) (Qcm X P a) (AX X))
    (kk : ∀ v σ', P v σ' → Ev mt d (pc + 3) lc (v.toList ++ st) σ' post) : W p l e R s m args below meth c H locs cells slots Q (F0 m pc ls st0) := by
  intro T hT Xs
  obtain ⟨v, st₀, t, T', L, h0, X', hL, e1, e2, ⟨⟨v', σ', hv, hok, hp, hsg, hP⟩, hz, hk⟩, hst⟩ := hr T hT Xs
  cases hv
  rw [h0] at hz hk
  have hA := wd_AX hW.2.2.1
  have hW' : WD X A σ' s T'.heap := ⟨by rw [e1]; exact hP, hW.2.1, wd_D X hW.2.2.1 σ', hsg⟩
  have hS' : va_S A H0 T'.heap (locs ++ L) := ⟨Nat.le_trans hS.1 (by rw [e1]; exact hz), fun q h1 h2 => by rw [e1, hk q (Nat.lt_of_lt_of_le h1 hS.1) (fun z => h2 (hA q z))]; exact hS.2.1 q h1 h2, fun q hq => by
      rcases List.mem_append.mp hq with h | h
      · exact hS.2.2 q h
      · exact hA _ (hL q h)⟩
  have hso2 : ∀ w ∈ v'.toList ++ st, okv w := by
    intro w hw
    rcases List.mem_append.mp hw with h | h
    · cases v' with
      | none => cases h
      | some z => rw [List.mem_singleton.mp h]; exact hok
    · exact hso w h
  obtain ⟨t2, a1, b1⟩ := kk v' σ' hp p l e R s m args below meth c cells slots Q X A H0 T'.heap (locs ++ L) ls hC hR hW' hS' hl hlo hso2 T' rfl X'
  have e3 : (Option.map (cv X.2.1) v').toList ++ st.map (cv X.2.1) = (v'.toList ++ st).map (cv X.2.1) := by
    cases v' <;> rfl
  refine ⟨t2, hst t2 ?_, b1⟩
  rw [e3]
  exact a1
theorem cat_sum {ad : Nat → Nat} {st : List VV} (h : (st.map (fun v => if v.1 = 1 then 2 else 1)).sum ≤ 8) : 2 * 0 + ((st.map (cv ad)).map fun v => v.category).sum ≤ 8 := by
  have e : (st.map (cv ad)).map (fun v => v.category) = st.map (fun v => if v.1 = 1 then 2 else 1) := by
    rw [List.map_map]
    exact List.map_congr_left (fun v _ => cv_cat ad v)
  rw [e]
  omega
theorem par_len {x : String} {n : Nat} (h : (parseMethodDescriptor x).map (fun d => d.parameters.length) = some n) : ∀ sig, parseMethodDescriptor x = some sig → n = sig.parameters.length := by
  intro sig hs
  rw [hs] at h
  exact (Option.some.inj h).symm
theorem Ev_invS {mt mt' : Mth} {d d' pc n idx : Nat} {lc : List (Nat × VV)} {st : List VV} {σ : Sg} {post P : PO} (as : List VV) (hdg : decode mt.2.1 pc = .ok (.invokestatic idx, 3)) (hM : MS mt' n)
    (hli : Cond.methodLink mt.1.cls idx mt'.1 ∈ tbG ∨ ∃ host, Cond.methodLinkNest mt.1.cls idx mt'.1 host ∈ tbG) (hd : d' + 1 ≤ d) (hn : as.length = n) (hsum : (st.map (fun v => if v.1 = 1 then 2 else 1)).sum ≤ 8)
    (hE : EvM mt' d' as σ P) (kk : ∀ v σ', P v σ' → Ev mt d (pc + 3) lc (v.toList ++ st) σ' post) : Ev mt d pc lc (as.reverse ++ st) σ post := by
  intro p l e R s m args below meth c cells slots Q X A H0 H locs ls hC hR hW hS hl hlo hso
  obtain ⟨hx, hb, hml, hown, hts, hd1, hd2, hd3, hd4, hd5⟩ := id hC
  obtain ⟨m1, m2, m3, m4, m5, m6⟩ := hM
  have hMet := hE hW.2.2.2 (fun v hv => hso v (List.mem_append_left _ (List.mem_reverse.mpr hv))) l X
  have hroom : (({ frames := d', cells := 0, slots := 0, locals := 64 * d' } : Room)).frames + 1 ≤ R.frames ∧ 8 + (mt'.2.2.1 + 11) + (({ frames := d', cells := 0, slots := 0, locals := 64 * d' } : Room)).locals ≤ R.locals := ⟨by show d' + 1 ≤ _; omega, by show _ + 64 * d' ≤ _; omega⟩
  have hpre : PreS s H (Pcm X as σ) (as.map (cv X.2.1)) := ⟨Pcm_blind X as σ, fun U hU hUW => ⟨rfl, by rw [hU]; exact hW.1, va_K.moved hUW.alike hW.2.1, wd_self hW.2.2.1⟩⟩
  have hstk : ((as.reverse ++ st).map (cv X.2.1)) = (as.map (cv X.2.1)).reverse ++ st.map (cv X.2.1) := by rw [List.map_append, List.map_reverse]
  have hfix : CallFix p m c mt.2.1 mt.2.2.1 s args tbG mt.1.cls := ⟨hx, hb, hml, hown, hts⟩
  rw [hstk]
  refine fin_call hC hR hW hS hl hlo (fun v hv => hso v (List.mem_append_right _ hv)) (P := P) ?_ kk (a := (as.map (cv X.2.1)).toArray)
  rcases hli with hli | ⟨host, hli⟩
  · exact va_runS hfix hMet ⟨⟨rfl, rfl, hroom.1, hroom.2, tbl_warm hts m1, List.mem_cons_self, hts _ m1, hts _ m2, m3, par_len m4, hts _ hli⟩, hts _ m5⟩ hpre rfl (by rw [List.length_map]; exact hn) hl.1 rfl (cat_sum hsum) hdg ⟨hd3, hd4⟩
  · exact va_runSN hfix hMet ⟨⟨⟨rfl, rfl, hroom.1, hroom.2, tbl_warm hts m1, List.mem_cons_self⟩, hts _ m1, hts _ m2, m3, par_len m4, hts _ hli⟩, hts _ m5, trivial⟩ hpre rfl (by rw [List.length_map]; exact hn) hl.1 rfl (cat_sum hsum) hdg ⟨hd3, hd4⟩
theorem Ev_invV {mt mt' : Mth} {d d' pc n idx ci : Nat} {b : Int} {lc : List (Nat × VV)} {st : List VV} {σ : Sg} {post P : PO} (as : List VV) (c0 : Nat) (hdg : decode mt.2.1 pc = .ok (.invokevirtual idx, 3)) (hM : MV mt' n)
    (hli : Cond.methodLink mt.1.cls idx mt'.1 ∈ tbG) (hd : d' + 1 ≤ d) (hn : as.length = n) (hb0 : b.toNat = c0) (hsh : shp c0 = (0, ci)) (hcl : (vwCl[ci]?).map (fun q => q.1) = some mt'.1.cls) (hsum : (st.map (fun v => if v.1 = 1 then 2 else 1)).sum ≤ 8)
    (hE : EvM mt' d' (((2, b) : VV) :: as) σ P) (kk : ∀ v σ', P v σ' → Ev mt d (pc + 3) lc (v.toList ++ st) σ' post) : Ev mt d pc lc (as.reverse ++ ((2, b) : VV) :: st) σ post := by
  intro p l e R s m args below meth c cells slots Q X A H0 H locs ls hC hR hW hS hl hlo hso
  obtain ⟨hx, hb, hml, hown, hts, hd1, hd2, hd3, hd4, hd5⟩ := id hC
  obtain ⟨m1, m2, m3, m4, m5, m6, m7⟩ := hM
  subst hb0
  have hc0 := shp_lt hsh (by decide)
  have hMet := hE hW.2.2.2 (fun v hv => by
    rcases List.mem_cons.mp hv with rfl | hv
    · exact trivial
    · exact hso v (List.mem_append_left _ (List.mem_reverse.mpr hv))) l X
  have hroom : (({ frames := d', cells := 0, slots := 0, locals := 64 * d' } : Room)).frames + 1 ≤ R.frames ∧ 8 + (mt'.2.2.1 + 11) + (({ frames := d', cells := 0, slots := 0, locals := 64 * d' } : Room)).locals ≤ R.locals := ⟨by show d' + 1 ≤ _; omega, by show _ + 64 * d' ≤ _; omega⟩
  have he := wd_at X σ hc0
  rw [ent_obj hsh] at he
  obtain ⟨q, hq, hq2⟩ : ∃ q : vw_C, vwCl[ci]? = some q ∧ q.1 = mt'.1.cls := by
    cases hv : vwCl[ci]? with
    | none => rw [hv] at hcl; cases hcl
    | some q => rw [hv] at hcl; exact ⟨q, rfl, Option.some.inj hcl⟩
  have hrec := va_recv hW.2.1 hW.1 hq he
  rw [hq2] at hrec
  have hpre : PreV s H mt'.1.cls (X.2.1 b.toNat) (Pcm X (((2, b) : VV) :: as) σ) (as.map (cv X.2.1)) := ⟨Pcm_blind X _ σ, hrec, fun U hU hUW => ⟨rfl, by rw [hU]; exact hW.1, va_K.moved hUW.alike hW.2.1, wd_self hW.2.2.1⟩⟩
  have hstk : ((as.reverse ++ ((2, b) : VV) :: st).map (cv X.2.1)) = (as.map (cv X.2.1)).reverse ++ .ref (X.2.1 b.toNat) :: st.map (cv X.2.1) := by rw [List.map_append, List.map_reverse]; rfl
  have hfix : CallFix p m c mt.2.1 mt.2.2.1 s args tbG mt.1.cls := ⟨hx, hb, hml, hown, hts⟩
  rw [hstk]
  refine fin_call hC hR hW hS hl hlo (fun v hv => hso v (List.mem_append_right _ (List.mem_cons_of_mem _ hv))) (P := P) ?_ kk (a := (Value.ref (X.2.1 b.toNat) :: as.map (cv X.2.1)).toArray)
  exact va_runV hfix hMet ⟨⟨rfl, rfl, hroom.1, hroom.2, tbl_warm hts m1, List.mem_cons_self, hts _ m1, hts _ m2, m3, par_len m4, hts _ hli⟩, hts _ m5, hts _ m6⟩ hpre rfl (by rw [List.length_map]; exact hn) hl.1 rfl (cat_sum hsum) hdg ⟨hd3, hd4⟩
/-! a method's contract, out of its walk from the entry -/
def lcA : Nat → List VV → List (Nat × VV)
  | _, [] => []
  | i, v :: vs => (i, v) :: lcA (if v.1 = 1 then i + 2 else i + 1) vs
theorem lcA_map (ad : Nat → Nat) : ∀ (vs : List VV) (i : Nat), (lcA i vs).map (fun q => (q.1, cv ad q.2)) = lv_args i (vs.map (cv ad))
  | [], _ => rfl
  | v :: vs, i => by
    show _ :: _ = _ :: _
    rw [lcA_map ad vs]
    have := cv_cat ad v
    by_cases h : v.1 = 1
    · simp [h, this, lv_args]
    · simp [h, this, lv_args]
theorem lcA_mem : ∀ (vs : List VV) (i : Nat), ∀ q ∈ lcA i vs, q.2 ∈ vs
  | [], _, q, h => by cases h
  | v :: vs, i, q, h => by
    rcases List.mem_cons.mp h with rfl | h
    · exact List.mem_cons_self
    · exact List.mem_cons_of_mem _ (lcA_mem vs _ q h)
theorem sl_len (ad : Nat → Nat) (vs : List VV) : (lg_sl (vs.map (cv ad))).length = (vs.map (fun v => if v.1 = 1 then 2 else 1)).sum := by
  induction vs with
  | nil => rfl
  | cons v vs ih =>
    unfold lg_sl at ih ⊢
    rw [List.map_cons, List.flatMap_cons, List.length_append, ih, List.map_cons, List.sum_cons, cv_cat]
    by_cases h : v.1 = 1
    · simp [h]
    · simp [h]
theorem EvM_of {mt : Mth} {d : Nat} {as : List VV} {σ : Sg} {post : PO} (hsc : mt.2.2.2.2 = none) (hpl : plainName mt.1.cls = true) (hlen : (as.map (fun v => if v.1 = 1 then 2 else 1)).sum ≤ mt.2.2.1) (h : Ev mt d 0 (lcA 0 as) [] σ post) : EvM mt d as σ post := by
  intro hsg hok l X
  refine Met.ofW (cc := mt.2.1) (maxL := mt.2.2.1) (ret := mt.2.2.2.1) hpl rfl ?_
  intro p e s m args below meth c s₁ B hml hv
  obtain ⟨rfl, hP, hK, hD⟩ := hv
  have hts := atoms_spec (ws := Cond.code mt.1 mt.2.1 mt.2.2.1 mt.2.2.2.1 :: tbG) B.pre
  have hown : s.vm.findClass mt.1.cls = some m.cls := findClass_of_methodNamed B.named
  have hlocks := B.notSynchronized
  have hl := lv_entry (as.map (cv X.2.1)) (n := mt.2.2.1) (by rw [sl_len]; exact hlen)
  rw [lg_entry_eq]
  generalize (lg_sl (as.map (cv X.2.1)) ++ List.replicate (mt.2.2.1 - (lg_sl (as.map (cv X.2.1))).length) Slot.unset).toArray = ls at hl ⊢
  rw [← lcA_map] at hl
  have hr := B.returns
  have hx := B.exec
  have hb := B.bytes
  refine h p l e _ s m _ below meth c 0 0 _ X (AX X) s.heap s.heap [] ls ⟨hx, hb, hml, hown, fun w hw => hts w (List.mem_cons_of_mem _ hw), Nat.le_refl d, Nat.le_refl _, Nat.le_refl _, Nat.le_refl _, by rw [hsc]; trivial⟩ ?_ ⟨hP, hK, hD, hsg⟩ va_S.rf hl (fun q hq => hok _ (lcA_mem as 0 q hq)) (fun v hv => by cases hv)
  intro v σ' H locs pc ls' hov hrk hpost hW hS hdg
  have hq : ∀ t : State, t.heap = H → s.WarmedH t.vm → Qcm X post (as.map (cv X.2.1)).toArray s (.returned (v.map (cv X.2.1))) t := fun t ht hUW => ⟨⟨v, σ', rfl, hov, hpost, hW.2.2.2, by rw [ht]; exact hW.1⟩, hS.F ht⟩
  match v, hrk, hdg, hq with
  | none, hrk, hdg, hq =>
    have hr2 : meth.sig.returnType = none := by
      rw [hr]
      revert hrk
      cases mt.2.2.2.1 with
      | none => exact fun _ => rfl
      | some t => cases t <;> exact fun h => h.elim
    exact W.vret hx hb hr2 hq hS.2.2 hdg
  | some (0, x), hrk, hdg, hq =>
    revert hrk
    cases hm : mt.2.2.2.1 with
    | none => exact fun h => h.elim
    | some t =>
      rw [hm] at hr
      cases t with
      | int => exact fun _ => W.iret hx hb hr hq hS.2.2 hdg
      | boolean => exact fun h => W.zret hx hb hr (by rcases h with rfl | rfl <;> rfl) hq hS.2.2 hdg
      | _ => exact fun h => h.elim
  | some (1, x), hrk, hdg, hq =>
    revert hrk
    cases hm : mt.2.2.2.1 with
    | none => exact fun h => h.elim
    | some t =>
      rw [hm] at hr
      cases t with
      | long => exact fun _ => W.lret hx hb hr hq hS.2.2 hdg
      | _ => exact fun h => h.elim
  | some (2, x), hrk, hdg, hq =>
    revert hrk
    cases hm : mt.2.2.2.1 with
    | none => exact fun h => h.elim
    | some t =>
      rw [hm] at hr
      cases t with
      | array u => exact fun _ => W.aret hx hb hr (Or.inr ⟨u, rfl⟩) (Or.inr ⟨_, rfl⟩) hq hS.2.2 hdg
      | _ => exact fun h => h.elim
  | some (t + 3, x), hrk, hdg, hq =>
    revert hrk
    cases mt.2.2.2.1 with
    | none => exact fun h => h.elim
    | some t => cases t <;> exact fun h => h.elim
