theorem AOm_moved1 {t : FieldType} {u U : State} (hvm : u.vm.Alike U.vm) (h : (Cond.arrayOver (.array t)).before #[] u = true) : (Cond.arrayOver (.array t)).before #[] U = true := by
  obtain ⟨comp, c, k, h1, h2, h3, h4, h5⟩ := arrayOverA_spec h
  obtain ⟨k', hk', he⟩ := hvm.2.2 _ _ h3
  have e1 := va_idx_bare U.vm comp
  have e2 := va_idx_bare u.vm comp
  have e3 : U.vm.bare = u.vm.bare := by first | exact hvm.bare_eq | exact hvm.bare_eq.symm
  rw [e3] at e1
  have hi : (U.vm.classes.findIdx? fun (x : Class) => match x.kind with | .array component _ => component == comp | _ => false) = some c := e1.symm.trans (e2.trans h2)
  have hkind : k'.kind = .array comp (.array t) := by rw [he]; exact h4
  have f1 : U.vm.findClass (FieldType.array t).toString = some comp := by rw [hvm.findClass]; exact h1
  have f2 : U.vm.findClass ("[" ++ (FieldType.array t).toString) = some c := by rw [hvm.findClass]; exact h5
  unfold Cond.before Cond.holds
  simp only [Cond.value]
  rw [f1, Option.bind_some]
  refine (congrArg (fun o : Option Nat => (o.bind (fun c => (U.vm.classes[c]?).map fun (k : Class) => match k.kind with | .array _ ty => decide (ty = FieldType.array t) && decide (U.vm.findClass ("[" ++ (FieldType.array t).toString) = some c) | _ => false) == some true)) hi).trans ?_
  simp [hk', hkind, f2]
theorem AOm_moved {u U : State} (hvm : u.vm.Alike U.vm) (h : AOm u) : AOm U := ⟨AOm_moved1 hvm h.1, AOm_moved1 hvm h.2⟩
theorem vr_outer (c : ClassId) (N h0 : Nat) : ∀ i : Nat, Jvm.Free.Multi.outerC c N h0 i = arrV c N (fun j => va_rf (if j < i then some (h0 + 1 + j) else none))
  | 0 => by
    show ({ cls := c, slots := Array.replicate N .null, vm := .none } : Cell) = _
    rw [arrV_new]
    refine congrArg (arrV c N) (funext fun j => ?_)
    simp [va_rf]
  | i + 1 => by
    show (Jvm.Free.Multi.outerC c N h0 i).setSlot i (.ref (h0 + 1 + i)) = _
    rw [vr_outer c N h0 i, arrV_store]
    refine congrArg (arrV c N) (funext fun j => ?_)
    by_cases e : j = i
    · subst e
      simp [updV, va_rf]
    · by_cases h : j < i
      · simp [updV, e, h, Nat.lt_succ_of_lt h]
      · simp [updV, e, h, show ¬ j < i + 1 by omega]
theorem wdP_ext {X : MX} {D : va_G} {nul : Nat → Nat → Bool} {σ : Sg} {n n' : Nat} {H H1 : Heap} (h : va_P D vwCl (wdP X nul σ n) H) (hk : ∀ c, c < n → H1[X.2.1 c]? = H[X.2.1 c]?) (hn : ∀ c, n ≤ c → c < n' → va_at D vwCl (X.2.1 c, entP X (nul c) (σ c) c) H1) : va_P D vwCl (wdP X nul σ n') H1 := by
  intro k q hq
  have hlt : k < n' := by
    have := (List.getElem?_eq_some_iff.mp hq).1
    rwa [wdP_len] at this
  rw [wdP_at X nul σ hlt] at hq
  cases hq
  by_cases h2 : k < n
  · exact (h k _ (wdP_at X nul σ h2)).kept (hk k h2)
  · exact hn k (by omega) hlt
theorem slc_rows (n K : Nat) (t : Nat) : ∀ N, (∀ j, j < N → shp (n + j) = (t + 1, K)) → slc (n + N) = slc n + N * K := by
  intro N
  induction N with
  | zero => intro _; simp
  | succ N ih =>
    intro h
    show slc (n + N) + (if (shp (n + N)).1 = 0 then nfs (shp (n + N)).2 else (shp (n + N)).2) = _
    rw [ih (fun j hj => h j (by omega)), h N (by omega), Nat.succ_mul]
    simp
    omega
theorem Cv_mni {mt : Mth} {d n0 n1 pc n : Nat} {lc : List (Nat × VV)} {st : List VV} {nul : Nat → Nat → Bool} {σ : Sg} {post : PC} {v a b : Int} {N K idx : Nat} (hdg : decode mt.2.1 pc = .ok (.multianewarray idx 2, 4)) (hq : Cond.arrayClass .int ∈ tbG ∧ Cond.classLink mt.1.cls idx ("[" ++ (FieldType.array .int).toString) ∈ tbG) (hs : shp n = (4, N)) (hrow : ∀ j, j < N → shp (n + 1 + j) = (1, K)) (hrf : ∀ j, j < N → rf n j = n + 1 + j) (ha : a = (N : Int)) (hb0 : b = (K : Int)) (hlen : N ≤ 1000 ∧ K ≤ 1000) (hz : ∀ c k, n ≤ c → σ c k = 0) (hn : n + 1 + N ≤ n1) (hn1 : n1 ≤ NC) (hv : v.toNat = n)
    (k : Cv mt d n0 n1 (pc + 4) lc (((2, v) : VV) :: st) (n + 1 + N) nul σ post) : Cv mt d n0 n1 pc lc (((0, b) : VV) :: ((0, a) : VV) :: st) n nul σ post := by
  intro p l e R s m args below meth c Q X B H0 H locs ls hC hB hR hW hS hl hlo hso hn0 hn1'
  obtain ⟨hx, hb, hml, hown, hts, hC2⟩ := id hC
  obtain ⟨hP, hK, hsz, hX, hNC⟩ := hW
  have hc := shp_lt hs (by decide)
  have hsl : slc (n + 1 + N) = slc n + N + N * K := by
    rw [slc_rows (n + 1) K 0 N hrow]
    show slc n + (if (shp n).1 = 0 then nfs (shp n).2 else (shp n).2) + N * K = _
    rw [hs]; rfl
  have hsl2 : slc (n + 1 + N) ≤ slc n1 := slc_mono hn
  have hsl3 : slc n0 ≤ slc n := slc_mono hn0
  subst hv
  subst ha
  subst hb0
  have oN : ok32 (N : Int) := ⟨by omega, by omega⟩
  have oK : ok32 (K : Int) := ⟨by omega, by omega⟩
  have neg : ∀ {z : Nat}, ok32 (z : Int) → ¬ i32 (z : Int) < 0 := fun {z} hz q => by
    rw [Int32.lt_iff_toInt_lt, i32_toInt hz] at q
    have : (0 : Int32).toInt = 0 := rfl
    omega
  have tN : (i32 (N : Int)).toNatClampNeg = N := by rw [tn32 oN, Int.toNat_natCast]
  have tK : (i32 (K : Int)).toNatClampNeg = K := by rw [tn32 oK, Int.toNat_natCast]
  have hao : (Cond.arrayOver (.array .int)).before args s = true := hC2.2.2.2.2.2.1.1
  intro T hT Xs
  obtain ⟨vm₁, cA, comp, -, fA, fC, hO, -, X', step⟩ := Xs.multianewarray2F hx hown (hts _ hq.2) hao (hts _ hq.1) (g := F0 m pc ls (.int (i32 (K : Int)) :: .int (i32 (N : Int)) :: st.map (cv X.2.1))) rfl (by rw [hb]; exact hdg) rfl (neg oN) (neg oK) (by rw [tN]; omega) (by rw [tK]; simp only [componentBytes]; omega) (by rw [tK]; omega) rfl rfl (by rw [tN]; omega) (by rw [tN, tK]; omega)
  rw [tN, tK] at X' step
  generalize hF : Jvm.Free.Multi.fill (T.setVm vm₁) cA comp N K (defaultValue .int) N = F at X' step
  have hTh : (T.setVm vm₁).heap = H := hT
  obtain ⟨f1, f2, -, -⟩ := Jvm.Free.Multi.fill_facts (T.setVm vm₁) cA comp N K (defaultValue .int) N
  rw [hF, hTh] at f1 f2
  have hold : ∀ x : Nat, x < H.size → F.heap[x]? = H[x]? := fun x hx => by
    have := Jvm.Free.Multi.fill_old (T.setVm vm₁) cA comp N K (defaultValue .int) (a := x) (by rw [hTh]; exact hx) N
    rw [hF, hTh] at this
    exact this
  have hrows : ∀ j : Nat, j < N → F.heap[H.size + 1 + j]? = some (Jvm.Free.Multi.innerC comp K (defaultValue .int)) := fun j hj => by
    have := Jvm.Free.Multi.fill_inner (T.setVm vm₁) cA comp N K (defaultValue .int) N j hj
    rw [hF, hTh] at this
    exact this
  rw [vr_outer cA N H.size N] at f2
  have hcA : cA = X.2.2 3 := by
    have h := (hK.2 3 (X.2.2 3, .array .int) rfl).2
    have h2 : s.vm.findClass ("[" ++ (FieldType.array .int).toString) = some (X.2.2 3) := h
    exact Option.some.inj (fA.symm.trans h2)
  have hcI : comp = X.2.2 0 := by
    have h := (hK.2 0 (X.2.2 0, .int) rfl).2
    have h2 : s.vm.findClass ("[" ++ (FieldType.toString .int)) = some (X.2.2 0) := h
    have h3 : (FieldType.array .int).toString = "[" ++ (FieldType.toString .int) := by decide +kernel
    rw [h3] at fC
    exact Option.some.inj (fC.symm.trans h2)
  have hP1 : va_P X.1 vwCl (wdP X nul σ (v.toNat + 1 + N)) F.heap := by
    refine wdP_ext hP (fun i hi => hold _ (by rw [hX i (by omega)]; omega)) (fun i hi1 hi2 => ?_)
    by_cases e : i = v.toNat
    · subst e
      rw [entP_arr hs, ent_ai hs, hX _ hc]
      show F.heap[B + v.toNat]? = some (vp_cell (X.2.2 3) (N, .inr (.inr (.inr (.inr (fun j => if j < N then some (X.2.1 (rf v.toNat j)) else none))))))
      rw [← hsz, f2, hcA, vp_cell_q]
      refine congrArg some (congrArg (arrV _ N) (funext fun j => ?_))
      by_cases hj : j < N
      · rw [if_pos hj, if_pos hj, hrf j hj, hX _ (by omega), hsz]
        refine congrArg va_rf (congrArg some ?_)
        omega
      · rw [if_neg hj, if_neg hj]
    · obtain ⟨j, hj, rfl⟩ : ∃ j, j < N ∧ i = v.toNat + 1 + j := ⟨i - (v.toNat + 1), by omega, by omega⟩
      rw [entP_arr (hrow j hj), ent_int (hrow j hj), hX _ (by omega)]
      show F.heap[B + (v.toNat + 1 + j)]? = some (vp_cell (X.2.2 0) (K, .inl (fun k => i32 (σ (v.toNat + 1 + j) k))))
      have e1 := hrows j hj
      rw [show H.size + 1 + j = B + (v.toNat + 1 + j) by omega] at e1
      rw [e1, hcI]
      have e2 : (fun k => i32 (σ (v.toNat + 1 + j) k)) = (fun _ => (0 : Int32)) := funext fun k => by rw [hz _ _ (by omega)]; rfl
      rw [e2]
      show some ({ cls := _, slots := Array.replicate K _, vm := .none } : Cell) = _
      rw [arrV_new]
      rfl
  have hS1 : va_S (fun q => B ≤ q) H0 F.heap locs := ⟨by have := hS.1; omega, fun x g1 g2 => (hold x (by have : ¬ B ≤ x := g2; omega)).trans (hS.2.1 x g1 g2), hS.2.2⟩
  have KK := k p l e R s m args below meth c Q X B H0 F.heap locs ls hC hB hR ⟨hP1, hK, by omega, hX, by omega⟩ hS1 hl hlo (by
    intro w hw
    rcases List.mem_cons.mp hw with rfl | hw
    · exact trivial
    · exact hso w (by simp [hw])) (by omega) hn
  have e3 : v.toNat + 1 + N - n0 = v.toNat - n0 + 1 + N := by omega
  have e4 : slc (v.toNat + 1 + N) - slc n0 = slc v.toNat - slc n0 + N + N * K := by omega
  rw [e3, e4] at KK
  have e5 : (((2, v) : VV) :: st).map (cv X.2.1) = .ref H.size :: st.map (cv X.2.1) := by
    show Value.ref (X.2.1 v.toNat) :: _ = _
    rw [hX _ hc, hsz]
  rw [e5] at KK
  obtain ⟨t2, a1, b1⟩ := KK F rfl X'
  refine ⟨t2, step t2 ?_, b1⟩
  have hTs : T.heap.size = H.size := by rw [hT]
  rw [hTs]
  exact a1
theorem Cv_mnz {mt : Mth} {d n0 n1 pc n : Nat} {lc : List (Nat × VV)} {st : List VV} {nul : Nat → Nat → Bool} {σ : Sg} {post : PC} {v a b : Int} {N K idx : Nat} (hdg : decode mt.2.1 pc = .ok (.multianewarray idx 2, 4)) (hq : Cond.arrayClass .boolean ∈ tbG ∧ Cond.classLink mt.1.cls idx ("[" ++ (FieldType.array .boolean).toString) ∈ tbG) (hs : shp n = (5, N)) (hrow : ∀ j, j < N → shp (n + 1 + j) = (3, K)) (hrf : ∀ j, j < N → rf n j = n + 1 + j) (ha : a = (N : Int)) (hb0 : b = (K : Int)) (hlen : N ≤ 1000 ∧ K ≤ 1000) (hz : ∀ c k, n ≤ c → σ c k = 0) (hn : n + 1 + N ≤ n1) (hn1 : n1 ≤ NC) (hv : v.toNat = n)
    (k : Cv mt d n0 n1 (pc + 4) lc (((2, v) : VV) :: st) (n + 1 + N) nul σ post) : Cv mt d n0 n1 pc lc (((0, b) : VV) :: ((0, a) : VV) :: st) n nul σ post := by
  intro p l e R s m args below meth c Q X B H0 H locs ls hC hB hR hW hS hl hlo hso hn0 hn1'
  obtain ⟨hx, hb, hml, hown, hts, hC2⟩ := id hC
  obtain ⟨hP, hK, hsz, hX, hNC⟩ := hW
  have hc := shp_lt hs (by decide)
  have hsl : slc (n + 1 + N) = slc n + N + N * K := by
    rw [slc_rows (n + 1) K 2 N hrow]
    show slc n + (if (shp n).1 = 0 then nfs (shp n).2 else (shp n).2) + N * K = _
    rw [hs]; rfl
  have hsl2 : slc (n + 1 + N) ≤ slc n1 := slc_mono hn
  have hsl3 : slc n0 ≤ slc n := slc_mono hn0
  subst hv
  subst ha
  subst hb0
  have oN : ok32 (N : Int) := ⟨by omega, by omega⟩
  have oK : ok32 (K : Int) := ⟨by omega, by omega⟩
  have neg : ∀ {z : Nat}, ok32 (z : Int) → ¬ i32 (z : Int) < 0 := fun {z} hz q => by
    rw [Int32.lt_iff_toInt_lt, i32_toInt hz] at q
    have : (0 : Int32).toInt = 0 := rfl
    omega
  have tN : (i32 (N : Int)).toNatClampNeg = N := by rw [tn32 oN, Int.toNat_natCast]
  have tK : (i32 (K : Int)).toNatClampNeg = K := by rw [tn32 oK, Int.toNat_natCast]
  have hao : (Cond.arrayOver (.array .boolean)).before args s = true := hC2.2.2.2.2.2.1.2
  intro T hT Xs
  obtain ⟨vm₁, cA, comp, -, fA, fC, hO, -, X', step⟩ := Xs.multianewarray2F hx hown (hts _ hq.2) hao (hts _ hq.1) (g := F0 m pc ls (.int (i32 (K : Int)) :: .int (i32 (N : Int)) :: st.map (cv X.2.1))) rfl (by rw [hb]; exact hdg) rfl (neg oN) (neg oK) (by rw [tN]; omega) (by rw [tK]; simp only [componentBytes]; omega) (by rw [tK]; omega) rfl rfl (by rw [tN]; omega) (by rw [tN, tK]; omega)
  rw [tN, tK] at X' step
  generalize hF : Jvm.Free.Multi.fill (T.setVm vm₁) cA comp N K (defaultValue .boolean) N = F at X' step
  have hTh : (T.setVm vm₁).heap = H := hT
  obtain ⟨f1, f2, -, -⟩ := Jvm.Free.Multi.fill_facts (T.setVm vm₁) cA comp N K (defaultValue .boolean) N
  rw [hF, hTh] at f1 f2
  have hold : ∀ x : Nat, x < H.size → F.heap[x]? = H[x]? := fun x hx => by
    have := Jvm.Free.Multi.fill_old (T.setVm vm₁) cA comp N K (defaultValue .boolean) (a := x) (by rw [hTh]; exact hx) N
    rw [hF, hTh] at this
    exact this
  have hrows : ∀ j : Nat, j < N → F.heap[H.size + 1 + j]? = some (Jvm.Free.Multi.innerC comp K (defaultValue .boolean)) := fun j hj => by
    have := Jvm.Free.Multi.fill_inner (T.setVm vm₁) cA comp N K (defaultValue .boolean) N j hj
    rw [hF, hTh] at this
    exact this
  rw [vr_outer cA N H.size N] at f2
  have hcA : cA = X.2.2 4 := by
    have h := (hK.2 4 (X.2.2 4, .array .boolean) rfl).2
    have h2 : s.vm.findClass ("[" ++ (FieldType.array .boolean).toString) = some (X.2.2 4) := h
    exact Option.some.inj (fA.symm.trans h2)
  have hcI : comp = X.2.2 2 := by
    have h := (hK.2 2 (X.2.2 2, .boolean) rfl).2
    have h2 : s.vm.findClass ("[" ++ (FieldType.toString .boolean)) = some (X.2.2 2) := h
    have h3 : (FieldType.array .boolean).toString = "[" ++ (FieldType.toString .boolean) := by decide +kernel
    rw [h3] at fC
    exact Option.some.inj (fC.symm.trans h2)
  have hP1 : va_P X.1 vwCl (wdP X nul σ (v.toNat + 1 + N)) F.heap := by
    refine wdP_ext hP (fun i hi => hold _ (by rw [hX i (by omega)]; omega)) (fun i hi1 hi2 => ?_)
    by_cases e : i = v.toNat
    · subst e
      rw [entP_arr hs, ent_az hs, hX _ hc]
      show F.heap[B + v.toNat]? = some (vp_cell (X.2.2 4) (N, .inr (.inr (.inr (.inr (fun j => if j < N then some (X.2.1 (rf v.toNat j)) else none))))))
      rw [← hsz, f2, hcA, vp_cell_q]
      refine congrArg some (congrArg (arrV _ N) (funext fun j => ?_))
      by_cases hj : j < N
      · rw [if_pos hj, if_pos hj, hrf j hj, hX _ (by omega), hsz]
        refine congrArg va_rf (congrArg some ?_)
        omega
      · rw [if_neg hj, if_neg hj]
    · obtain ⟨j, hj, rfl⟩ : ∃ j, j < N ∧ i = v.toNat + 1 + j := ⟨i - (v.toNat + 1), by omega, by omega⟩
      rw [entP_arr (hrow j hj), ent_bool (hrow j hj), hX _ (by omega)]
      show F.heap[B + (v.toNat + 1 + j)]? = some (vp_cell (X.2.2 2) (K, .inl (fun k => i32 (σ (v.toNat + 1 + j) k))))
      have e1 := hrows j hj
      rw [show H.size + 1 + j = B + (v.toNat + 1 + j) by omega] at e1
      rw [e1, hcI]
      have e2 : (fun k => i32 (σ (v.toNat + 1 + j) k)) = (fun _ => (0 : Int32)) := funext fun k => by rw [hz _ _ (by omega)]; rfl
      rw [e2]
      show some ({ cls := _, slots := Array.replicate K _, vm := .none } : Cell) = _
      rw [arrV_new]
      rfl
  have hS1 : va_S (fun q => B ≤ q) H0 F.heap locs := ⟨by have := hS.1; omega, fun x g1 g2 => (hold x (by have : ¬ B ≤ x := g2; omega)).trans (hS.2.1 x g1 g2), hS.2.2⟩
  have KK := k p l e R s m args below meth c Q X B H0 F.heap locs ls hC hB hR ⟨hP1, hK, by omega, hX, by omega⟩ hS1 hl hlo (by
    intro w hw
    rcases List.mem_cons.mp hw with rfl | hw
    · exact trivial
    · exact hso w (by simp [hw])) (by omega) hn
  have e3 : v.toNat + 1 + N - n0 = v.toNat - n0 + 1 + N := by omega
  have e4 : slc (v.toNat + 1 + N) - slc n0 = slc v.toNat - slc n0 + N + N * K := by omega
  rw [e3, e4] at KK
  have e5 : (((2, v) : VV) :: st).map (cv X.2.1) = .ref H.size :: st.map (cv X.2.1) := by
    show Value.ref (X.2.1 v.toNat) :: _ = _
    rw [hX _ hc, hsz]
  rw [e5] at KK
  obtain ⟨t2, a1, b1⟩ := KK F rfl X'
  refine ⟨t2, step t2 ?_, b1⟩
  have hTs : T.heap.size = H.size := by rw [hT]
  rw [hTs]
  exact a1
