/-! joins and loops of the light texts, by how many numbers they pass on, and whether the heap too -/
def jn {T : Type} (F : T → Prop) (K : T) : Prop := F K
def lpN {T : Type} (f : T) (body : T → T) : Nat → T
  | 0 => f
  | n + 1 => body (lpN f body n)
def poIs (t : Nat) (post : Int → Sg → Prop) : PO := fun v s' => ∃ r, v = some (t, r) ∧ post r s'
def poI (t : Nat) (s : Sg) (post : Int → Prop) : PO := fun v s' => s = s' ∧ ∃ r, v = some (t, r) ∧ post r
def poV (post : Sg → Prop) : PO := fun v s' => v = none ∧ post s'
def poN (s : Sg) (post : Prop) : PO := fun v s' => s = s' ∧ v = none ∧ post
theorem poIs_mk {t : Nat} {post : Int → Sg → Prop} {r : Int} {s : Sg} (h : post r s) : poIs t post (some (t, r)) s := ⟨r, rfl, h⟩
theorem poI_mk {t : Nat} {post : Int → Prop} {r : Int} {s : Sg} (h : post r) : poI t s post (some (t, r)) s := ⟨rfl, r, rfl, h⟩
theorem poV_mk {post : Sg → Prop} {s : Sg} (h : post s) : poV post none s := ⟨rfl, h⟩
theorem poN_mk {post : Prop} {s : Sg} (h : post) : poN s post none s := ⟨rfl, rfl, h⟩
theorem jc_0 {F : Prop → Prop} {K0 P G : Prop} (h : jn F K0) (hK : K0 → P) (hF : ∀ K : Prop, (K → P) → F K → G) : G := hF K0 hK h
theorem jc_0s {F : (Sg → Prop) → Prop} {K0 P : Sg → Prop} {G : Prop} (h : jn F K0) (hK : ∀  (s : Sg), K0 s → P s) (hF : ∀ K : Sg → Prop, (∀  (s : Sg), K s → P s) → F K → G) : G := hF K0 hK h
def lp_0s (body : (Sg → Prop) → Sg → Prop)  (s : Sg) : Prop := ∃ n, lpN (fun _ => False) body n s
theorem li_0s {body : (Sg → Prop) → Sg → Prop} {P : Sg → Prop} {s : Sg} (h : ∀ (again : Sg → Prop)  (s : Sg), (∀  (s : Sg), again s → P s) → body again s → P s) (hlp : lp_0s body s) : P s := by
  have H : ∀ n  (s : Sg), lpN (fun _ => False) body n s → P s := by
    intro n
    induction n with
    | zero => intro s h; exact h.elim
    | succ n ih => intro s h2; exact h _ s ih h2
  obtain ⟨n, hn⟩ := hlp
  exact H n s hn
theorem lr_0s {body : (Sg → Prop) → Sg → Prop} (Inv : Sg → Prop) (m : Sg → Nat) (h : ∀ (again : Sg → Prop)  (s : Sg), Inv s → (∀  (t : Sg), Inv t → m t < m s → again t) → body again s) : ∀  (s : Sg), Inv s → lp_0s body s := by
  have H : ∀ n  (s : Sg), Inv s → m s < n → lpN (fun _ => False) body n s := by
    intro n
    induction n with
    | zero => intro s _ h; exact absurd h (Nat.not_lt_zero _)
    | succ n ih => intro s hi hm; exact h _ s hi (fun t hi2 hm2 => ih t hi2 (by omega))
  intro s hi
  exact ⟨m s + 1, H _ s hi (Nat.lt_succ_self _)⟩
theorem jc_1 {F : (Int → Prop) → Prop} {K0 P : Int → Prop} {G : Prop} (h : jn F K0) (hK : ∀ (x0 : Int), K0 x0 → P x0) (hF : ∀ K : Int → Prop, (∀ (x0 : Int), K x0 → P x0) → F K → G) : G := hF K0 hK h
def lp_1 (body : (Int → Prop) → Int → Prop) (x0 : Int) : Prop := ∃ n, lpN (fun _ => False) body n x0
theorem li_1 {body : (Int → Prop) → Int → Prop} {P : Int → Prop} {x0 : Int} (h : ∀ (again : Int → Prop) (x0 : Int), (∀ (x0 : Int), again x0 → P x0) → body again x0 → P x0) (hlp : lp_1 body x0) : P x0 := by
  have H : ∀ n (x0 : Int), lpN (fun _ => False) body n x0 → P x0 := by
    intro n
    induction n with
    | zero => intro x0 h; exact h.elim
    | succ n ih => intro x0 h2; exact h _ x0 ih h2
  obtain ⟨n, hn⟩ := hlp
  exact H n x0 hn
theorem lr_1 {body : (Int → Prop) → Int → Prop} (Inv : Int → Prop) (m : Int → Nat) (h : ∀ (again : Int → Prop) (x0 : Int), Inv x0 → (∀ (y0 : Int), Inv y0 → m y0 < m x0 → again y0) → body again x0) : ∀ (x0 : Int), Inv x0 → lp_1 body x0 := by
  have H : ∀ n (x0 : Int), Inv x0 → m x0 < n → lpN (fun _ => False) body n x0 := by
    intro n
    induction n with
    | zero => intro x0 _ h; exact absurd h (Nat.not_lt_zero _)
    | succ n ih => intro x0 hi hm; exact h _ x0 hi (fun y0 hi2 hm2 => ih y0 hi2 (by omega))
  intro x0 hi
  exact ⟨m x0 + 1, H _ x0 hi (Nat.lt_succ_self _)⟩
theorem jc_1s {F : (Int → Sg → Prop) → Prop} {K0 P : Int → Sg → Prop} {G : Prop} (h : jn F K0) (hK : ∀ (x0 : Int) (s : Sg), K0 x0 s → P x0 s) (hF : ∀ K : Int → Sg → Prop, (∀ (x0 : Int) (s : Sg), K x0 s → P x0 s) → F K → G) : G := hF K0 hK h
def lp_1s (body : (Int → Sg → Prop) → Int → Sg → Prop) (x0 : Int) (s : Sg) : Prop := ∃ n, lpN (fun _ _ => False) body n x0 s
theorem li_1s {body : (Int → Sg → Prop) → Int → Sg → Prop} {P : Int → Sg → Prop} {x0 : Int} {s : Sg} (h : ∀ (again : Int → Sg → Prop) (x0 : Int) (s : Sg), (∀ (x0 : Int) (s : Sg), again x0 s → P x0 s) → body again x0 s → P x0 s) (hlp : lp_1s body x0 s) : P x0 s := by
  have H : ∀ n (x0 : Int) (s : Sg), lpN (fun _ _ => False) body n x0 s → P x0 s := by
    intro n
    induction n with
    | zero => intro x0 s h; exact h.elim
    | succ n ih => intro x0 s h2; exact h _ x0 s ih h2
  obtain ⟨n, hn⟩ := hlp
  exact H n x0 s hn
theorem lr_1s {body : (Int → Sg → Prop) → Int → Sg → Prop} (Inv : Int → Sg → Prop) (m : Int → Sg → Nat) (h : ∀ (again : Int → Sg → Prop) (x0 : Int) (s : Sg), Inv x0 s → (∀ (y0 : Int) (t : Sg), Inv y0 t → m y0 t < m x0 s → again y0 t) → body again x0 s) : ∀ (x0 : Int) (s : Sg), Inv x0 s → lp_1s body x0 s := by
  have H : ∀ n (x0 : Int) (s : Sg), Inv x0 s → m x0 s < n → lpN (fun _ _ => False) body n x0 s := by
    intro n
    induction n with
    | zero => intro x0 s _ h; exact absurd h (Nat.not_lt_zero _)
    | succ n ih => intro x0 s hi hm; exact h _ x0 s hi (fun y0 t hi2 hm2 => ih y0 t hi2 (by omega))
  intro x0 s hi
  exact ⟨m x0 s + 1, H _ x0 s hi (Nat.lt_succ_self _)⟩
theorem jc_2 {F : (Int → Int → Prop) → Prop} {K0 P : Int → Int → Prop} {G : Prop} (h : jn F K0) (hK : ∀ (x0 x1 : Int), K0 x0 x1 → P x0 x1) (hF : ∀ K : Int → Int → Prop, (∀ (x0 x1 : Int), K x0 x1 → P x0 x1) → F K → G) : G := hF K0 hK h
def lp_2 (body : (Int → Int → Prop) → Int → Int → Prop) (x0 x1 : Int) : Prop := ∃ n, lpN (fun _ _ => False) body n x0 x1
theorem li_2 {body : (Int → Int → Prop) → Int → Int → Prop} {P : Int → Int → Prop} {x0 x1 : Int} (h : ∀ (again : Int → Int → Prop) (x0 x1 : Int), (∀ (x0 x1 : Int), again x0 x1 → P x0 x1) → body again x0 x1 → P x0 x1) (hlp : lp_2 body x0 x1) : P x0 x1 := by
  have H : ∀ n (x0 x1 : Int), lpN (fun _ _ => False) body n x0 x1 → P x0 x1 := by
    intro n
    induction n with
    | zero => intro x0 x1 h; exact h.elim
    | succ n ih => intro x0 x1 h2; exact h _ x0 x1 ih h2
  obtain ⟨n, hn⟩ := hlp
  exact H n x0 x1 hn
theorem lr_2 {body : (Int → Int → Prop) → Int → Int → Prop} (Inv : Int → Int → Prop) (m : Int → Int → Nat) (h : ∀ (again : Int → Int → Prop) (x0 x1 : Int), Inv x0 x1 → (∀ (y0 y1 : Int), Inv y0 y1 → m y0 y1 < m x0 x1 → again y0 y1) → body again x0 x1) : ∀ (x0 x1 : Int), Inv x0 x1 → lp_2 body x0 x1 := by
  have H : ∀ n (x0 x1 : Int), Inv x0 x1 → m x0 x1 < n → lpN (fun _ _ => False) body n x0 x1 := by
    intro n
    induction n with
    | zero => intro x0 x1 _ h; exact absurd h (Nat.not_lt_zero _)
    | succ n ih => intro x0 x1 hi hm; exact h _ x0 x1 hi (fun y0 y1 hi2 hm2 => ih y0 y1 hi2 (by omega))
  intro x0 x1 hi
  exact ⟨m x0 x1 + 1, H _ x0 x1 hi (Nat.lt_succ_self _)⟩
theorem jc_2s {F : (Int → Int → Sg → Prop) → Prop} {K0 P : Int → Int → Sg → Prop} {G : Prop} (h : jn F K0) (hK : ∀ (x0 x1 : Int) (s : Sg), K0 x0 x1 s → P x0 x1 s) (hF : ∀ K : Int → Int → Sg → Prop, (∀ (x0 x1 : Int) (s : Sg), K x0 x1 s → P x0 x1 s) → F K → G) : G := hF K0 hK h
def lp_2s (body : (Int → Int → Sg → Prop) → Int → Int → Sg → Prop) (x0 x1 : Int) (s : Sg) : Prop := ∃ n, lpN (fun _ _ _ => False) body n x0 x1 s
theorem li_2s {body : (Int → Int → Sg → Prop) → Int → Int → Sg → Prop} {P : Int → Int → Sg → Prop} {x0 x1 : Int} {s : Sg} (h : ∀ (again : Int → Int → Sg → Prop) (x0 x1 : Int) (s : Sg), (∀ (x0 x1 : Int) (s : Sg), again x0 x1 s → P x0 x1 s) → body again x0 x1 s → P x0 x1 s) (hlp : lp_2s body x0 x1 s) : P x0 x1 s := by
  have H : ∀ n (x0 x1 : Int) (s : Sg), lpN (fun _ _ _ => False) body n x0 x1 s → P x0 x1 s := by
    intro n
    induction n with
    | zero => intro x0 x1 s h; exact h.elim
    | succ n ih => intro x0 x1 s h2; exact h _ x0 x1 s ih h2
  obtain ⟨n, hn⟩ := hlp
  exact H n x0 x1 s hn
theorem lr_2s {body : (Int → Int → Sg → Prop) → Int → Int → Sg → Prop} (Inv : Int → Int → Sg → Prop) (m : Int → Int → Sg → Nat) (h : ∀ (again : Int → Int → Sg → Prop) (x0 x1 : Int) (s : Sg), Inv x0 x1 s → (∀ (y0 y1 : Int) (t : Sg), Inv y0 y1 t → m y0 y1 t < m x0 x1 s → again y0 y1 t) → body again x0 x1 s) : ∀ (x0 x1 : Int) (s : Sg), Inv x0 x1 s → lp_2s body x0 x1 s := by
  have H : ∀ n (x0 x1 : Int) (s : Sg), Inv x0 x1 s → m x0 x1 s < n → lpN (fun _ _ _ => False) body n x0 x1 s := by
    intro n
    induction n with
    | zero => intro x0 x1 s _ h; exact absurd h (Nat.not_lt_zero _)
    | succ n ih => intro x0 x1 s hi hm; exact h _ x0 x1 s hi (fun y0 y1 t hi2 hm2 => ih y0 y1 t hi2 (by omega))
  intro x0 x1 s hi
  exact ⟨m x0 x1 s + 1, H _ x0 x1 s hi (Nat.lt_succ_self _)⟩
theorem jc_3 {F : (Int → Int → Int → Prop) → Prop} {K0 P : Int → Int → Int → Prop} {G : Prop} (h : jn F K0) (hK : ∀ (x0 x1 x2 : Int), K0 x0 x1 x2 → P x0 x1 x2) (hF : ∀ K : Int → Int → Int → Prop, (∀ (x0 x1 x2 : Int), K x0 x1 x2 → P x0 x1 x2) → F K → G) : G := hF K0 hK h
def lp_3 (body : (Int → Int → Int → Prop) → Int → Int → Int → Prop) (x0 x1 x2 : Int) : Prop := ∃ n, lpN (fun _ _ _ => False) body n x0 x1 x2
theorem li_3 {body : (Int → Int → Int → Prop) → Int → Int → Int → Prop} {P : Int → Int → Int → Prop} {x0 x1 x2 : Int} (h : ∀ (again : Int → Int → Int → Prop) (x0 x1 x2 : Int), (∀ (x0 x1 x2 : Int), again x0 x1 x2 → P x0 x1 x2) → body again x0 x1 x2 → P x0 x1 x2) (hlp : lp_3 body x0 x1 x2) : P x0 x1 x2 := by
  have H : ∀ n (x0 x1 x2 : Int), lpN (fun _ _ _ => False) body n x0 x1 x2 → P x0 x1 x2 := by
    intro n
    induction n with
    | zero => intro x0 x1 x2 h; exact h.elim
    | succ n ih => intro x0 x1 x2 h2; exact h _ x0 x1 x2 ih h2
  obtain ⟨n, hn⟩ := hlp
  exact H n x0 x1 x2 hn
theorem lr_3 {body : (Int → Int → Int → Prop) → Int → Int → Int → Prop} (Inv : Int → Int → Int → Prop) (m : Int → Int → Int → Nat) (h : ∀ (again : Int → Int → Int → Prop) (x0 x1 x2 : Int), Inv x0 x1 x2 → (∀ (y0 y1 y2 : Int), Inv y0 y1 y2 → m y0 y1 y2 < m x0 x1 x2 → again y0 y1 y2) → body again x0 x1 x2) : ∀ (x0 x1 x2 : Int), Inv x0 x1 x2 → lp_3 body x0 x1 x2 := by
  have H : ∀ n (x0 x1 x2 : Int), Inv x0 x1 x2 → m x0 x1 x2 < n → lpN (fun _ _ _ => False) body n x0 x1 x2 := by
    intro n
    induction n with
    | zero => intro x0 x1 x2 _ h; exact absurd h (Nat.not_lt_zero _)
    | succ n ih => intro x0 x1 x2 hi hm; exact h _ x0 x1 x2 hi (fun y0 y1 y2 hi2 hm2 => ih y0 y1 y2 hi2 (by omega))
  intro x0 x1 x2 hi
  exact ⟨m x0 x1 x2 + 1, H _ x0 x1 x2 hi (Nat.lt_succ_self _)⟩
theorem jc_3s {F : (Int → Int → Int → Sg → Prop) → Prop} {K0 P : Int → Int → Int → Sg → Prop} {G : Prop} (h : jn F K0) (hK : ∀ (x0 x1 x2 : Int) (s : Sg), K0 x0 x1 x2 s → P x0 x1 x2 s) (hF : ∀ K : Int → Int → Int → Sg → Prop, (∀ (x0 x1 x2 : Int) (s : Sg), K x0 x1 x2 s → P x0 x1 x2 s) → F K → G) : G := hF K0 hK h
def lp_3s (body : (Int → Int → Int → Sg → Prop) → Int → Int → Int → Sg → Prop) (x0 x1 x2 : Int) (s : Sg) : Prop := ∃ n, lpN (fun _ _ _ _ => False) body n x0 x1 x2 s
theorem li_3s {body : (Int → Int → Int → Sg → Prop) → Int → Int → Int → Sg → Prop} {P : Int → Int → Int → Sg → Prop} {x0 x1 x2 : Int} {s : Sg} (h : ∀ (again : Int → Int → Int → Sg → Prop) (x0 x1 x2 : Int) (s : Sg), (∀ (x0 x1 x2 : Int) (s : Sg), again x0 x1 x2 s → P x0 x1 x2 s) → body again x0 x1 x2 s → P x0 x1 x2 s) (hlp : lp_3s body x0 x1 x2 s) : P x0 x1 x2 s := by
  have H : ∀ n (x0 x1 x2 : Int) (s : Sg), lpN (fun _ _ _ _ => False) body n x0 x1 x2 s → P x0 x1 x2 s := by
    intro n
    induction n with
    | zero => intro x0 x1 x2 s h; exact h.elim
    | succ n ih => intro x0 x1 x2 s h2; exact h _ x0 x1 x2 s ih h2
  obtain ⟨n, hn⟩ := hlp
  exact H n x0 x1 x2 s hn
theorem lr_3s {body : (Int → Int → Int → Sg → Prop) → Int → Int → Int → Sg → Prop} (Inv : Int → Int → Int → Sg → Prop) (m : Int → Int → Int → Sg → Nat) (h : ∀ (again : Int → Int → Int → Sg → Prop) (x0 x1 x2 : Int) (s : Sg), Inv x0 x1 x2 s → (∀ (y0 y1 y2 : Int) (t : Sg), Inv y0 y1 y2 t → m y0 y1 y2 t < m x0 x1 x2 s → again y0 y1 y2 t) → body again x0 x1 x2 s) : ∀ (x0 x1 x2 : Int) (s : Sg), Inv x0 x1 x2 s → lp_3s body x0 x1 x2 s := by
  have H : ∀ n (x0 x1 x2 : Int) (s : Sg), Inv x0 x1 x2 s → m x0 x1 x2 s < n → lpN (fun _ _ _ _ => False) body n x0 x1 x2 s := by
    intro n
    induction n with
    | zero => intro x0 x1 x2 s _ h; exact absurd h (Nat.not_lt_zero _)
    | succ n ih => intro x0 x1 x2 s hi hm; exact h _ x0 x1 x2 s hi (fun y0 y1 y2 t hi2 hm2 => ih y0 y1 y2 t hi2 (by omega))
  intro x0 x1 x2 s hi
  exact ⟨m x0 x1 x2 s + 1, H _ x0 x1 x2 s hi (Nat.lt_succ_self _)⟩
theorem jc_4 {F : (Int → Int → Int → Int → Prop) → Prop} {K0 P : Int → Int → Int → Int → Prop} {G : Prop} (h : jn F K0) (hK : ∀ (x0 x1 x2 x3 : Int), K0 x0 x1 x2 x3 → P x0 x1 x2 x3) (hF : ∀ K : Int → Int → Int → Int → Prop, (∀ (x0 x1 x2 x3 : Int), K x0 x1 x2 x3 → P x0 x1 x2 x3) → F K → G) : G := hF K0 hK h
def lp_4 (body : (Int → Int → Int → Int → Prop) → Int → Int → Int → Int → Prop) (x0 x1 x2 x3 : Int) : Prop := ∃ n, lpN (fun _ _ _ _ => False) body n x0 x1 x2 x3
theorem li_4 {body : (Int → Int → Int → Int → Prop) → Int → Int → Int → Int → Prop} {P : Int → Int → Int → Int → Prop} {x0 x1 x2 x3 : Int} (h : ∀ (again : Int → Int → Int → Int → Prop) (x0 x1 x2 x3 : Int), (∀ (x0 x1 x2 x3 : Int), again x0 x1 x2 x3 → P x0 x1 x2 x3) → body again x0 x1 x2 x3 → P x0 x1 x2 x3) (hlp : lp_4 body x0 x1 x2 x3) : P x0 x1 x2 x3 := by
  have H : ∀ n (x0 x1 x2 x3 : Int), lpN (fun _ _ _ _ => False) body n x0 x1 x2 x3 → P x0 x1 x2 x3 := by
    intro n
    induction n with
    | zero => intro x0 x1 x2 x3 h; exact h.elim
    | succ n ih => intro x0 x1 x2 x3 h2; exact h _ x0 x1 x2 x3 ih h2
  obtain ⟨n, hn⟩ := hlp
  exact H n x0 x1 x2 x3 hn
theorem lr_4 {body : (Int → Int → Int → Int → Prop) → Int → Int → Int → Int → Prop} (Inv : Int → Int → Int → Int → Prop) (m : Int → Int → Int → Int → Nat) (h : ∀ (again : Int → Int → Int → Int → Prop) (x0 x1 x2 x3 : Int), Inv x0 x1 x2 x3 → (∀ (y0 y1 y2 y3 : Int), Inv y0 y1 y2 y3 → m y0 y1 y2 y3 < m x0 x1 x2 x3 → again y0 y1 y2 y3) → body again x0 x1 x2 x3) : ∀ (x0 x1 x2 x3 : Int), Inv x0 x1 x2 x3 → lp_4 body x0 x1 x2 x3 := by
  have H : ∀ n (x0 x1 x2 x3 : Int), Inv x0 x1 x2 x3 → m x0 x1 x2 x3 < n → lpN (fun _ _ _ _ => False) body n x0 x1 x2 x3 := by
    intro n
    induction n with
    | zero => intro x0 x1 x2 x3 _ h; exact absurd h (Nat.not_lt_zero _)
    | succ n ih => intro x0 x1 x2 x3 hi hm; exact h _ x0 x1 x2 x3 hi (fun y0 y1 y2 y3 hi2 hm2 => ih y0 y1 y2 y3 hi2 (by omega))
  intro x0 x1 x2 x3 hi
  exact ⟨m x0 x1 x2 x3 + 1, H _ x0 x1 x2 x3 hi (Nat.lt_succ_self _)⟩
theorem jc_4s {F : (Int → Int → Int → Int → Sg → Prop) → Prop} {K0 P : Int → Int → Int → Int → Sg → Prop} {G : Prop} (h : jn F K0) (hK : ∀ (x0 x1 x2 x3 : Int) (s : Sg), K0 x0 x1 x2 x3 s → P x0 x1 x2 x3 s) (hF : ∀ K : Int → Int → Int → Int → Sg → Prop, (∀ (x0 x1 x2 x3 : Int) (s : Sg), K x0 x1 x2 x3 s → P x0 x1 x2 x3 s) → F K → G) : G := hF K0 hK h
def lp_4s (body : (Int → Int → Int → Int → Sg → Prop) → Int → Int → Int → Int → Sg → Prop) (x0 x1 x2 x3 : Int) (s : Sg) : Prop := ∃ n, lpN (fun _ _ _ _ _ => False) body n x0 x1 x2 x3 s
theorem li_4s {body : (Int → Int → Int → Int → Sg → Prop) → Int → Int → Int → Int → Sg → Prop} {P : Int → Int → Int → Int → Sg → Prop} {x0 x1 x2 x3 : Int} {s : Sg} (h : ∀ (again : Int → Int → Int → Int → Sg → Prop) (x0 x1 x2 x3 : Int) (s : Sg), (∀ (x0 x1 x2 x3 : Int) (s : Sg), again x0 x1 x2 x3 s → P x0 x1 x2 x3 s) → body again x0 x1 x2 x3 s → P x0 x1 x2 x3 s) (hlp : lp_4s body x0 x1 x2 x3 s) : P x0 x1 x2 x3 s := by
  have H : ∀ n (x0 x1 x2 x3 : Int) (s : Sg), lpN (fun _ _ _ _ _ => False) body n x0 x1 x2 x3 s → P x0 x1 x2 x3 s := by
    intro n
    induction n with
    | zero => intro x0 x1 x2 x3 s h; exact h.elim
    | succ n ih => intro x0 x1 x2 x3 s h2; exact h _ x0 x1 x2 x3 s ih h2
  obtain ⟨n, hn⟩ := hlp
  exact H n x0 x1 x2 x3 s hn
theorem lr_4s {body : (Int → Int → Int → Int → Sg → Prop) → Int → Int → Int → Int → Sg → Prop} (Inv : Int → Int → Int → Int → Sg → Prop) (m : Int → Int → Int → Int → Sg → Nat) (h : ∀ (again : Int → Int → Int → Int → Sg → Prop) (x0 x1 x2 x3 : Int) (s : Sg), Inv x0 x1 x2 x3 s → (∀ (y0 y1 y2 y3 : Int) (t : Sg), Inv y0 y1 y2 y3 t → m y0 y1 y2 y3 t < m x0 x1 x2 x3 s → again y0 y1 y2 y3 t) → body again x0 x1 x2 x3 s) : ∀ (x0 x1 x2 x3 : Int) (s : Sg), Inv x0 x1 x2 x3 s → lp_4s body x0 x1 x2 x3 s := by
  have H : ∀ n (x0 x1 x2 x3 : Int) (s : Sg), Inv x0 x1 x2 x3 s → m x0 x1 x2 x3 s < n → lpN (fun _ _ _ _ _ => False) body n x0 x1 x2 x3 s := by
    intro n
    induction n with
    | zero => intro x0 x1 x2 x3 s _ h; exact absurd h (Nat.not_lt_zero _)
    | succ n ih => intro x0 x1 x2 x3 s hi hm; exact h _ x0 x1 x2 x3 s hi (fun y0 y1 y2 y3 t hi2 hm2 => ih y0 y1 y2 y3 t hi2 (by omega))
  intro x0 x1 x2 x3 s hi
  exact ⟨m x0 x1 x2 x3 s + 1, H _ x0 x1 x2 x3 s hi (Nat.lt_succ_self _)⟩
theorem lcmp_lt {a b : Int} : lcmp a b < 0 ↔ a < b := by
  unfold lcmp; split <;> (try split) <;> constructor <;> intro h <;> omega
theorem lcmp_ge {a b : Int} : 0 ≤ lcmp a b ↔ b ≤ a := by
  unfold lcmp; split <;> (try split) <;> constructor <;> intro h <;> omega
theorem lcmp_gt {a b : Int} : 0 < lcmp a b ↔ b < a := by
  unfold lcmp; split <;> (try split) <;> constructor <;> intro h <;> omega
theorem lcmp_le {a b : Int} : lcmp a b ≤ 0 ↔ a ≤ b := by
  unfold lcmp; split <;> (try split) <;> constructor <;> intro h <;> omega
theorem lcmp_eq {a b : Int} : lcmp a b = 0 ↔ a = b := by
  unfold lcmp; split <;> (try split) <;> constructor <;> intro h <;> omega
