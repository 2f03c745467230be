/-! a count of faces: what is joined, and what parts it -/
def xs (f : Nat → Bool) : Nat → Bool
  | 0 => false
  | n + 1 => xs f n ^^ f n
theorem xs_s (f : Nat → Bool) (n : Nat) : xs f (n + 1) = (xs f n ^^ f n) := rfl
theorem xs_congr {f g : Nat → Bool} {n : Nat} (h : ∀ i, i < n → f i = g i) : xs f n = xs g n := by
  induction n with
  | zero => rfl
  | succ n ih => rw [xs_s, xs_s, ih (fun i hi => h i (by omega)), h n (by omega)]
theorem xs_0 {f : Nat → Bool} {n : Nat} (h : ∀ i, i < n → f i = false) : xs f n = false := by
  induction n with
  | zero => rfl
  | succ n ih => rw [xs_s, ih (fun i hi => h i (by omega)), h n (by omega)]; rfl
theorem xs_xor (f g : Nat → Bool) (n : Nat) : xs (fun i => f i ^^ g i) n = (xs f n ^^ xs g n) := by
  induction n with
  | zero => rfl
  | succ n ih =>
    rw [xs_s, xs_s, xs_s, ih]
    generalize xs f n = a
    generalize xs g n = b
    generalize f n = c
    generalize g n = d
    revert a b c d
    decide
theorem xs_one {f : Nat → Bool} {n k : Nat} (hk : k < n) (h : ∀ i, i < n → i ≠ k → f i = false) : xs f n = f k := by
  induction n with
  | zero => omega
  | succ n ih =>
    rw [xs_s]
    by_cases e : k = n
    · subst e
      rw [xs_0 (fun i hi => h i (by omega) (by omega))]
      exact Bool.false_xor _
    · rw [ih (by omega) (fun i hi hne => h i (by omega) hne), h n (by omega) (by omega)]
      exact Bool.xor_false _
theorem xs_pair (f : Nat → Bool) (n : Nat) : xs f (2 * n) = xs (fun i => f (2 * i) ^^ f (2 * i + 1)) n := by
  induction n with
  | zero => rfl
  | succ n ih =>
    rw [show 2 * (n + 1) = 2 * n + 1 + 1 by omega, xs_s, xs_s, xs_s, ih]
    exact Bool.xor_assoc _ _ _
theorem xs_split (f : Nat → Bool) (n m : Nat) : xs f (n + m) = (xs f n ^^ xs (fun i => f (n + i)) m) := by
  induction m with
  | zero => exact (Bool.xor_false _).symm
  | succ m ih => rw [← Nat.add_assoc, xs_s, xs_s, ih]; exact Bool.xor_assoc _ _ _
theorem xs_block (f : Nat → Bool) (n : Nat) : xs f (32 * n) = xs (fun c => xs (fun k => f (32 * c + k)) 32) n := by
  induction n with
  | zero => rfl
  | succ n ih => rw [show 32 * (n + 1) = 32 * n + 32 by omega, xs_split, ih]; exact (xs_s _ n).symm
theorem sm_block (f : Nat → Nat) (n : Nat) : sm f (32 * n) = sm (fun c => sm (fun k => f (32 * c + k)) 32) n := by
  induction n with
  | zero => rfl
  | succ n ih => rw [show 32 * (n + 1) = 32 * n + 32 by omega, sm_split, ih]; exact (sm_s _ n).symm
theorem xs_init {p z : Nat → Bool} {n k : Nat} (hk : k ≤ n) (h : ∀ i, i < n → (i < k ↔ p i = true)) : xs z k = xs (fun i => p i && z i) n := by
  have e : n = k + (n - k) := by omega
  rw [e, xs_split, xs_0 (f := fun i => p (k + i) && z (k + i)) (fun i hi => ?_), Bool.xor_false]
  · refine xs_congr fun i hi => ?_
    rw [(h i (by omega)).mp hi]
    rfl
  · have : ¬ p (k + i) = true := fun q => by have := (h (k + i) (by omega)).mpr q; omega
    simp [this]
/-- labels by a list of what is joined -/
def lbl (A B : Nat → Nat) : List Nat → Nat → Nat
  | [] => fun i => i
  | e :: l => mrg (lbl A B l) (A e) (B e)
theorem lbl_c (A B : Nat → Nat) (e : Nat) (l : List Nat) : lbl A B (e :: l) = mrg (lbl A B l) (A e) (B e) := rfl
theorem lbl_ok {A B : Nat → Nat} {n : Nat} : ∀ l : List Nat, (∀ e, e ∈ l → A e < n ∧ B e < n) → LabOf (fun x y => ∃ e, e ∈ l ∧ x = A e ∧ y = B e) n (lbl A B l) := by
  intro l
  induction l with
  | nil =>
    intro _
    refine Lab_id (fun a b _ _ z => ?_) (fun _ _ => rfl)
    obtain ⟨e, he, -⟩ := z
    exact absurd he List.not_mem_nil
  | cons e l ih =>
    intro h
    have he := h e List.mem_cons_self
    refine Lab_congr (Lab_mrg (ih fun x hx => h x (List.mem_cons_of_mem _ hx)) he.1 he.2) (fun a b _ _ => ?_) (fun _ _ => rfl)
    constructor
    · rintro (⟨x, hx, e1, e2⟩ | ⟨e1, e2⟩)
      · exact ⟨x, List.mem_cons_of_mem _ hx, e1, e2⟩
      · exact ⟨e, List.mem_cons_self, e1, e2⟩
    · rintro ⟨x, hx, e1, e2⟩
      rcases List.mem_cons.mp hx with rfl | hx
      · exact Or.inr ⟨e1, e2⟩
      · exact Or.inl ⟨x, hx, e1, e2⟩
def cls (A B : Nat → Nat) (l : List Nat) (n : Nat) : Nat := cntN (fun i => lbl A B l i == i) n
theorem cls_c {A B : Nat → Nat} {n e : Nat} {l : List Nat} (h : ∀ x, x ∈ e :: l → A x < n ∧ B x < n) : cls A B (e :: l) n + (if lbl A B l (A e) = lbl A B l (B e) then 0 else 1) = cls A B l n := by
  have he := h e List.mem_cons_self
  exact Lab_cnt (lbl_ok l fun x hx => h x (List.mem_cons_of_mem _ hx)) he.1 he.2
/-- what borders a set of edges, over all of them -/
def bdX (U V : Nat → Nat) (vl : Nat → Bool) (N : Nat) (z : Nat → Bool) (w : Nat) : Bool := xs (fun e => vl e && z e && ((U e == w) ^^ (V e == w))) N
theorem bd_xor (U V : Nat → Nat) (vl : Nat → Bool) (N : Nat) (z y : Nat → Bool) (w : Nat) : bdX U V vl N (fun e => z e ^^ y e) w = (bdX U V vl N z w ^^ bdX U V vl N y w) := by
  unfold bdX
  rw [← xs_xor]
  refine xs_congr fun e _ => ?_
  show (vl e && (z e ^^ y e) && ((U e == w) ^^ (V e == w))) = ((vl e && z e && ((U e == w) ^^ (V e == w))) ^^ (vl e && y e && ((U e == w) ^^ (V e == w))))
  generalize vl e = a
  generalize z e = b
  generalize y e = c
  generalize ((U e == w) ^^ (V e == w)) = d
  revert a b c d
  decide
theorem bd_one {U V : Nat → Nat} {vl : Nat → Bool} {N e : Nat} (he : e < N) (hv : vl e = true) (w : Nat) : bdX U V vl N (fun x => x == e) w = ((U e == w) ^^ (V e == w)) := by
  unfold bdX
  rw [xs_one he (fun i _ hne => by simp [hne])]
  simp [hv]
theorem bd_none (U V : Nat → Nat) (vl : Nat → Bool) (N w : Nat) : bdX U V vl N (fun _ => false) w = false := xs_0 fun e _ => by simp
theorem path_ex {U V : Nat → Nat} {vl : Nat → Bool} {N : Nat} : ∀ l : List Nat, (∀ e, e ∈ l → e < N ∧ vl e = true) → ∀ u, ∃ z : Nat → Bool, (∀ e, z e = true → e ∈ l) ∧ ∀ w, bdX U V vl N z w = ((u == w) ^^ (lbl U V l u == w)) := by
  intro l
  induction l with
  | nil =>
    intro _ u
    exact ⟨fun _ => false, fun e h => absurd h Bool.false_ne_true, fun w => by rw [bd_none]; show false = ((u == w) ^^ (u == w)); rw [Bool.xor_self]⟩
  | cons e l ih =>
    intro h u
    have ih := ih fun x hx => h x (List.mem_cons_of_mem _ hx)
    have he := h e List.mem_cons_self
    rw [lbl_c]
    unfold mrg
    obtain ⟨zu, hu1, hu2⟩ := ih u
    obtain ⟨za, ha1, ha2⟩ := ih (U e)
    obtain ⟨zb, hb1, hb2⟩ := ih (V e)
    by_cases c : lbl U V l u = max (lbl U V l (U e)) (lbl U V l (V e))
    · rw [if_pos c]
      refine ⟨fun x => zu x ^^ (za x ^^ ((x == e) ^^ zb x)), fun x hx => ?_, fun w => ?_⟩
      · by_cases xe : x = e
        · rw [xe]; exact List.mem_cons_self
        · have : zu x = true ∨ za x = true ∨ zb x = true := by
            have e0 : (x == e) = false := by simpa using xe
            have hx' : (zu x ^^ (za x ^^ ((x == e) ^^ zb x))) = true := hx
            rw [e0] at hx'
            revert hx'
            generalize zu x = p
            generalize za x = q
            generalize zb x = r
            revert p q r
            decide
          rcases this with z | z | z
          · exact List.mem_cons_of_mem _ (hu1 x z)
          · exact List.mem_cons_of_mem _ (ha1 x z)
          · exact List.mem_cons_of_mem _ (hb1 x z)
      · have e1 := bd_xor U V vl N zu (fun x => za x ^^ ((x == e) ^^ zb x)) w
        have e2 := bd_xor U V vl N za (fun x => (x == e) ^^ zb x) w
        have e3 := bd_xor U V vl N (fun x => x == e) zb w
        rw [e1, e2, e3, hu2, ha2, hb2, bd_one he.1 he.2, c]
        rcases Nat.le_total (lbl U V l (U e)) (lbl U V l (V e)) with q | q
        · rw [Nat.max_eq_right q, Nat.min_eq_left q]
          generalize (u == w) = p1
          generalize (U e == w) = p2
          generalize (V e == w) = p3
          generalize (lbl U V l (U e) == w) = p4
          generalize (lbl U V l (V e) == w) = p5
          revert p1 p2 p3 p4 p5
          decide
        · rw [Nat.max_eq_left q, Nat.min_eq_right q]
          generalize (u == w) = p1
          generalize (U e == w) = p2
          generalize (V e == w) = p3
          generalize (lbl U V l (U e) == w) = p4
          generalize (lbl U V l (V e) == w) = p5
          revert p1 p2 p3 p4 p5
          decide
    · rw [if_neg c]
      exact ⟨zu, fun x hx => List.mem_cons_of_mem _ (hu1 x hx), hu2⟩
/-- each cycle parts the cells -/
def PlP (U V C E : Nat → Nat) (vl : Nat → Bool) (N : Nat) : Prop := ∀ z : Nat → Bool, (∀ w, bdX U V vl N z w = false) → ∃ col : Nat → Bool, ∀ e, e < N → vl e = true → (col (C e) ^^ col (E e)) = z e
theorem eu_step {U V C E : Nat → Nat} {vl : Nat → Bool} {N nv nc e : Nat} {h d : List Nat} (hP : PlP U V C E vl N) (hb : ∀ e, e < N → vl e = true → (U e < nv ∧ V e < nv) ∧ (C e < nc ∧ E e < nc)) (hh : ∀ x, x ∈ h → x < N ∧ vl x = true) (he : e < N ∧ vl e = true) (hd : ∀ x, x ∈ d → x < N ∧ vl x = true) (n1 : e ∉ h) (n2 : e ∉ d) (n3 : ∀ x, x ∈ h → x ∉ d) : cls C E (e :: d) nc + 1 + cls U V (e :: h) nv ≤ cls C E d nc + cls U V h nv := by
  have c1 := cls_c (A := U) (B := V) (n := nv) (e := e) (l := h) (fun x hx => by
    rcases List.mem_cons.mp hx with rfl | hx
    · exact (hb _ he.1 he.2).1
    · exact (hb _ (hh x hx).1 (hh x hx).2).1)
  have c2 := cls_c (A := C) (B := E) (n := nc) (e := e) (l := d) (fun x hx => by
    rcases List.mem_cons.mp hx with rfl | hx
    · exact (hb _ he.1 he.2).2
    · exact (hb _ (hd x hx).1 (hd x hx).2).2)
  by_cases q : lbl U V h (U e) = lbl U V h (V e)
  · rw [if_pos q] at c1
    have key : lbl C E d (C e) ≠ lbl C E d (E e) := by
      intro w
      obtain ⟨za, ha1, ha2⟩ := path_ex (U := U) (V := V) (vl := vl) (N := N) h hh (U e)
      obtain ⟨zb, hb1, hb2⟩ := path_ex (U := U) (V := V) (vl := vl) (N := N) h hh (V e)
      obtain ⟨col, hcol⟩ := hP (fun x => za x ^^ ((x == e) ^^ zb x)) (fun v => by
        have e2 := bd_xor U V vl N za (fun x => (x == e) ^^ zb x) v
        have e3 := bd_xor U V vl N (fun x => x == e) zb v
        rw [e2, e3, ha2, hb2, bd_one he.1 he.2, q]
        generalize (U e == v) = p2
        generalize (V e == v) = p3
        generalize (lbl U V h (V e) == v) = p4
        revert p2 p3 p4
        decide)
      have nz : ∀ x, x ∉ h → za x = false ∧ zb x = false := fun x hx => by
        constructor
        · cases hz : za x
          · rfl
          · exact absurd (ha1 x hz) hx
        · cases hz : zb x
          · rfl
          · exact absurd (hb1 x hz) hx
      have ce := hcol e he.1 he.2
      rw [(nz e n1).1, (nz e n1).2] at ce
      have lo := lbl_ok (A := C) (B := E) (n := nc) d (fun x hx => (hb _ (hd x hx).1 (hd x hx).2).2)
      have kf := lo.2.2 (fun a => (col a).toNat) (fun a b _ _ r => by
        obtain ⟨x, hx, rfl, rfl⟩ := r
        have cx := hcol x (hd x hx).1 (hd x hx).2
        have nx := nz x (fun y => n3 x y hx)
        have xe : (x == e) = false := by
          have : x ≠ e := fun y => n2 (y ▸ hx)
          simpa using this
        rw [nx.1, nx.2, xe] at cx
        revert cx
        generalize col (C x) = p
        generalize col (E x) = r
        revert p r
        decide)
      have k1 := kf (C e) (hb _ he.1 he.2).2.1
      have k2 := kf (E e) (hb _ he.1 he.2).2.2
      rw [w] at k1
      have k3 := k1.symm.trans k2
      revert ce k3
      have ee : (e == e) = true := by simp
      rw [ee]
      generalize col (C e) = p
      generalize col (E e) = r
      revert p r
      decide
    rw [if_neg key] at c2
    omega
  · rw [if_neg q] at c1
    omega
theorem eu_chain {U V C E : Nat → Nat} {vl : Nat → Bool} {N nv nc : Nat} (hP : PlP U V C E vl N) (hb : ∀ e, e < N → vl e = true → (U e < nv ∧ V e < nv) ∧ (C e < nc ∧ E e < nc)) : ∀ (d1 d2 h : List Nat), (∀ x, x ∈ h → x < N ∧ vl x = true) → (∀ x, x ∈ d1 ++ d2 → x < N ∧ vl x = true) → (d1 ++ d2).Nodup → (∀ x, x ∈ h → x ∉ d1 ++ d2) → cls C E (d1 ++ d2) nc + d1.length + cls U V (d1.reverse ++ h) nv ≤ cls C E d2 nc + cls U V h nv := by
  intro d1
  induction d1 with
  | nil => intro d2 h _ _ _ _; exact Nat.le_refl _
  | cons e d1 ih =>
    intro d2 h hh hd nd nn
    rw [List.cons_append] at hd nd nn ⊢
    have he := hd e List.mem_cons_self
    have nd' := List.nodup_cons.mp nd
    have s1 := eu_step (nv := nv) (nc := nc) (h := h) (d := d1 ++ d2) hP hb hh he (fun x hx => hd x (List.mem_cons_of_mem _ hx)) (fun y => nn e y List.mem_cons_self) nd'.1 (fun x hx y => nn x hx (List.mem_cons_of_mem _ y))
    have s2 := ih d2 (e :: h) (fun x hx => by
      rcases List.mem_cons.mp hx with rfl | hx
      · exact he
      · exact hh x hx) (fun x hx => hd x (List.mem_cons_of_mem _ hx)) nd'.2 (fun x hx => by
      rcases List.mem_cons.mp hx with rfl | hx
      · exact nd'.1
      · exact fun y => nn x hx (List.mem_cons_of_mem _ y))
    rw [List.reverse_cons, List.append_assoc, List.length_cons]
    have e1 : [e] ++ h = e :: h := rfl
    rw [e1]
    omega
theorem cls_nil (A B : Nat → Nat) (n : Nat) : cls A B [] n = n := cnt_all fun i _ => by show (i == i) = true; simp
theorem cls_pos {A B : Nat → Nat} {n : Nat} {l : List Nat} (hn : 0 < n) (h : ∀ e, e ∈ l → A e < n ∧ B e < n) : 0 < cls A B l n := by
  have := (lbl_ok l h).1 0 hn
  apply Nat.pos_of_ne_zero
  intro z
  exact cntN_0.mp z 0 hn (by rw [beq_iff_eq]; omega)
theorem euler {U V C E : Nat → Nat} {vl : Nat → Bool} {N nv nc : Nat} {H R : List Nat} (hP : PlP U V C E vl N) (hb : ∀ e, e < N → vl e = true → (U e < nv ∧ V e < nv) ∧ (C e < nc ∧ E e < nc)) (hL : ∀ x, x ∈ H ++ R → x < N ∧ vl x = true) (nd : (H ++ R).Nodup) (hc : 0 < nc) (hq : nc + nv ≤ H.length + R.length + 1 + cls U V (R.reverse ++ H.reverse) nv) : cls C E R nc + nv = 1 + H.length + cls U V H.reverse nv := by
  have s1 := eu_chain (nv := nv) (nc := nc) hP hb H R [] (fun x hx => absurd hx List.not_mem_nil) hL nd (fun x hx => absurd hx List.not_mem_nil)
  rw [List.append_nil, cls_nil] at s1
  have nd2 := List.nodup_append.mp nd
  have s2 := eu_chain (nv := nv) (nc := nc) hP hb R [] H.reverse (fun x hx => hL x (List.mem_append_left _ (List.mem_reverse.mp hx))) (fun x hx => hL x (by rw [List.append_nil] at hx; exact List.mem_append_right _ hx)) (by rw [List.append_nil]; exact nd2.2.1) (fun x hx y => by
    rw [List.append_nil] at y
    exact nd2.2.2 x (List.mem_reverse.mp hx) x y rfl)
  rw [List.append_nil, cls_nil] at s2
  have p := cls_pos (A := C) (B := E) (l := H ++ R) hc (fun e he => (hb e (hL e he).1 (hL e he).2).2)
  omega
