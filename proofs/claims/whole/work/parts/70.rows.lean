/-! the lines through a slab, in groups that go the same way -/
def ffB : Nat → Nat → Bool := fun _ _ => false
theorem pos_ff (r : Nat → Nat) (l k : Nat) : posN ffB r l k = k := by
  cases k with
  | zero => rfl
  | succ k => exact posN_stop (by unfold ffB; decide)
theorem row_ff_s (th : Nat → Bool) (N : Nat) : rowN ffB th (N + 1) = if th N = true then insN (rowN ffB th N) (cntN th N) N else rowN ffB th N := by
  rw [rowN_s, pos_ff]
theorem row_ff {th : Nat → Bool} {N : Nat} : ∀ j, j < N → th j = true → cntN th j < cntN th N ∧ rowN ffB th N (cntN th j) = j := by
  induction N with
  | zero => intro j hj; exact absurd hj (Nat.not_lt_zero _)
  | succ N ih =>
    intro j hj tj
    rw [row_ff_s, cntN_s]
    by_cases e : j = N
    · subst e
      rw [if_pos tj, if_pos tj]
      refine ⟨by omega, ?_⟩
      unfold insN
      rw [if_neg (Nat.lt_irrefl _), if_pos rfl]
    · obtain ⟨h1, h2⟩ := ih j (by omega) tj
      by_cases c : th N = true
      · rw [if_pos c, if_pos c]
        refine ⟨by omega, ?_⟩
        unfold insN
        rw [if_pos h1, h2]
      · rw [if_neg c, if_neg c]
        exact ⟨h1, h2⟩
theorem row_ff_inc (th : Nat → Bool) (N : Nat) : SInc (fun a b : Nat => a < b) (rowN ffB th N) (cntN th N) := by
  induction N with
  | zero => intro a b _ hb; exact absurd hb (Nat.not_lt_zero _)
  | succ N ih =>
    rw [row_ff_s, cntN_s]
    by_cases c : th N = true
    · rw [if_pos c, if_pos c]
      intro a b hab hb
      unfold insN
      by_cases e : b = cntN th N
      · rw [if_pos (show a < cntN th N by omega), if_neg (by omega), if_pos e]
        exact (rowN_lt ffB th N a (by omega)).1
      · rw [if_pos (show a < cntN th N by omega), if_pos (by omega)]
        exact ih a b hab (by omega)
    · rw [if_neg c, if_neg c]
      exact ih
def rwC (D : Nat → Nat → Int) (g : Nat → Int × Int) (n b : Nat) : Nat := cntN (thrB D g b) n
def rwF (D : Nat → Nat → Int) (g : Nat → Int × Int) (n b : Nat) : Nat → Nat := rowN (gtB D (g b).1 (g b).2) (thrB D g b) n
theorem thr_run {D : Nat → Nat → Int} {n : Nat} {g : Nat → Int × Int} (h : LsD D (n : Int)) {b i : Nat} (hi : i < n) (t : thrB D g b i = true) : D 0 i < D 2 i := by
  unfold thrB at t
  rw [decide_eq_true_iff] at t
  have := (h.2 i (by omega)).2
  omega
theorem rw_lt {D : Nat → Nat → Int} {g : Nat → Int × Int} {n b k : Nat} (hk : k < rwC D g n b) : rwF D g n b k < n ∧ thrB D g b (rwF D g n b k) = true := rowN_lt _ _ _ k hk
theorem rw_inc {D : Nat → Nat → Int} {g : Nat → Int × Int} {n b : Nat} (h : LsD D (n : Int)) : SInc (ltL D (g b).1 (g b).2) (rwF D g n b) (rwC D g n b) := rowN_inc n (fun _ hi t => thr_run h hi t)
theorem rw_mem {D : Nat → Nat → Int} {g : Nat → Int × Int} {n b i : Nat} (hi : i < n) (t : thrB D g b i = true) : ∃ k, k < rwC D g n b ∧ rwF D g n b k = i := rowN_mem _ _ n i hi t
theorem rw_10 {D : Nat → Nat → Int} {g : Nat → Int × Int} {n b : Nat} (h : LsD D (n : Int)) : rwC D g n b ≤ 10 := by
  have := cntN_le (thrB D g b) n
  have := h.1
  unfold rwC
  omega
/-- the class's row, with those that don't go through left out -/
theorem flt_row {D : Nat → Nat → Int} {n m M : Nat} {f : Nat → Int × Int × Int × Int} {g : Nat → Int × Int} (hS : Swp D n m f M g) {b : Nat} (hb : b + 1 < M) :
    cntN (fun j => thrB D g b (rowN (gtB D (g b).1 (g b).2) (thereB D (g b).1 (g b).2 (-1)) n j)) (cntN (thereB D (g b).1 (g b).2 (-1)) n) = rwC D g n b ∧
    ∀ j, j < cntN (thereB D (g b).1 (g b).2 (-1)) n → thrB D g b (rowN (gtB D (g b).1 (g b).2) (thereB D (g b).1 (g b).2 (-1)) n j) = true → cntN (fun j => thrB D g b (rowN (gtB D (g b).1 (g b).2) (thereB D (g b).1 (g b).2 (-1)) n j)) j < rwC D g n b ∧ rwF D g n b (cntN (fun j => thrB D g b (rowN (gtB D (g b).1 (g b).2) (thereB D (g b).1 (g b).2 (-1)) n j)) j) = rowN (gtB D (g b).1 (g b).2) (thereB D (g b).1 (g b).2 (-1)) n j := by
  have inc := rowN_inc (D := D) (x := (g b).1) (xd := (g b).2) (th := thereB D (g b).1 (g b).2 (-1)) n (fun i hi t => there_run hS.1 i (by omega) t)
  have rl := rowN_lt (gtB D (g b).1 (g b).2) (thereB D (g b).1 (g b).2 (-1)) n
  have rm := rowN_mem (gtB D (g b).1 (g b).2) (thereB D (g b).1 (g b).2 (-1)) n
  have tt : ∀ i, i < n → thrB D g b i = true → thereB D (g b).1 (g b).2 (-1) i = true := by
    intro i hi t
    have t2 := t
    rw [thr_iff hS hb hi] at t2
    unfold thereB
    rw [decide_eq_true_iff, (rch_iff hS (show b < M by omega) _).1, (rch_iff hS (show b < M by omega) _).2]
    have x := XX_lt hS (show b < b + 1 by omega) hb
    exact ⟨by omega, by omega, t2.2.1, by omega⟩
  generalize rowN (gtB D (g b).1 (g b).2) (thereB D (g b).1 (g b).2 (-1)) n = R at *
  generalize cntN (thereB D (g b).1 (g b).2 (-1)) n = N at *
  have fl := rowN_lt ffB (fun j => thrB D g b (R j)) N
  have fi := row_ff_inc (fun j => thrB D g b (R j)) N
  have fm := rowN_mem ffB (fun j => thrB D g b (R j)) N
  have u := seq_unique (ltL_irr D (g b).1 (g b).2) (ltL_tr D (g b).1 (g b).2) (f := fun k => R (rowN ffB (fun j => thrB D g b (R j)) N k)) (m := cntN (fun j => thrB D g b (R j)) N) (fun a c hac hc => inc _ _ (fi a c hac hc) (fl c hc).1) (rw_inc (g := g) (b := b) hS.1) (fun i hi => ?_) (fun j hj => ?_)
  · refine ⟨u.1, fun j hj tj => ?_⟩
    obtain ⟨h1, h2⟩ := row_ff (th := fun j => thrB D g b (R j)) j hj tj
    refine ⟨by omega, ?_⟩
    have := u.2 _ h1
    rw [h2] at this
    exact this.symm
  · have q := fl i hi
    obtain ⟨k, hk, e⟩ := rw_mem (g := g) (b := b) (rl _ q.1).1 q.2
    exact ⟨k, hk, e.symm⟩
  · have q := rw_lt hj
    obtain ⟨j', hj', e⟩ := rm _ q.1 (tt _ q.1 q.2)
    obtain ⟨k, hk, e2⟩ := fm j' hj' (by rw [e]; exact q.2)
    refine ⟨k, hk, ?_⟩
    rw [e2, e]
def eqB (D : Nat → Nat → Int) (g : Nat → Int × Int) (b i j : Nat) : Bool := decide (cmpT D (g b).1 (g b).2 i j = 0)
def gqF (e : Nat → Nat → Bool) (r : Nat → Nat) : Nat → Nat
  | 0 => 0
  | k + 1 => if e (r k) (r (k + 1)) = true then gqF e r k else gqF e r k + 1
def gq (D : Nat → Nat → Int) (g : Nat → Int × Int) (n b : Nat) : Nat → Nat := gqF (eqB D g b) (rwF D g n b)
theorem gq_s (D : Nat → Nat → Int) (g : Nat → Int × Int) (n b k : Nat) : gq D g n b (k + 1) = if eqB D g b (rwF D g n b k) (rwF D g n b (k + 1)) = true then gq D g n b k else gq D g n b k + 1 := rfl
theorem gq_0 (D : Nat → Nat → Int) (g : Nat → Int × Int) (n b : Nat) : gq D g n b 0 = 0 := rfl
theorem gq_mono (D : Nat → Nat → Int) (g : Nat → Int × Int) (n b : Nat) {a c : Nat} (h : a ≤ c) : gq D g n b a ≤ gq D g n b c := by
  induction c with
  | zero => have : a = 0 := by omega
            rw [this]; exact Nat.le_refl _
  | succ c ih =>
    by_cases e : a = c + 1
    · rw [e]; exact Nat.le_refl _
    · have := ih (by omega)
      rw [gq_s]
      split <;> omega
theorem gq_le (D : Nat → Nat → Int) (g : Nat → Int × Int) (n b k : Nat) : gq D g n b k ≤ k := by
  induction k with
  | zero => exact Nat.le_refl _
  | succ k ih => rw [gq_s]; split <;> omega
def gcN (D : Nat → Nat → Int) (g : Nat → Int × Int) (n b : Nat) : Nat := if rwC D g n b = 0 then 0 else gq D g n b (rwC D g n b - 1) + 1
theorem gc_le {D : Nat → Nat → Int} {g : Nat → Int × Int} {n b : Nat} (h : LsD D (n : Int)) : gcN D g n b ≤ 10 := by
  have h1 := rw_10 (g := g) (b := b) h
  have h2 := gq_le D g n b (rwC D g n b - 1)
  unfold gcN
  split <;> omega
theorem gq_lt {D : Nat → Nat → Int} {g : Nat → Int × Int} {n b k : Nat} (hk : k < rwC D g n b) : gq D g n b k < gcN D g n b := by
  have := gq_mono D g n b (show k ≤ rwC D g n b - 1 by omega)
  unfold gcN
  rw [if_neg (by omega)]
  omega
def bG (P : Nat → Bool) (r : Nat → Nat) (N n : Nat) : Int := bitsOf (fun i => decide (∃ k, k < N ∧ r k = i ∧ P k = true)) n
theorem bG_congr {P Q : Nat → Bool} {r : Nat → Nat} {N n : Nat} (h : ∀ k, k < N → P k = Q k) : bG P r N n = bG Q r N n := by
  unfold bG
  refine bitsOf_congr fun i _ => decide_eq_decide.mpr ⟨?_, ?_⟩
  · rintro ⟨k, hk, e, p⟩
    exact ⟨k, hk, e, by rw [← h k hk]; exact p⟩
  · rintro ⟨k, hk, e, p⟩
    exact ⟨k, hk, e, by rw [h k hk]; exact p⟩
theorem bG_0 {P : Nat → Bool} {r : Nat → Nat} {N n : Nat} (hn : n ≤ 30) (h : ∀ k, k < N → ¬ P k = true) : bG P r N n = 0 := by
  unfold bG
  refine (bits_0 _ hn).mpr fun i _ z => ?_
  rw [decide_eq_true_iff] at z
  obtain ⟨k, hk, -, p⟩ := z
  exact h k hk p
theorem bG_add {P Q : Nat → Bool} {r : Nat → Nat} {N n k : Nat} (hn : n ≤ 30) (hk : k < N) (hr : r k < n) (h : ∀ j, j < N → (Q j = true ↔ (P j = true ∨ j = k))) : ior (bG P r N n) (ishl 1 (r k : Int)) = bG Q r N n := by
  unfold bG
  rw [ior_bit _ hn hr]
  refine bitsOf_congr fun i _ => ?_
  rw [Bool.eq_iff_iff, Bool.or_eq_true, decide_eq_true_iff, decide_eq_true_iff, beq_iff_eq]
  constructor
  · rintro (⟨j, hj, e, p⟩ | e)
    · exact ⟨j, hj, e, (h j hj).mpr (Or.inl p)⟩
    · exact ⟨k, hk, e.symm, (h k hk).mpr (Or.inr rfl)⟩
  · rintro ⟨j, hj, e, p⟩
    rcases (h j hj).mp p with p | z
    · exact Or.inl ⟨j, hj, e, p⟩
    · subst z; exact Or.inr e.symm
def loG (D : Nat → Nat → Int) (g : Nat → Int × Int) (n b q : Nat) : Int := bG (fun k => gq D g n b k + 1 == q) (rwF D g n b) (rwC D g n b) n
def hiG (D : Nat → Nat → Int) (g : Nat → Int × Int) (n b q : Nat) : Int := bG (fun k => gq D g n b k == q) (rwF D g n b) (rwC D g n b) n
def nC (D : Nat → Nat → Int) (g : Nat → Int × Int) (n M s : Nat) : Nat := if s = 0 ∨ M ≤ s then 1 else gcN D g n (s - 1) + 1
def fC (D : Nat → Nat → Int) (g : Nat → Int × Int) (n M s : Nat) : Nat := sm (nC D g n M) s
theorem fC_s (D : Nat → Nat → Int) (g : Nat → Int × Int) (n M s : Nat) : fC D g n M (s + 1) = fC D g n M s + nC D g n M s := rfl
def loS (D : Nat → Nat → Int) (g : Nat → Int × Int) (n M s q : Nat) : Int := if s = 0 ∨ M ≤ s then 0 else loG D g n (s - 1) q
def hiS (D : Nat → Nat → Int) (g : Nat → Int × Int) (n M s q : Nat) : Int := if s = 0 ∨ M ≤ s then 0 else hiG D g n (s - 1) q
theorem nC_le {D : Nat → Nat → Int} {g : Nat → Int × Int} {n M s : Nat} (h : LsD D (n : Int)) : 1 ≤ nC D g n M s ∧ nC D g n M s ≤ 11 := by
  have := gc_le (g := g) (b := s - 1) h
  unfold nC
  split <;> omega
theorem fC_le {D : Nat → Nat → Int} {g : Nat → Int × Int} {n M : Nat} (h : LsD D (n : Int)) (s : Nat) : s ≤ fC D g n M s ∧ fC D g n M s ≤ 11 * s := by
  induction s with
  | zero => exact ⟨Nat.le_refl _, Nat.le_refl _⟩
  | succ s ih =>
    have := nC_le (g := g) (M := M) (s := s) h
    rw [fC_s]
    omega
theorem fC_mono {D : Nat → Nat → Int} {g : Nat → Int × Int} {n M : Nat} {a c : Nat} (h : a ≤ c) : fC D g n M a ≤ fC D g n M c := by
  induction c with
  | zero => have : a = 0 := by omega
            rw [this]; exact Nat.le_refl _
  | succ c ih =>
    by_cases e : a = c + 1
    · rw [e]; exact Nat.le_refl _
    · have := ih (by omega)
      rw [fC_s]
      omega
/-- cells put down behind one another -/
def CSt (cz co c1 c2 c3 : Nat) (s t : Sg) (C0 sl : Nat) (lo hi : Nat → Int) (K : Nat) : Prop :=
  (∀ c, c ≠ cz → c ≠ c1 → c ≠ c2 → c ≠ c3 → t c = s c) ∧ (∀ o, o ≠ co → t cz o = s cz o) ∧ t cz co = ((C0 + K : Nat) : Int) ∧ (∀ j, j < C0 → t c1 j = s c1 j ∧ t c2 j = s c2 j ∧ t c3 j = s c3 j) ∧ ∀ q, q < K → t c1 (C0 + q) = (sl : Int) ∧ t c2 (C0 + q) = lo q ∧ t c3 (C0 + q) = hi q
theorem CSt_0 {cz co c1 c2 c3 : Nat} {s : Sg} {C0 sl : Nat} {lo hi : Nat → Int} (h : s cz co = (C0 : Int)) : CSt cz co c1 c2 c3 s s C0 sl lo hi 0 :=
  ⟨fun _ _ _ _ _ => rfl, fun _ _ => rfl, h, fun _ _ => ⟨rfl, rfl, rfl⟩, fun q hq => absurd hq (Nat.not_lt_zero _)⟩
theorem CSt_add {cz co c1 c2 c3 : Nat} {s t u : Sg} {C0 sl : Nat} {lo hi : Nat → Int} {K : Nat} {vs vl vh : Int} (h : CSt cz co c1 c2 c3 s t C0 sl lo hi K) (hs : vs = (sl : Int)) (hl : vl = lo K) (hh : vh = hi K)
    (u0 : ∀ c, c ≠ cz → c ≠ c1 → c ≠ c2 → c ≠ c3 → u c = t c) (u1 : ∀ o, o ≠ co → u cz o = t cz o) (u2 : u cz co = t cz co + 1) (u3 : ∀ j, u c1 j = if j = (t cz co).toNat then vs else t c1 j) (u4 : ∀ j, u c2 j = if j = (t cz co).toNat then vl else t c2 j) (u5 : ∀ j, u c3 j = if j = (t cz co).toNat then vh else t c3 j) : CSt cz co c1 c2 c3 s u C0 sl lo hi (K + 1) := by
  obtain ⟨h1, h2, h3, h4, h5⟩ := h
  rw [h3, Int.toNat_natCast] at u3 u4 u5
  refine ⟨fun c k1 k2 k3 k4 => by rw [u0 c k1 k2 k3 k4, h1 c k1 k2 k3 k4], fun o k1 => by rw [u1 o k1, h2 o k1], by rw [u2, h3]; omega, fun j hj => ?_, fun q hq => ?_⟩
  · rw [u3, u4, u5, if_neg (by omega), if_neg (by omega), if_neg (by omega)]
    exact h4 j hj
  · rw [u3, u4, u5]
    by_cases e : q = K
    · subst e
      rw [if_pos rfl, if_pos rfl, if_pos rfl]
      exact ⟨hs, hl, hh⟩
    · rw [if_neg (by omega), if_neg (by omega), if_neg (by omega)]
      exact h5 q (by omega)
theorem s_X6_addCell {s t : Sg} {C0 sl : Nat} {lo hi : Nat → Int} {K : Nat} {vs vl vh : Int} {post : Sg → Prop} (h : CSt 38 1 42 43 44 s t C0 sl lo hi K) (h7 : C0 + K < 726) (hs : vs = (sl : Int)) (hl : vl = lo K) (hh : vh = hi K) (hp : ∀ u : Sg, CSt 38 1 42 43 44 s u C0 sl lo hi (K + 1) → post u) : w_X6_addCell t vs vl vh post := by
  unfold w_X6_addCell jn
  have h3 := h.2.2.1
  refine ⟨fun z => by omega, fun _ => ⟨by omega, ?_⟩⟩
  intro s4 e4
  have a4 : s4 38 = t 38 := by rw [e4, up_ne _ _ _ (by omega)]
  rw [a4]
  refine ⟨by omega, fun s6 e6 => ?_⟩
  have a6 : s6 38 = t 38 := by rw [e6, up_ne _ _ _ (by omega), a4]
  rw [a6]
  refine ⟨by omega, fun s8 e8 => ?_⟩
  have a8 : s8 38 = t 38 := by rw [e8, up_ne _ _ _ (by omega), a6]
  rw [a8, w32_id (show ok32 (t 38 1 + 1) from ⟨by omega, by omega⟩)]
  intro s9 e9
  refine hp _ (CSt_add h hs hl hh (fun c k1 k2 k3 k4 => by rw [e9, up_ne _ _ _ k1, e8, up_ne _ _ _ k4, e6, up_ne _ _ _ k3, e4, up_ne _ _ _ k2]) (fun o k1 => by rw [e9, up_apply, if_neg (fun z => k1 z.2), a8]) (by rw [e9, up_apply, if_pos ⟨rfl, rfl⟩]) (fun j => ?_) (fun j => ?_) (fun j => ?_))
  · rw [e9, up_ne _ _ _ (by omega), e8, up_ne _ _ _ (by omega), e6, up_ne _ _ _ (by omega), e4, up_apply]
    simp
  · rw [e9, up_ne _ _ _ (by omega), e8, up_ne _ _ _ (by omega), e6, up_apply, e4, up_ne _ _ _ (by omega)]
    simp
  · rw [e9, up_ne _ _ _ (by omega), e8, up_apply, e6, up_ne _ _ _ (by omega), e4, up_ne _ _ _ (by omega)]
    simp
theorem s_X10_addCell {s t : Sg} {C0 sl : Nat} {lo hi : Nat → Int} {K : Nat} {vs vl vh : Int} {post : Sg → Prop} (h : CSt 68 23 86 87 88 s t C0 sl lo hi K) (h7 : C0 + K < 900) (hs : vs = (sl : Int)) (hl : vl = lo K) (hh : vh = hi K) (hp : ∀ u : Sg, CSt 68 23 86 87 88 s u C0 sl lo hi (K + 1) → post u) : w_X10_addCell t vs vl vh post := by
  unfold w_X10_addCell
  have h3 := h.2.2.1
  refine ⟨by omega, ?_⟩
  intro s4 e4
  have a4 : s4 68 = t 68 := by rw [e4, up_ne _ _ _ (by omega)]
  rw [a4]
  refine ⟨by omega, fun s6 e6 => ?_⟩
  have a6 : s6 68 = t 68 := by rw [e6, up_ne _ _ _ (by omega), a4]
  rw [a6]
  refine ⟨by omega, fun s8 e8 => ?_⟩
  have a8 : s8 68 = t 68 := by rw [e8, up_ne _ _ _ (by omega), a6]
  rw [a8, w32_id (show ok32 (t 68 23 + 1) from ⟨by omega, by omega⟩)]
  intro s9 e9
  refine hp _ (CSt_add h hs hl hh (fun c k1 k2 k3 k4 => by rw [e9, up_ne _ _ _ k1, e8, up_ne _ _ _ k4, e6, up_ne _ _ _ k3, e4, up_ne _ _ _ k2]) (fun o k1 => by rw [e9, up_apply, if_neg (fun z => k1 z.2), a8]) (by rw [e9, up_apply, if_pos ⟨rfl, rfl⟩]) (fun j => ?_) (fun j => ?_) (fun j => ?_))
  · rw [e9, up_ne _ _ _ (by omega), e8, up_ne _ _ _ (by omega), e6, up_ne _ _ _ (by omega), e4, up_apply]
    simp
  · rw [e9, up_ne _ _ _ (by omega), e8, up_ne _ _ _ (by omega), e6, up_apply, e4, up_ne _ _ _ (by omega)]
    simp
  · rw [e9, up_ne _ _ _ (by omega), e8, up_apply, e6, up_ne _ _ _ (by omega), e4, up_ne _ _ _ (by omega)]
    simp
