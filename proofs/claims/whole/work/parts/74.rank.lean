/-! the places that lines have with an x, in a row; groups between them -/
def ltI : Int → Int → Prop := fun a b => a < b
def rkI (t : Nat → Int) (K : Nat) (y : Int) : Nat := cntN (fun k => decide (t k < y)) K
theorem rkI_lt {t : Nat → Int} {K : Nat} (ht : SInc ltI t K) (y : Int) : ∀ j, j < K → (j < rkI t K y ↔ t j < y) := by
  induction K with
  | zero => intro j hj; exact absurd hj (Nat.not_lt_zero _)
  | succ K ih =>
    have ih := ih (fun a b h1 h2 => ht a b h1 (by omega))
    intro j hj
    have e : rkI t (K + 1) y = if decide (t K < y) = true then rkI t K y + 1 else rkI t K y := rfl
    have le := cntN_le (fun k => decide (t k < y)) K
    have le2 : rkI t K y ≤ K := le
    rw [e]
    by_cases c : t K < y
    · rw [if_pos (decide_eq_true c)]
      have full : rkI t K y = K := by
        refine cnt_all fun i hi => decide_eq_true ?_
        have := ht i K hi (by omega)
        unfold ltI at this
        omega
      by_cases d : j = K
      · subst d
        exact ⟨fun _ => c, fun _ => by omega⟩
      · have := ht j K (by omega) (by omega)
        unfold ltI at this
        exact ⟨fun _ => by omega, fun _ => by omega⟩
    · rw [if_neg (by rw [decide_eq_true_iff]; exact c)]
      by_cases d : j = K
      · subst d
        exact ⟨fun z => by omega, fun z => absurd z c⟩
      · exact ih j (by omega)
theorem rkI_le (t : Nat → Int) (K : Nat) (y : Int) : rkI t K y ≤ K := cntN_le _ _
theorem rkI_at {t : Nat → Int} {K : Nat} (ht : SInc ltI t K) {k : Nat} (hk : k < K) : rkI t K (t k) = k := by
  have h1 := rkI_lt ht (t k)
  have h2 := rkI_le t K (t k)
  rcases Nat.lt_trichotomy (rkI t K (t k)) k with c | c | c
  · have := ht _ k c hk
    unfold ltI at this
    have := (h1 _ (by omega)).mpr this
    omega
  · exact c
  · have := (h1 k hk).mp c
    omega
theorem rkI_mono {t : Nat → Int} {K : Nat} {y z : Int} (h : y ≤ z) : rkI t K y ≤ rkI t K z := cnt_mono fun i _ c => by rw [decide_eq_true_iff] at c ⊢; omega
theorem rkI_st {t : Nat → Int} {K : Nat} (ht : SInc ltI t K) {k : Nat} {z : Int} (hk : k < K) (h : t k < z) : rkI t K (t k) < rkI t K z := by
  rw [rkI_at ht hk]
  exact (rkI_lt ht z k hk).mpr h
def insI (t : Nat → Int) (r : Nat) (y : Int) : Nat → Int := fun j => if j < r then t j else if j = r then y else t (j - 1)
theorem insI_inc {t : Nat → Int} {K : Nat} {y : Int} (ht : SInc ltI t K) (hn : ∀ k, k < K → t k ≠ y) : SInc ltI (insI t (rkI t K y) y) (K + 1) := by
  have h1 := rkI_lt ht y
  have h2 := rkI_le t K y
  generalize rkI t K y = r at *
  intro a b hab hb
  unfold insI ltI
  by_cases ca : a < r
  · rw [if_pos ca]
    have la := (h1 a (by omega)).mp ca
    by_cases cb : b < r
    · rw [if_pos cb]; exact ht a b hab (by omega)
    · rw [if_neg cb]
      by_cases cb2 : b = r
      · rw [if_pos cb2]; exact la
      · rw [if_neg cb2]
        exact ht a (b - 1) (by omega) (by omega)
  · rw [if_neg ca, if_neg (show ¬ b < r by omega), if_neg (show ¬ b = r by omega)]
    by_cases ca2 : a = r
    · rw [if_pos ca2]
      have := h1 (b - 1) (by omega)
      have := hn (b - 1) (by omega)
      omega
    · rw [if_neg ca2]
      exact ht (a - 1) (b - 1) (by omega) (by omega)
theorem insI_mem {t : Nat → Int} {K r : Nat} {y : Int} (hr : r ≤ K) : (∀ j, j < K + 1 → insI t r y j = y ∨ ∃ k, k < K ∧ insI t r y j = t k) ∧ (∃ j, j < K + 1 ∧ insI t r y j = y) ∧ ∀ k, k < K → ∃ j, j < K + 1 ∧ insI t r y j = t k := by
  refine ⟨fun j hj => ?_, ⟨r, by omega, ?_⟩, fun k hk => ?_⟩
  · unfold insI
    by_cases c : j < r
    · rw [if_pos c]; exact Or.inr ⟨j, by omega, rfl⟩
    · rw [if_neg c]
      by_cases d : j = r
      · rw [if_pos d]; exact Or.inl rfl
      · rw [if_neg d]; exact Or.inr ⟨j - 1, by omega, rfl⟩
  · unfold insI
    rw [if_neg (Nat.lt_irrefl _), if_pos rfl]
  · by_cases c : k < r
    · exact ⟨k, by omega, by unfold insI; rw [if_pos c]⟩
    · exact ⟨k + 1, by omega, by unfold insI; rw [if_neg (by omega), if_neg (by omega), Nat.add_sub_cancel]⟩
/-- a row that rises of just these values -/
def SrtOf (val : Nat → Int) (ok : Nat → Bool) (N : Nat) (t : Nat → Int) (K : Nat) : Prop := SInc ltI t K ∧ (∀ k, k < K → ∃ e, e < N ∧ ok e = true ∧ t k = val e) ∧ ∀ e, e < N → ok e = true → ∃ k, k < K ∧ t k = val e
theorem Srt_one {val : Nat → Int} {ok : Nat → Bool} {N K K' : Nat} {t t' : Nat → Int} (h : SrtOf val ok N t K) (h' : SrtOf val ok N t' K') : K = K' ∧ ∀ k, k < K → t k = t' k := by
  refine seq_unique (lt := ltI) (fun a => Int.lt_irrefl _) (fun a b c => Int.lt_trans) h.1 h'.1 (fun i hi => ?_) (fun j hj => ?_)
  · obtain ⟨e, he, oe, ee⟩ := h.2.1 i hi
    obtain ⟨k, hk, ek⟩ := h'.2.2 e he oe
    exact ⟨k, hk, ee.trans ek.symm⟩
  · obtain ⟨e, he, oe, ee⟩ := h'.2.1 j hj
    obtain ⟨k, hk, ek⟩ := h.2.2 e he oe
    exact ⟨k, hk, ee.trans ek.symm⟩
theorem Srt_add {val : Nat → Int} {ok : Nat → Bool} {N K : Nat} {t : Nat → Int} (h : SrtOf val ok N t K) (ho : ok N = true) : ((∃ k, k < K ∧ t k = val N) → SrtOf val ok (N + 1) t K) ∧ ((∀ k, k < K → t k ≠ val N) → SrtOf val ok (N + 1) (insI t (rkI t K (val N)) (val N)) (K + 1)) := by
  obtain ⟨h1, h2, h3⟩ := h
  constructor
  · rintro ⟨k, hk, e⟩
    refine ⟨h1, fun j hj => ?_, fun x hx ox => ?_⟩
    · obtain ⟨x, hx, ox, ex⟩ := h2 j hj
      exact ⟨x, by omega, ox, ex⟩
    · by_cases z : x = N
      · subst z; exact ⟨k, hk, e⟩
      · exact h3 x (by omega) ox
  · intro hn
    obtain ⟨m1, ⟨j0, hj0, ej0⟩, m3⟩ := insI_mem (t := t) (y := val N) (rkI_le t K (val N))
    refine ⟨insI_inc h1 hn, fun j hj => ?_, fun x hx ox => ?_⟩
    · rcases m1 j hj with e | ⟨k, hk, e⟩
      · exact ⟨N, by omega, ho, e⟩
      · obtain ⟨x, hx, ox, ex⟩ := h2 k hk
        exact ⟨x, by omega, ox, e.trans ex⟩
    · by_cases z : x = N
      · subst z; exact ⟨j0, hj0, ej0⟩
      · obtain ⟨k, hk, e⟩ := h3 x (by omega) ox
        obtain ⟨j, hj, ej⟩ := m3 k hk
        exact ⟨j, hj, ej.trans e⟩
theorem Srt_skip {val : Nat → Int} {ok : Nat → Bool} {N K : Nat} {t : Nat → Int} (h : SrtOf val ok N t K) (ho : ¬ ok N = true) : SrtOf val ok (N + 1) t K := by
  refine ⟨h.1, fun j hj => ?_, fun x hx ox => ?_⟩
  · obtain ⟨x, hx, ox, ex⟩ := h.2.1 j hj
    exact ⟨x, by omega, ox, ex⟩
  · by_cases z : x = N
    · subst z; exact absurd ox ho
    · exact h.2.2 x (by omega) ox
theorem Srt_ex (val : Nat → Int) (ok : Nat → Bool) (N : Nat) : ∃ (t : Nat → Int) (K : Nat), SrtOf val ok N t K ∧ K ≤ cntN ok N := by
  induction N with
  | zero => exact ⟨fun _ => 0, 0, ⟨fun a b _ hb => absurd hb (Nat.not_lt_zero _), fun k hk => absurd hk (Nat.not_lt_zero _), fun e he => absurd he (Nat.not_lt_zero _)⟩, Nat.le_refl _⟩
  | succ N ih =>
    obtain ⟨t, K, h, hK⟩ := ih
    by_cases c : ok N = true
    · have a := Srt_add h c
      by_cases d : ∃ k, k < K ∧ t k = val N
      · exact ⟨t, K, a.1 d, by rw [cntN_s, if_pos c]; omega⟩
      · exact ⟨_, K + 1, a.2 (fun k hk e => d ⟨k, hk, e⟩), by rw [cntN_s, if_pos c]; omega⟩
    · exact ⟨t, K, Srt_skip h c, by rw [cntN_s, if_neg c]; exact hK⟩
def rchB (D : Nat → Nat → Int) (g : Nat → Int × Int) (c i : Nat) : Bool := decide (D 0 i * (g c).2 ≤ (g c).1 ∧ (g c).1 ≤ D 2 i * (g c).2)
def upB (D : Nat → Nat → Int) (i : Nat) : Bool := decide (D 0 i = D 2 i)
noncomputable def stV (D : Nat → Nat → Int) (g : Nat → Int × Int) (c e : Nat) : Int := if D 0 (e / 2) = D 2 (e / 2) then (if e % 2 = 0 then D 1 (e / 2) * KK else D 3 (e / 2) * KK) else Yv D g (e / 2) c
def stO (D : Nat → Nat → Int) (g : Nat → Int × Int) (c e : Nat) : Bool := rchB D g c (e / 2) && (decide (e % 2 = 0) || upB D (e / 2))
noncomputable def tau (D : Nat → Nat → Int) (g : Nat → Int × Int) (n c : Nat) : Nat → Int := Classical.choose (Srt_ex (stV D g c) (stO D g c) (2 * n))
noncomputable def tK (D : Nat → Nat → Int) (g : Nat → Int × Int) (n c : Nat) : Nat := Classical.choose (Classical.choose_spec (Srt_ex (stV D g c) (stO D g c) (2 * n)))
theorem tau_ok (D : Nat → Nat → Int) (g : Nat → Int × Int) (n c : Nat) : SrtOf (stV D g c) (stO D g c) (2 * n) (tau D g n c) (tK D g n c) ∧ tK D g n c ≤ cntN (stO D g c) (2 * n) := Classical.choose_spec (Classical.choose_spec (Srt_ex (stV D g c) (stO D g c) (2 * n)))
/-- the rank of a height at an x -/
noncomputable def rk (D : Nat → Nat → Int) (g : Nat → Int × Int) (n c : Nat) (y : Int) : Nat := rkI (tau D g n c) (tK D g n c) y
/-- it is the height of a line there -/
def IsT (D : Nat → Nat → Int) (g : Nat → Int × Int) (n c : Nat) (y : Int) : Prop := ∃ k, k < tK D g n c ∧ tau D g n c k = y
theorem rk_lt {D : Nat → Nat → Int} {g : Nat → Int × Int} {n c : Nat} {y : Int} (h : IsT D g n c y) : rk D g n c y < tK D g n c := by
  obtain ⟨k, hk, rfl⟩ := h
  have := rkI_at (tau_ok D g n c).1.1 hk
  unfold rk
  omega
theorem tau_rk {D : Nat → Nat → Int} {g : Nat → Int × Int} {n c : Nat} {y : Int} (h : IsT D g n c y) : tau D g n c (rk D g n c y) = y := by
  obtain ⟨k, hk, rfl⟩ := h
  unfold rk
  rw [rkI_at (tau_ok D g n c).1.1 hk]
theorem rk_tau {D : Nat → Nat → Int} {g : Nat → Int × Int} {n c k : Nat} (hk : k < tK D g n c) : rk D g n c (tau D g n c k) = k := rkI_at (tau_ok D g n c).1.1 hk
theorem rk_cmp {D : Nat → Nat → Int} {g : Nat → Int × Int} {n c : Nat} {y z : Int} (hy : IsT D g n c y) (hz : IsT D g n c z) : (rk D g n c y < rk D g n c z ↔ y < z) ∧ (rk D g n c y = rk D g n c z ↔ y = z) := by
  obtain ⟨k, hk, rfl⟩ := hy
  obtain ⟨l, hl, rfl⟩ := hz
  rw [rk_tau hk, rk_tau hl]
  have inc := (tau_ok D g n c).1.1
  rcases Nat.lt_trichotomy k l with q | q | q
  · have := inc k l q hl
    unfold ltI at this
    omega
  · subst q; omega
  · have := inc l k q hk
    unfold ltI at this
    omega
theorem rch_S {D : Nat → Nat → Int} {n m M : Nat} {f : Nat → Int × Int × Int × Int} {g : Nat → Int × Int} (hS : Swp D n m f M g) {c : Nat} (hc : c < M) (i : Nat) : rchB D g c i = true ↔ (D 0 i * KK ≤ XX g c ∧ XX g c ≤ D 2 i * KK) := by
  unfold rchB
  rw [decide_eq_true_iff, (rch_iff hS hc _).1, (rch_iff hS hc _).2]
theorem up_iff {D : Nat → Nat → Int} {i : Nat} : upB D i = true ↔ D 0 i = D 2 i := by unfold upB; exact decide_eq_true_iff
theorem T_fl {D : Nat → Nat → Int} {g : Nat → Int × Int} {n c i : Nat} (hi : i < n) (hr : rchB D g c i = true) (hu : D 0 i ≠ D 2 i) : IsT D g n c (Yv D g i c) := by
  have e : stV D g c (2 * i) = Yv D g i c := by
    unfold stV
    rw [show 2 * i / 2 = i by omega, if_neg hu]
  obtain ⟨k, hk, ek⟩ := (tau_ok D g n c).1.2.2 (2 * i) (by omega) (by
    unfold stO
    rw [show 2 * i / 2 = i by omega, hr]
    simp)
  exact ⟨k, hk, ek.trans e⟩
theorem T_up {D : Nat → Nat → Int} {g : Nat → Int × Int} {n c i : Nat} (hi : i < n) (hr : rchB D g c i = true) (hu : D 0 i = D 2 i) : IsT D g n c (D 1 i * KK) ∧ IsT D g n c (D 3 i * KK) := by
  constructor
  · have e : stV D g c (2 * i) = D 1 i * KK := by
      unfold stV
      rw [show 2 * i / 2 = i by omega, if_pos hu, if_pos (by omega)]
    obtain ⟨k, hk, ek⟩ := (tau_ok D g n c).1.2.2 (2 * i) (by omega) (by
      unfold stO
      rw [show 2 * i / 2 = i by omega, hr]
      simp)
    exact ⟨k, hk, ek.trans e⟩
  · have e : stV D g c (2 * i + 1) = D 3 i * KK := by
      unfold stV
      rw [show (2 * i + 1) / 2 = i by omega, if_pos hu, if_neg (by omega)]
    obtain ⟨k, hk, ek⟩ := (tau_ok D g n c).1.2.2 (2 * i + 1) (by omega) (by
      unfold stO
      rw [show (2 * i + 1) / 2 = i by omega, hr, up_iff.mpr hu]
      simp)
    exact ⟨k, hk, ek.trans e⟩
theorem T_is {D : Nat → Nat → Int} {g : Nat → Int × Int} {n c : Nat} {y : Int} (h : IsT D g n c y) : ∃ i, i < n ∧ rchB D g c i = true ∧ ((D 0 i ≠ D 2 i ∧ y = Yv D g i c) ∨ (D 0 i = D 2 i ∧ (y = D 1 i * KK ∨ y = D 3 i * KK))) := by
  obtain ⟨k, hk, rfl⟩ := h
  obtain ⟨e, he, oe, ee⟩ := (tau_ok D g n c).1.2.1 k hk
  unfold stO at oe
  rw [Bool.and_eq_true] at oe
  refine ⟨e / 2, by omega, oe.1, ?_⟩
  rw [ee]
  unfold stV
  by_cases z : D 0 (e / 2) = D 2 (e / 2)
  · rw [if_pos z]
    refine Or.inr ⟨z, ?_⟩
    split
    · exact Or.inl rfl
    · exact Or.inr rfl
  · rw [if_neg z]
    exact Or.inl ⟨z, rfl⟩
theorem tK_20 {D : Nat → Nat → Int} {g : Nat → Int × Int} {n c : Nat} (hn : n ≤ 10) : tK D g n c ≤ 20 := by
  have h1 := (tau_ok D g n c).2
  have h2 := cntN_le (stO D g c) (2 * n)
  omega
/-- groups: alike at both x's of the slab -/
theorem rw_key {D : Nat → Nat → Int} {n m M : Nat} {f : Nat → Int × Int × Int × Int} {g : Nat → Int × Int} (hS : Swp D n m f M g) {b k k' : Nat} (hb : b + 1 < M) (hk : k < k') (hk' : k' < rwC D g n b) : Yv D g (rwF D g n b k) b < Yv D g (rwF D g n b k') b ∨ (Yv D g (rwF D g n b k) b = Yv D g (rwF D g n b k') b ∧ Yv D g (rwF D g n b k) (b + 1) ≤ Yv D g (rwF D g n b k') (b + 1)) := by
  have l := rw_inc (g := g) (b := b) hS.1 k k' hk hk'
  obtain ⟨a1, a2⟩ := rw_lt (g := g) (b := b) (D := D) (n := n) (k := k) (by omega)
  obtain ⟨a3, a4⟩ := rw_lt (g := g) (b := b) (D := D) (n := n) (k := k') hk'
  have c := cmpT_thr hS hb a1 a3 a2 a4
  obtain ⟨-, l⟩ := l
  rw [c.1, c.2.1] at l
  omega
theorem gq_key {D : Nat → Nat → Int} {n m M : Nat} {f : Nat → Int × Int × Int × Int} {g : Nat → Int × Int} (hS : Swp D n m f M g) {b k : Nat} (hb : b + 1 < M) : ∀ k', k ≤ k' → k' < rwC D g n b → (gq D g n b k = gq D g n b k' ↔ (Yv D g (rwF D g n b k) b = Yv D g (rwF D g n b k') b ∧ Yv D g (rwF D g n b k) (b + 1) = Yv D g (rwF D g n b k') (b + 1))) := by
  intro k'
  induction k' with
  | zero => intro h _; have : k = 0 := by omega
            subst this; exact ⟨fun _ => ⟨rfl, rfl⟩, fun _ => rfl⟩
  | succ k' ih =>
    intro h hk'
    by_cases e : k = k' + 1
    · subst e; exact ⟨fun _ => ⟨rfl, rfl⟩, fun _ => rfl⟩
    · have ih := ih (by omega) (by omega)
      obtain ⟨a1, a2⟩ := rw_lt (g := g) (b := b) (D := D) (n := n) (k := k') (by omega)
      obtain ⟨a3, a4⟩ := rw_lt (g := g) (b := b) (D := D) (n := n) (k := k' + 1) hk'
      have c := (cmpT_thr hS hb a1 a3 a2 a4).2.1
      have gs := gq_s D g n b k'
      have gm := gq_mono D g n b (show k ≤ k' by omega)
      unfold eqB at gs
      have o2 := rw_key hS hb (show k' < k' + 1 by omega) hk'
      have o1 : k = k' ∨ Yv D g (rwF D g n b k) b < Yv D g (rwF D g n b k') b ∨ (Yv D g (rwF D g n b k) b = Yv D g (rwF D g n b k') b ∧ Yv D g (rwF D g n b k) (b + 1) ≤ Yv D g (rwF D g n b k') (b + 1)) := by
        by_cases z : k = k'
        · exact Or.inl z
        · exact Or.inr (rw_key hS hb (by omega) (by omega))
      by_cases z : cmpT D (g b).1 (g b).2 (rwF D g n b k') (rwF D g n b (k' + 1)) = 0
      · rw [if_pos (decide_eq_true z)] at gs
        rw [gs, ih]
        rw [c] at z
        omega
      · rw [if_neg (by rw [decide_eq_true_iff]; exact z)] at gs
        rw [gs]
        rw [c] at z
        constructor
        · intro q; omega
        · intro q
          exfalso
          rcases o1 with rfl | o1
          · exact z q
          · apply z
            omega
theorem gq_surj {D : Nat → Nat → Int} {g : Nat → Int × Int} {n b : Nat} : ∀ N q, q ≤ gq D g n b N → ∃ k, k ≤ N ∧ gq D g n b k = q := by
  intro N
  induction N with
  | zero => intro q hq; exact ⟨0, Nat.le_refl _, by rw [gq_0] at hq ⊢; omega⟩
  | succ N ih =>
    intro q hq
    by_cases e : q ≤ gq D g n b N
    · obtain ⟨k, hk, ek⟩ := ih q e
      exact ⟨k, by omega, ek⟩
    · refine ⟨N + 1, Nat.le_refl _, ?_⟩
      rw [gq_s] at hq ⊢
      by_cases z : eqB D g b (rwF D g n b N) (rwF D g n b (N + 1)) = true
      · rw [if_pos z] at hq ⊢; omega
      · rw [if_neg z] at hq ⊢; omega
noncomputable def gk (D : Nat → Nat → Int) (g : Nat → Int × Int) (n b q : Nat) : Nat := by
  classical exact if h : ∃ k, k < rwC D g n b ∧ gq D g n b k = q then Classical.choose h else 0
theorem gk_ok {D : Nat → Nat → Int} {g : Nat → Int × Int} {n b q : Nat} (h : q < gcN D g n b) : gk D g n b q < rwC D g n b ∧ gq D g n b (gk D g n b q) = q := by
  have hx : ∃ k, k < rwC D g n b ∧ gq D g n b k = q := by
    unfold gcN at h
    by_cases z : rwC D g n b = 0
    · rw [if_pos z] at h; omega
    · rw [if_neg z] at h
      obtain ⟨k, hk, ek⟩ := gq_surj (D := D) (g := g) (n := n) (b := b) (rwC D g n b - 1) q (by omega)
      exact ⟨k, by omega, ek⟩
  unfold gk
  rw [dif_pos hx]
  exact Classical.choose_spec hx
/-- the height of a group at an x of its slab -/
noncomputable def GV (D : Nat → Nat → Int) (g : Nat → Int × Int) (n b q c : Nat) : Int := Yv D g (rwF D g n b (gk D g n b q)) c
theorem GV_k {D : Nat → Nat → Int} {n m M : Nat} {f : Nat → Int × Int × Int × Int} {g : Nat → Int × Int} (hS : Swp D n m f M g) {b k : Nat} (hb : b + 1 < M) (hk : k < rwC D g n b) : GV D g n b (gq D g n b k) b = Yv D g (rwF D g n b k) b ∧ GV D g n b (gq D g n b k) (b + 1) = Yv D g (rwF D g n b k) (b + 1) := by
  obtain ⟨h1, h2⟩ := gk_ok (gq_lt (g := g) (b := b) (D := D) hk)
  unfold GV
  generalize gk D g n b (gq D g n b k) = k' at *
  rcases Nat.le_total k k' with c | c
  · have := (gq_key hS hb k' c h1).mp h2.symm
    omega
  · have := (gq_key hS hb k c hk).mp h2
    omega
theorem GV_lt {D : Nat → Nat → Int} {n m M : Nat} {f : Nat → Int × Int × Int × Int} {g : Nat → Int × Int} (hS : Swp D n m f M g) {b q q' : Nat} (hb : b + 1 < M) (hq : q < q') (hq' : q' < gcN D g n b) : (GV D g n b q b < GV D g n b q' b ∧ GV D g n b q (b + 1) ≤ GV D g n b q' (b + 1)) ∨ (GV D g n b q b = GV D g n b q' b ∧ GV D g n b q (b + 1) < GV D g n b q' (b + 1)) := by
  obtain ⟨h1, h2⟩ := gk_ok (q := q) (g := g) (b := b) (D := D) (n := n) (by omega)
  obtain ⟨h3, h4⟩ := gk_ok (g := g) (b := b) (D := D) hq'
  unfold GV
  generalize gk D g n b q = k at *
  generalize gk D g n b q' = k' at *
  have hkk : k < k' := by
    apply Decidable.byContradiction
    intro z
    have := gq_mono D g n b (show k' ≤ k by omega)
    omega
  have o := rw_key hS hb hkk h3
  have e := gq_key hS hb k' (show k ≤ k' by omega) h3
  obtain ⟨a1, a2⟩ := rw_lt h1
  obtain ⟨a3, a4⟩ := rw_lt h3
  have nc := no_cross hS hb a1 a3 a2 a4
  rcases o with o | o
  · exact Or.inl ⟨o, nc o⟩
  · refine Or.inr ⟨o.1, ?_⟩
    apply Decidable.byContradiction
    intro z
    have := e.mpr ⟨o.1, by omega⟩
    omega
theorem GV_le {D : Nat → Nat → Int} {n m M : Nat} {f : Nat → Int × Int × Int × Int} {g : Nat → Int × Int} (hS : Swp D n m f M g) {b q q' : Nat} (hb : b + 1 < M) (hq : q ≤ q') (hq' : q' < gcN D g n b) : GV D g n b q b ≤ GV D g n b q' b ∧ GV D g n b q (b + 1) ≤ GV D g n b q' (b + 1) := by
  by_cases e : q = q'
  · subst e; omega
  · have := GV_lt hS hb (show q < q' by omega) hq'
    omega
def hiP (D : Nat → Nat → Int) (g : Nat → Int × Int) (n b q i : Nat) : Bool := decide (∃ k, k < rwC D g n b ∧ rwF D g n b k = i ∧ (gq D g n b k == q) = true)
theorem hiG_P (D : Nat → Nat → Int) (g : Nat → Int × Int) (n b q : Nat) : hiG D g n b q = bitsOf (hiP D g n b q) n := rfl
theorem loG_s (D : Nat → Nat → Int) (g : Nat → Int × Int) (n b q : Nat) : loG D g n b (q + 1) = hiG D g n b q := by
  unfold loG hiG
  refine bG_congr fun k _ => ?_
  rw [Bool.eq_iff_iff, beq_iff_eq, beq_iff_eq]
  omega
theorem loG_0 {D : Nat → Nat → Int} {g : Nat → Int × Int} {n b : Nat} (hn : n ≤ 30) : loG D g n b 0 = 0 := bG_0 hn fun k _ => by rw [beq_iff_eq]; omega
theorem hiG_0 {D : Nat → Nat → Int} {g : Nat → Int × Int} {n b q : Nat} (hn : n ≤ 30) (h : gcN D g n b ≤ q) : hiG D g n b q = 0 := bG_0 hn fun k hk => by
  rw [beq_iff_eq]
  have := gq_lt (g := g) (b := b) (D := D) hk
  omega
theorem hiP_ok {D : Nat → Nat → Int} {n m M : Nat} {f : Nat → Int × Int × Int × Int} {g : Nat → Int × Int} (hS : Swp D n m f M g) {b q i : Nat} (hb : b + 1 < M) (h : hiP D g n b q i = true) : i < n ∧ thrB D g b i = true ∧ q < gcN D g n b ∧ Yv D g i b = GV D g n b q b ∧ Yv D g i (b + 1) = GV D g n b q (b + 1) := by
  unfold hiP at h
  rw [decide_eq_true_iff] at h
  obtain ⟨k, hk, rfl, e⟩ := h
  rw [beq_iff_eq] at e
  subst e
  obtain ⟨a1, a2⟩ := rw_lt hk
  have := GV_k hS hb hk
  exact ⟨a1, a2, gq_lt hk, this.1.symm, this.2.symm⟩
theorem hiP_ex {D : Nat → Nat → Int} {g : Nat → Int × Int} {n b q : Nat} (h : q < gcN D g n b) : ∃ i, i < n ∧ hiP D g n b q i = true := by
  obtain ⟨h1, h2⟩ := gk_ok h
  refine ⟨rwF D g n b (gk D g n b q), (rw_lt h1).1, ?_⟩
  unfold hiP
  rw [decide_eq_true_iff]
  exact ⟨_, h1, rfl, by rw [beq_iff_eq]; exact h2⟩
theorem thr_rch {D : Nat → Nat → Int} {n m M : Nat} {f : Nat → Int × Int × Int × Int} {g : Nat → Int × Int} (hS : Swp D n m f M g) {b i : Nat} (hb : b + 1 < M) (hi : i < n) (t : thrB D g b i = true) : D 0 i < D 2 i ∧ rchB D g b i = true ∧ rchB D g (b + 1) i = true := by
  rw [thr_iff hS hb hi] at t
  rw [rch_S hS (show b < M by omega), rch_S hS hb]
  have x := XX_lt hS (show b < b + 1 by omega) hb
  exact ⟨t.1, ⟨t.2.1, by omega⟩, by omega, t.2.2⟩
theorem GV_T {D : Nat → Nat → Int} {n m M : Nat} {f : Nat → Int × Int × Int × Int} {g : Nat → Int × Int} (hS : Swp D n m f M g) {b q : Nat} (hb : b + 1 < M) (hq : q < gcN D g n b) : IsT D g n b (GV D g n b q b) ∧ IsT D g n (b + 1) (GV D g n b q (b + 1)) := by
  obtain ⟨i, hi, h⟩ := hiP_ex hq
  obtain ⟨a1, a2, a3, a4, a5⟩ := hiP_ok hS hb h
  obtain ⟨r1, r2, r3⟩ := thr_rch hS hb hi a2
  rw [← a4, ← a5]
  exact ⟨T_fl hi r2 (by omega), T_fl hi r3 (by omega)⟩
/-- of a slab and an x that bounds it: the height at which its q-th cell ends -/
noncomputable def EV (D : Nat → Nat → Int) (g : Nat → Int × Int) (n s q c : Nat) : Int := GV D g n (s - 1) q c
/-- of a stretch of an x: the cell of a slab in which it is -/
noncomputable def psC (D : Nat → Nat → Int) (g : Nat → Int × Int) (n M s c r : Nat) : Nat := cntN (fun q => decide (rk D g n c (EV D g n s q c) < r)) (nC D g n M s - 1)
theorem EV_ok {D : Nat → Nat → Int} {n m M : Nat} {f : Nat → Int × Int × Int × Int} {g : Nat → Int × Int} (hS : Swp D n m f M g) {s q c : Nat} (hq : q < nC D g n M s - 1) (hc : c = s ∨ c + 1 = s) : s ≠ 0 ∧ s < M ∧ nC D g n M s = gcN D g n (s - 1) + 1 ∧ IsT D g n c (EV D g n s q c) ∧ ∀ q', q' ≤ q → EV D g n s q' c ≤ EV D g n s q c := by
  have hz : ¬ (s = 0 ∨ M ≤ s) := by
    intro z
    unfold nC at hq
    rw [if_pos z] at hq
    omega
  have en : nC D g n M s = gcN D g n (s - 1) + 1 := by unfold nC; rw [if_neg hz]
  have hs : (s - 1) + 1 < M := by omega
  refine ⟨by omega, by omega, en, ?_, fun q' hq' => ?_⟩
  · have t := GV_T hS hs (q := q) (by omega)
    unfold EV
    rcases hc with rfl | rfl
    · rw [show c - 1 + 1 = c by omega] at t
      exact t.2
    · simp only [Nat.add_sub_cancel] at t ⊢
      exact t.1
  · have t := GV_le hS hs hq' (by omega)
    unfold EV
    rcases hc with rfl | rfl
    · rw [show c - 1 + 1 = c by omega] at t
      exact t.2
    · simp only [Nat.add_sub_cancel] at t ⊢
      exact t.1
theorem ps_le (D : Nat → Nat → Int) (g : Nat → Int × Int) (n M s c r : Nat) : psC D g n M s c r ≤ nC D g n M s - 1 := cntN_le _ _
theorem cnt_init {p : Nat → Bool} {N : Nat} (h : ∀ i j, i ≤ j → j < N → p j = true → p i = true) : ∀ j, j < N → (j < cntN p N ↔ p j = true) := by
  induction N with
  | zero => intro j hj; exact absurd hj (Nat.not_lt_zero _)
  | succ N ih =>
    have ih := ih (fun i j h1 h2 => h i j h1 (by omega))
    intro j hj
    have le := cntN_le p N
    rw [cntN_s]
    by_cases c : p N = true
    · rw [if_pos c]
      have full : cntN p N = N := cnt_all fun i hi => h i N (by omega) (by omega) c
      by_cases d : j = N
      · subst d; exact ⟨fun _ => c, fun _ => by omega⟩
      · exact ⟨fun _ => h j N (by omega) (by omega) c, fun _ => by omega⟩
    · rw [if_neg c]
      by_cases d : j = N
      · subst d; exact ⟨fun z => by omega, fun z => absurd z c⟩
      · exact ih j (by omega)
theorem ps_lt {D : Nat → Nat → Int} {n m M : Nat} {f : Nat → Int × Int × Int × Int} {g : Nat → Int × Int} (hS : Swp D n m f M g) {s q c r : Nat} (hq : q < nC D g n M s - 1) (hc : c = s ∨ c + 1 = s) : q < psC D g n M s c r ↔ rk D g n c (EV D g n s q c) < r := by
  have := cnt_init (p := fun q => decide (rk D g n c (EV D g n s q c) < r)) (N := nC D g n M s - 1) (fun i j hij hj pj => by
    rw [decide_eq_true_iff] at pj ⊢
    have := (EV_ok hS hj hc).2.2.2.2 i hij
    have := rkI_mono (t := tau D g n c) (K := tK D g n c) this
    unfold rk at pj ⊢
    omega) q hq
  rw [decide_eq_true_iff] at this
  exact this
