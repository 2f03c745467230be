/-! how many edges end at a point, at another place -/
noncomputable def inH (D : Nat → Nat → Int) (g : Nat → Int × Int) (n M x : Nat) : Nat := cntN (fun e => eVl D g n M e && eH D g n e && (eV D g n M e == x)) (2 * (32 * (M + 1)))
/-- lines that run along the edges to a point go through it -/
theorem alg_pt {D : Nat → Nat → Int} {n m M : Nat} {f : Nat → Int × Int × Int × Int} {g : Nat → Int × Int} (hS : Swp D n m f M g) {p e l : Nat} (hp : p < m) (he : e < 2 * (32 * (M + 1))) (hH : (eVl D g n M e && eH D g n e && (eV D g n M e == cdP D g f n M p)) = true) (ha : alg D g n e l) (hl : l < n) : (∃ b q, b + 1 < M ∧ q < gcN D g n b ∧ q < 32 ∧ e = 2 * (32 * (b + 1) + q) ∧ XX g (b + 1) = sX (f p) ∧ sY (f p) = GV D g n b q (b + 1) ∧ D 0 l < D 2 l ∧ thrB D g b l = true ∧ Yv D g l b = GV D g n b q b ∧ Yv D g l (b + 1) = GV D g n b q (b + 1) ∧ rchB D g (b + 1) l = true) ∨ (∃ c k, c < M ∧ k < tK D g n c ∧ k < 32 ∧ e = 2 * (32 * c + k) + 1 ∧ XX g c = sX (f p) ∧ k = rk D g n c (sY (f p)) ∧ IsT D g n c (sY (f p)) ∧ D 0 l = D 2 l ∧ rchB D g c l = true ∧ D 1 l * KK < sY (f p) ∧ sY (f p) ≤ D 3 l * KK) := by
  obtain ⟨b1, b2⟩ := pb_ok hS hp
  obtain ⟨c1, c2, c3, c4⟩ := cdP_at hS hp b1 b2
  rw [c1] at hH
  rcases H_form hS he hH with ⟨b, q, hb, hq, q32, rfl, ex⟩ | ⟨c, k, hc, hk, k32, hv, rfl, ex⟩
  · left
    have T := (GV_T hS hb hq).2
    have r1 := rk_lt T
    have t20 := tK_20 (D := D) (g := g) (n := n) (c := b + 1) (by have := hS.1.1; omega)
    have ec : pbX g f M p = b + 1 := by omega
    rw [ec] at b2 c2 ex
    rw [alg_1 q32] at ha
    obtain ⟨w1, w2, w3, w4, w5⟩ := hiP_ok hS hb ha
    obtain ⟨z1, z2, z3⟩ := thr_rch hS hb w1 w2
    exact ⟨b, q, hb, hq, q32, rfl, b2, (rk_cmp c2 T).2.mp (by omega), z1, w2, w4, w5, z3⟩
  · right
    have t20 := tK_20 (D := D) (g := g) (n := n) (c := c) (by have := hS.1.1; omega)
    have ec : pbX g f M p = c := by omega
    rw [ec] at b2 c2 ex
    rw [alg_2 k32] at ha
    rw [upS_iff] at ha
    have ek : k = rk D g n c (sY (f p)) := by omega
    have tu := T_up (g := g) (c := c) hl ha.2.1 ha.1
    have q1 := rk_cmp tu.1 c2
    have q2 := rk_cmp tu.2 c2
    refine ⟨c, k, hc, hk, k32, rfl, b2, ek, c2, ha.1, ha.2.1, q1.1.mp (by omega), ?_⟩
    have : ¬ D 3 l * KK < sY (f p) := fun z => by have := q2.1.mpr z; omega
    omega
/-- the least end of a line is a point ahead of those above it -/
theorem endA_lt {D : Nat → Nat → Int} {n m M : Nat} {f : Nat → Int × Int × Int × Int} {g : Nat → Int × Int} (hS : Swp D n m f M g) {l p : Nat} (hl : l < n) (hp : p < m) (hlt : D 0 l * KK < sX (f p) ∨ (D 0 l * KK = sX (f p) ∧ D 1 l * KK < sY (f p))) : ∃ a, a < p ∧ a < m ∧ onD D (f a) l = true ∧ f a = endA D l := by
  obtain ⟨⟨a, ha, ea⟩, -⟩ := end_pt hS.2.1 hl
  have oa := (end_on hS.1 (i := l) (by omega)).1
  have es := end_s D l
  refine ⟨a, ?_, ha, by rw [ea]; exact oa, ea⟩
  rw [pt_lt hS.2.1 ha hp, ea, es.1, es.2.1]
  exact hlt
/-- the point ahead on one line that runs along an edge is on the other ones too -/
theorem alg_prev {D : Nat → Nat → Int} {n m M : Nat} {f : Nat → Int × Int × Int × Int} {g : Nat → Int × Int} (hS : Swp D n m f M g) {p e l l' i : Nat} (hp : p < m) (he : e < 2 * (32 * (M + 1))) (hH : (eVl D g n M e && eH D g n e && (eV D g n M e == cdP D g f n M p)) = true) (ha : alg D g n e l) (hl : l < n) (ha' : alg D g n e l') (hl' : l' < n) (nx : nxB D f l i p = true) : nxB D f l' i p = true := by
  have h := hS.1
  have z := nxB_iff.mp nx
  have hi : i < m := by omega
  have op' : onD D (f p) l' = true := by
    rcases alg_pt hS hp he hH ha' hl' with ⟨b, q, hb, hq, q32, ee, hx, hy, hu, ht, y1, y2, hr⟩ | ⟨c, k, hc, hk, k32, ee, hx, ek, hT, hu, hr, y1, y2⟩
    · exact (flat_at hS hl' hu hp hb hx).mpr ⟨hr, by omega⟩
    · exact (up_at hS hl' hu hp hc hx).mpr ⟨hr, by omega, y2⟩
  refine nxB_ot h hS.2.1.1 hp hl hl' nx ?_ op'
  have lt := (pt_lt hS.2.1 hi hp).mp z.1
  obtain ⟨d1, d2⟩ := pb_ok hS hi
  rcases alg_pt hS hp he hH ha hl with ⟨b, q, hb, hq, q32, ee, hx, hy, hu, ht, y1, y2, hr⟩ | ⟨c, k, hc, hk, k32, ee, hx, ek, hT, hu, hr, y1, y2⟩
  · rcases alg_pt hS hp he hH ha' hl' with ⟨b', q', hb', hq', q32', ee', hx', hy', hu', ht', y1', y2', hr'⟩ | ⟨c', k', _, _, k32', ee', _⟩
    · have eb : b' = b := by omega
      subst eb
      have eq : q' = q := by omega
      subst eq
      have o1 := (flat_at hS hl hu hi d1 d2).mp z.2.1
      -- the column of i
      have hlt : XX g (pbX g f M i) < XX g (b' + 1) := by
        rcases lt with q1 | ⟨q1, q2⟩
        · omega
        · exfalso
          have e : pbX g f M i = b' + 1 := XX_eq hS d1 hb' (by omega)
          rw [e] at o1
          omega
      have hc := XX_ix hS d1 hb' hlt
      have par := Yv_par hS (show b' < M by omega) hb' (by omega) hl hl' hu hu' (by omega) (by omega)
      have yi := Yv_all hS (show b' < M by omega) d1 hl hl' hu hu' par (by omega)
      rw [flat_at hS hl' hu' hi d1 d2]
      refine ⟨?_, by rw [o1.2]; exact yi⟩
      rw [rch_S hS d1]
      have rl := (rch_S hS d1 l).mp o1.1
      rw [thr_iff hS hb' hl'] at ht'
      have mon : XX g (pbX g f M i) ≤ XX g b' := by
        by_cases w : pbX g f M i = b'
        · rw [w]; exact Int.le_refl _
        · have := XX_lt hS (show pbX g f M i < b' by omega) (by omega); omega
      have mon2 := XX_lt hS (show b' < b' + 1 by omega) hb'
      refine ⟨?_, by omega⟩
      apply Decidable.byContradiction
      intro w
      obtain ⟨a, a1, a2, a3, a4⟩ := endA_lt hS hl' hp (Or.inl (by omega))
      have es := end_s D l'
      obtain ⟨u1, u2⟩ := pb_ok hS a2
      have u3 := (flat_at hS hl' hu' a2 u1 u2).mp a3
      have u4 := Yv_all hS (show b' < M by omega) u1 hl hl' hu hu' par (by omega)
      have sxa : sX (f a) = D 0 l' * KK := by rw [a4, es.1]
      refine z.2.2.2 a a1 ?_ ((flat_at hS hl hu a2 u1 u2).mpr ⟨?_, by rw [u3.2]; exact u4.symm⟩)
      · rw [pt_lt hS.2.1 hi a2]; omega
      · rw [rch_S hS u1]
        rw [thr_iff hS hb' hl] at ht
        omega
    · omega
  · rcases alg_pt hS hp he hH ha' hl' with ⟨b', q', _, _, q32', ee', _⟩ | ⟨c', k', hc', hk', k32', ee', hx', ek', hT', hu', hr', y1', y2'⟩
    · omega
    · have ec : c' = c := by omega
      subst ec
      have rl := (rch_S hS hc' l).mp hr
      have rl' := (rch_S hS hc' l').mp hr'
      have ox := (on_p hS.2.1 hi).mp z.2.1
      rw [OnS_up hu (by have := (h.2 l (by omega)).2; omega)] at ox
      have k0 : D 0 l * KK = D 2 l * KK := by rw [hu]
      have k0' : D 0 l' * KK = D 2 l' * KK := by rw [hu']
      rw [up_at hS hl' hu' hi hc' (by omega)]
      refine ⟨hr', ?_, by omega⟩
      apply Decidable.byContradiction
      intro w
      obtain ⟨a, a1, a2, a3, a4⟩ := endA_lt hS hl' hp (Or.inr ⟨by omega, y1'⟩)
      have es := end_s D l'
      have sxa : sX (f a) = D 0 l' * KK := by rw [a4, es.1]
      have sya : sY (f a) = D 1 l' * KK := by rw [a4, es.2.1]
      refine z.2.2.2 a a1 ?_ ((up_at hS hl hu a2 hc' (by omega)).mpr ⟨hr, by omega, by omega⟩)
      rw [pt_lt hS.2.1 hi a2]; omega
theorem in_pt {D : Nat → Nat → Int} {n m M : Nat} {f : Nat → Int × Int × Int × Int} {g : Nat → Int × Int} (hS : Swp D n m f M g) {p : Nat} (hp : p < m) : inH D g n M (cdP D g f n M p) = cntN (fun l => pcB D f l p) n := by
  have h := hS.1
  unfold inH
  refine cnt_rel (alg D g n) (fun e he hH => ?_) (fun l hl hq => ?_) (fun e e' l he he' hl hH hH' hq r r' => ?_) (fun e l l' he hl hl' hH hq hq' r r' => ?_)
  · -- an edge: some line runs along it, and the point ahead
    have ex : ∃ l, l < n ∧ alg D g n e l := by
      rcases H_form hS he hH with ⟨b, q, hb, hq, q32, rfl, ex⟩ | ⟨c, k, hc, hk, k32, hv, rfl, ex⟩
      · obtain ⟨i, hi, hh⟩ := hiP_ex hq
        exact ⟨i, hi, (alg_1 q32).mpr hh⟩
      · obtain ⟨i, hi, hu⟩ := cov_iff.mp hv
        exact ⟨i, hi, (alg_2 k32).mpr hu⟩
    obtain ⟨l, hl, ha⟩ := ex
    have pre : ∃ i, nxB D f l i p = true := by
      have op : onD D (f p) l = true ∧ ∃ a, a < p ∧ onD D (f a) l = true := by
        rcases alg_pt hS hp he hH ha hl with ⟨b, q, hb, hq, q32, ee, hx, hy, hu, ht, y1, y2, hr⟩ | ⟨c, k, hc, hk, k32, ee, hx, ek, hT, hu, hr, y1, y2⟩
        · rw [thr_iff hS hb hl] at ht
          have := XX_lt hS (show b < b + 1 by omega) hb
          obtain ⟨a, a1, a2, a3, a4⟩ := endA_lt hS hl hp (Or.inl (by omega))
          exact ⟨(flat_at hS hl hu hp hb hx).mpr ⟨hr, by omega⟩, a, a1, a3⟩
        · have rl := (rch_S hS hc l).mp hr
          rw [← hu] at rl
          obtain ⟨a, a1, a2, a3, a4⟩ := endA_lt hS hl hp (Or.inr ⟨by omega, y1⟩)
          exact ⟨(up_at hS hl hu hp hc hx).mpr ⟨hr, by omega, y2⟩, a, a1, a3⟩
      obtain ⟨o1, a, a1, a3⟩ := op
      obtain ⟨j, j1, j2, j3⟩ := nx_ex p ⟨a, a1, a3⟩
      exact ⟨j, nxB_iff.mpr ⟨j1, j2, o1, j3⟩⟩
    obtain ⟨i, nx⟩ := pre
    obtain ⟨l', hl', nx', ls'⟩ := pc_ex h hS.2.1.1 hl hp nx
    have z := nxB_iff.mp nx
    have z' := nxB_iff.mp nx'
    have hi : i < m := by omega
    refine ⟨l', hl', pcB_iff.mpr ⟨i, z.1, nx', ls'⟩, ?_⟩
    obtain ⟨d1, d2⟩ := pb_ok hS hi
    have lt := (pt_lt hS.2.1 hi hp).mp z.1
    have li' := (h.2 l' (by omega)).2
    rcases alg_pt hS hp he hH ha hl with ⟨b, q, hb, hq, q32, rfl, hx, hy, hu, ht, y1, y2, hr⟩ | ⟨c, k, hc, hk, k32, rfl, hx, ek, hT, hu, hr, y1, y2⟩
    · have o1 := (flat_at hS hl hu hi d1 d2).mp z.2.1
      have hlt : XX g (pbX g f M i) < XX g (b + 1) := by
        rcases lt with q1 | ⟨q1, q2⟩
        · omega
        · exfalso
          have e : pbX g f M i = b + 1 := XX_eq hS d1 hb (by omega)
          rw [e] at o1
          omega
      have hc := XX_ix hS d1 hb hlt
      have hu' : D 0 l' < D 2 l' := by
        rcases li' with w | w
        · exact w
        · exfalso
          have p1 := (on_p hS.2.1 hi).mp z'.2.1
          have p2 := (on_p hS.2.1 hp).mp z'.2.2.1
          rw [OnS_up w.1 w.2] at p1 p2
          omega
      have p1 := (flat_at hS hl' hu' hi d1 d2).mp z'.2.1
      have p2 := (flat_at hS hl' hu' hp hb hx).mp z'.2.2.1
      have par := Yv_par hS d1 hb (by omega) hl hl' hu hu' (by rw [← o1.2]; exact p1.2) (by rw [y2, ← hy]; exact p2.2)
      have yb := Yv_all hS hb (show b < M by omega) hl hl' hu hu' par (by rw [y2, ← hy]; exact p2.2)
      have mon : XX g (pbX g f M i) ≤ XX g b := by
        by_cases w : pbX g f M i = b
        · rw [w]; exact Int.le_refl _
        · have := XX_lt hS (show pbX g f M i < b by omega) (by omega); omega
      have r1 := (rch_S hS d1 l').mp p1.1
      have r2 := (rch_S hS hb l').mp p2.1
      rw [alg_1 q32]
      exact hiP_of hS hb hq hl' ((thr_iff hS hb hl').mpr ⟨hu', by omega, by omega⟩) (by rw [← y1]; exact yb.symm) (by rw [← hy]; exact p2.2.symm)
    · have ox := (on_p hS.2.1 hi).mp z.2.1
      rw [OnS_up hu (by have := (h.2 l (by omega)).2; omega)] at ox
      have rl := (rch_S hS hc l).mp hr
      have sxi : XX g c = sX (f i) := by rw [← hu] at rl; omega
      have hu' : D 0 l' = D 2 l' := by
        rcases li' with w | w
        · exfalso
          have p1 := (flat_at hS hl' w hi hc sxi).mp z'.2.1
          have p2 := (flat_at hS hl' w hp hc hx).mp z'.2.2.1
          omega
        · exact w.1
      have p1 := (up_at hS hl' hu' hi hc sxi).mp z'.2.1
      have p2 := (up_at hS hl' hu' hp hc hx).mp z'.2.2.1
      have tu := T_up (g := g) (c := c) hl' p2.1 hu'
      have q1 := rk_cmp tu.1 hT
      rw [alg_2 k32, upS_iff]
      refine ⟨hu', p2.1, by rw [ek]; exact q1.1.mpr (by omega), by rw [ek]; exact rkI_mono p2.2.2⟩
  · -- a piece: its edge
    rw [pcB_iff] at hq
    obtain ⟨i, hip, nx, ls⟩ := hq
    have z := nxB_iff.mp nx
    have hi : i < m := by omega
    obtain ⟨d1, d2⟩ := pb_ok hS hi
    obtain ⟨b1, b2⟩ := pb_ok hS hp
    obtain ⟨c1, c2, c3, c4⟩ := cdP_at hS hp b1 b2
    have lt := (pt_lt hS.2.1 hi hp).mp z.1
    have ll := (h.2 l (by omega)).2
    by_cases hu : D 0 l = D 2 l
    · have p1 := (on_p hS.2.1 hi).mp z.2.1
      rw [OnS_up hu (by omega)] at p1
      have p2 := (up_at hS hl hu hp b1 b2).mp z.2.2.1
      have rl := (rch_S hS b1 l).mp p2.1
      rw [← hu] at rl
      have tu := T_up (g := g) (c := pbX g f M p) hl p2.1 hu
      have q1 := rk_cmp tu.1 c2
      have us : upS D g n (pbX g f M p) (rk D g n (pbX g f M p) (sY (f p))) l = true := upS_iff.mpr ⟨hu, p2.1, q1.1.mpr (by omega), rkI_mono p2.2.2⟩
      have hv : cov D g n (pbX g f M p) (rk D g n (pbX g f M p) (sY (f p))) = true := cov_iff.mpr ⟨l, hl, us⟩
      obtain ⟨m1, m2, m3⟩ := H_mk2 hS b1 hv
      exact ⟨_, m2, by rw [c1]; exact m3, (alg_2 m1).mpr us⟩
    · have hu' : D 0 l < D 2 l := by omega
      have p1 := (flat_at hS hl hu' hi d1 d2).mp z.2.1
      have p2 := (flat_at hS hl hu' hp b1 b2).mp z.2.2.1
      have hlt : XX g (pbX g f M i) < XX g (pbX g f M p) := by
        rcases lt with q1 | ⟨q1, q2⟩
        · omega
        · exfalso
          have e : pbX g f M i = pbX g f M p := XX_eq hS d1 b1 (by omega)
          rw [e] at p1
          omega
      have hc := XX_ix hS d1 b1 hlt
      obtain ⟨b, eb⟩ : ∃ b, pbX g f M p = b + 1 := ⟨pbX g f M p - 1, by omega⟩
      rw [eb] at b1 b2 c1 c2 p2 hc
      have mon : XX g (pbX g f M i) ≤ XX g b := by
        by_cases w : pbX g f M i = b
        · rw [w]; exact Int.le_refl _
        · have := XX_lt hS (show pbX g f M i < b by omega) (by omega); omega
      have r1 := (rch_S hS d1 l).mp p1.1
      have r2 := (rch_S hS b1 l).mp p2.1
      have ht : thrB D g b l = true := (thr_iff hS b1 hl).mpr ⟨hu', by omega, by omega⟩
      obtain ⟨q, hq, v1, v2⟩ := grp_of hS b1 hl ht
      obtain ⟨m1, m2, m3⟩ := H_mk1 hS b1 hq
      refine ⟨_, m2, ?_, (alg_1 m1).mpr (hiP_of hS b1 hq hl ht v1.symm v2.symm)⟩
      rw [c1, p2.2, ← v2]
      exact m3
  · -- one line, one edge
    rcases alg_pt hS hp he hH r hl with ⟨b, q, hb, hq, q32, ee, hx, hy, hu, ht, y1, y2, hr⟩ | ⟨c, k, hc, hk, k32, ee, hx, ek, hT, hu, hr, y1, y2⟩
    · rcases alg_pt hS hp he' hH' r' hl with ⟨b', q', hb', hq', q32', ee', hx', hy', hu', ht', y1', y2', hr'⟩ | ⟨c', k', hc', hk', k32', ee', hx', ek', hT', hu', hr', y1', y2'⟩
      · have eb := XX_eq hS hb hb' (by omega)
        have eb2 : b' = b := by omega
        subst eb2
        subst ee ee'
        rw [alg_1 q32] at r
        rw [alg_1 q32'] at r'
        rw [hiP_one h r r']
      · omega
    · rcases alg_pt hS hp he' hH' r' hl with ⟨b', q', hb', hq', q32', ee', hx', hy', hu', ht', y1', y2', hr'⟩ | ⟨c', k', hc', hk', k32', ee', hx', ek', hT', hu', hr', y1', y2'⟩
      · omega
      · have ec := XX_eq hS hc hc' (by omega)
        subst ec
        omega
  · -- one edge, one line
    rw [pcB_iff] at hq hq'
    obtain ⟨i, hip, nx, ls⟩ := hq
    obtain ⟨i', hip', nx', ls'⟩ := hq'
    have e := nxB_one (alg_prev hS hp he hH r hl r' hl' nx) nx'
    subst e
    rw [lsB_iff] at ls ls'
    have z := nxB_iff.mp nx
    have z' := nxB_iff.mp nx'
    rcases Nat.lt_trichotomy l l' with c | c | c
    · exact absurd ⟨z.2.1, z.2.2.1⟩ (ls' l c)
    · exact c
    · exact absurd ⟨z'.2.1, z'.2.2.1⟩ (ls l' c)
