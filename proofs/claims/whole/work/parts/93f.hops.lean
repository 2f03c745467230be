/-! hops -/
def blP (P : Nat → Nat → Prop) (K a : Nat) : Nat → Nat → Prop
  | 0 => fun g => g = a
  | d + 1 => fun g => blP P K a d g ∨ ∃ f, f < K ∧ blP P K a d f ∧ P f g
theorem bl_s (P : Nat → Nat → Prop) (K a d g : Nat) : blP P K a (d + 1) g ↔ (blP P K a d g ∨ ∃ f, f < K ∧ blP P K a d f ∧ P f g) := Iff.rfl
theorem bl_mono {P : Nat → Nat → Prop} {K a d e g : Nat} (h : d ≤ e) (hb : blP P K a d g) : blP P K a e g := by
  induction e with
  | zero => have : d = 0 := by omega
            rw [← this]; exact hb
  | succ e ih =>
    by_cases c : d = e + 1
    · rw [← c]; exact hb
    · exact Or.inl (ih (by omega))
theorem s_X0_way {s : Sg} {K a b : Nat} {P : Nat → Nat → Prop} {post : Int → Prop} (hK : K ≤ 50) (h53 : s 53 0 = (K : Int)) (h59 : ∀ F, F < K → s 59 F = bts (fun G => pB (P F G)) K) (ha : a < K) (hb : b < K) (hp : ∀ r, FstX (fun d => pB (blP P K a d b)) (K + 1) r → post r) : w_X0_way s (a : Int) (b : Int) post := by
  unfold w_X0_way
  rw [h53]
  rintro _ rfl
  rw [lone_bts (by omega) ha]
  refine lr_2 (fun v w => ∃ d : Nat, w = (d : Int) ∧ d ≤ K + 1 ∧ v = bts (fun G => pB (blP P K a d G)) K ∧ ∀ e, e < d → ¬ blP P K a e b) (fun _ w => ((K : Int) + 1 - w).toNat) ?_ _ 0 ⟨0, rfl, Nat.zero_le _, bts_congr fun G hG => by rw [pB_eq]; rfl, fun e he => absurd he (Nat.not_lt_zero _)⟩
  rintro again _ _ ⟨d, rfl, hd, rfl, hno⟩ ih
  refine ⟨fun z => ?_, fun z => ?_⟩
  · refine hp _ (Or.inl ⟨rfl, fun e he => ?_⟩)
    rw [pB_iff]
    exact hno e (by omega)
  · rw [lbit_at _ (by omega) (by omega)]
    by_cases c : blP P K a d b
    · rw [if_pos ⟨hb, pB_iff.mpr c⟩]
      refine ⟨fun y => absurd y (by decide), fun _ => hp _ (Or.inr ⟨d, by omega, rfl, pB_iff.mpr c, fun e he => ?_⟩)⟩
      rw [pB_iff]
      exact hno e he
    · rw [if_neg (fun y => c (pB_iff.mp y.2))]
      refine ⟨fun _ => ?_, fun y => absurd rfl y⟩
      refine lr_2 (fun v w => ∃ f : Nat, w = (f : Int) ∧ f ≤ K ∧ v = bts (fun G => pB (∃ f', f' < f ∧ blP P K a d f' ∧ P f' G)) K) (fun _ w => ((K : Int) - w).toNat) ?_ 0 0 ⟨0, rfl, Nat.zero_le _, ?_⟩
      · rintro again2 _ _ ⟨f, rfl, hf, rfl⟩ ih2
        have b1 : ok32 ((d : Int) + 1) := ⟨by omega, by omega⟩
        have b2 : (d : Int) + 1 = ((d + 1 : Nat) : Int) := by omega
        have c1 : ok32 ((f : Int) + 1) := ⟨by omega, by omega⟩
        have c2 : (f : Int) + 1 = ((f + 1 : Nat) : Int) := by omega
        refine ⟨fun y => ?_, fun y => ?_⟩
        · have e : f = K := by omega
          subst e
          rw [w32_id b1, b2, lor_bts _ _ (by omega)]
          rintro _ rfl _ rfl
          refine ih _ _ ⟨d + 1, rfl, by omega, bts_congr fun G hG => by rw [pB_or]; exact pB_congr Iff.rfl, fun e he => ?_⟩ (by omega)
          by_cases e2 : e = d
          · subst e2; exact c
          · exact hno e (by omega)
        · have hf2 : f < K := by omega
          unfold jn
          rw [lbit_at _ (by omega) (by omega), Int.toNat_natCast, h59 f hf2]
          by_cases cf : blP P K a d f
          · rw [if_pos ⟨hf2, pB_iff.mpr cf⟩]
            refine ⟨fun y => absurd y (by decide), fun _ => ⟨by omega, fun v ev w ew => ?_⟩⟩
            rw [ew, w32_id c1, c2, ev, lor_bts _ _ (by omega)]
            clear ev ew
            refine ih2 _ _ ⟨f + 1, rfl, by omega, bts_congr fun G hG => ?_⟩ (by omega)
            rw [pB_or]
            refine pB_congr ⟨?_, ?_⟩
            · rintro (⟨f', h1, h2⟩ | h2)
              · exact ⟨f', by omega, h2⟩
              · exact ⟨f, by omega, cf, h2⟩
            · rintro ⟨f', h1, h2, h3⟩
              by_cases e : f' = f
              · subst e; exact Or.inr h3
              · exact Or.inl ⟨f', by omega, h2, h3⟩
          · rw [if_neg (fun y => cf (pB_iff.mp y.2))]
            refine ⟨fun _ v ev => ?_, fun y => absurd rfl y⟩
            rw [ev, w32_id c1, c2]
            clear ev
            refine ih2 _ _ ⟨f + 1, rfl, by omega, bts_congr fun G hG => pB_congr ⟨?_, ?_⟩⟩ (by omega)
            · rintro ⟨f', h1, h2⟩
              exact ⟨f', by omega, h2⟩
            · rintro ⟨f', h1, h2, h3⟩
              by_cases e : f' = f
              · subst e; exact absurd h2 cf
              · exact ⟨f', by omega, h2, h3⟩
      · rw [← bts_none K]
        exact bts_congr fun G hG => (pB_F fun ⟨f', h1, _⟩ => absurd h1 (Nat.not_lt_zero _)).symm
/-- the reference's far, after the lines f and g of a round -/
def FarM (P : Nat → Nat → Prop) (K : Nat) (far : Nat → Int) (d f' g' : Nat) (t : Sg) : Prop := ∀ g, g < K → (far g ≠ -1 ∧ t 173 g = far g) ∨ (far g = -1 ∧ ((t 173 g = ((d + 1 : Nat) : Int) ∧ ((∃ f, f < f' ∧ far f = (d : Int) ∧ P f g) ∨ (g < g' ∧ far f' = (d : Int) ∧ P f' g))) ∨ (t 173 g = -1 ∧ ¬ ((∃ f, f < f' ∧ far f = (d : Int) ∧ P f g) ∨ (g < g' ∧ far f' = (d : Int) ∧ P f' g)))))
theorem FarM_at {P : Nat → Nat → Prop} {K : Nat} {far : Nat → Int} {d f' g' : Nat} {t : Sg} (h : FarM P K far d f' g' t) {f : Nat} (hf : f < K) : t 173 f = (d : Int) ↔ far f = (d : Int) := by
  rcases h f hf with ⟨h1, h2⟩ | ⟨h1, ⟨h2, -⟩ | ⟨h2, -⟩⟩ <;> omega
theorem FarM_congr {P : Nat → Nat → Prop} {K : Nat} {far : Nat → Int} {d f' g' f2 g2 : Nat} {t : Sg} (h : FarM P K far d f' g' t) (e : ∀ g, g < K → (((∃ f, f < f' ∧ far f = (d : Int) ∧ P f g) ∨ (g < g' ∧ far f' = (d : Int) ∧ P f' g)) ↔ ((∃ f, f < f2 ∧ far f = (d : Int) ∧ P f g) ∨ (g < g2 ∧ far f2 = (d : Int) ∧ P f2 g)))) : FarM P K far d f2 g2 t := by
  intro g hg
  rcases h g hg with h1 | ⟨h1, h2⟩
  · exact Or.inl h1
  · exact Or.inr ⟨h1, by rw [← e g hg]; exact h2⟩
theorem far_step {P : Nat → Nat → Prop} {K a d g : Nat} {far : Nat → Int} {v : Int} (hfar : ∀ g, g < K → FstX (fun e => pB (blP P K a e g)) (d + 1) (far g)) (hg : g < K) (hv : (far g ≠ -1 ∧ v = far g) ∨ (far g = -1 ∧ ((v = ((d + 1 : Nat) : Int) ∧ ∃ f, f < K ∧ far f = (d : Int) ∧ P f g) ∨ (v = -1 ∧ ¬ ∃ f, f < K ∧ far f = (d : Int) ∧ P f g)))) : FstX (fun e => pB (blP P K a e g)) (d + 2) v := by
  have at_d : ∀ f, f < K → far f = (d : Int) → blP P K a d f := by
    intro f hf e
    rcases hfar f hf with ⟨h1, -⟩ | ⟨k, h1, h2, h3, -⟩
    · omega
    · have : k = d := by omega
      rw [← this]
      exact pB_iff.mp h3
  rcases hv with ⟨h1, rfl⟩ | ⟨h1, h2⟩
  · rcases hfar g hg with ⟨e, -⟩ | ⟨k, k1, k2, k3, k4⟩
    · exact absurd e h1
    · exact Or.inr ⟨k, by omega, k2, k3, k4⟩
  · have none : ∀ e, e < d + 1 → ¬ blP P K a e g := by
      intro e he
      rcases hfar g hg with ⟨_, q⟩ | ⟨k, k1, k2, _⟩
      · exact fun w => q e he (pB_iff.mpr w)
      · omega
    rcases h2 with ⟨rfl, f, hf, ef, pf⟩ | ⟨rfl, hno⟩
    · refine Or.inr ⟨d + 1, by omega, rfl, pB_iff.mpr (Or.inr ⟨f, hf, at_d f hf ef, pf⟩), fun e he w => none e he (pB_iff.mp w)⟩
    · refine Or.inl ⟨rfl, fun e he w => ?_⟩
      have w := pB_iff.mp w
      by_cases c : e < d + 1
      · exact none e c w
      · have : e = d + 1 := by omega
        subst this
        rcases w with w | ⟨f, hf, bf, pf⟩
        · exact none d (by omega) w
        · refine hno ⟨f, hf, ?_, pf⟩
          rcases hfar f hf with ⟨_, q⟩ | ⟨k, k1, k2, k3, k4⟩
          · exact absurd (pB_iff.mpr bf) (q d (by omega))
          · by_cases e : k = d
            · omega
            · exfalso
              have bk := pB_iff.mp k3
              have : blP P K a (k + 1) g := Or.inr ⟨f, hf, bk, pf⟩
              exact none (k + 1) (by omega) this
theorem s_rhops {s : Sg} {K a b : Nat} {P : Nat → Nat → Prop} {post : Int → Sg → Prop} (hK : K ≤ 50) (h24 : s 68 24 = (K : Int)) (hP : NxAt s K P) (ha : a < K) (hb : b < K) (hp : ∀ r t, (∀ c, c ≠ 173 → t c = s c) → FstX (fun d => pB (blP P K a d b)) (K + 1) r → post r t) :
    lp_1s (fun (again_8 : Int → Sg → Prop) (v3_6 : Int) (s_7 : Sg) => (s_7 68 24 ≤ v3_6 → lp_1s (fun (again_11 : Int → Sg → Prop) (v3_9 : Int) (s_10 : Sg) => (s_10 68 24 ≤ v3_9 → (0 ≤ (b : Int) ∧ (b : Int) < 900) ∧ (post (s_10 173 (b : Int).toNat) s_10)) ∧ (¬ s_10 68 24 ≤ v3_9 → lp_1s (fun (again_15 : Int → Sg → Prop) (v4_13 : Int) (s_14 : Sg) => (s_14 68 24 ≤ v4_13 → ∀ v3_16, v3_16 = w32 (v3_9 + 1) → (again_11 v3_16 s_14)) ∧ (¬ s_14 68 24 ≤ v4_13 → lp_1s (fun (again_19 : Int → Sg → Prop) (v5_17 : Int) (s_18 : Sg) => jn (fun (K_20 : Prop) => (s_18 68 24 ≤ v5_17 → K_20) ∧ (¬ s_18 68 24 ≤ v5_17 → (0 ≤ v4_13 ∧ v4_13 < 900) ∧ ((¬ s_18 173 v4_13.toNat = v3_9 → K_20) ∧ (s_18 173 v4_13.toNat = v3_9 → (0 ≤ v4_13 ∧ v4_13 < 80) ∧ ((0 ≤ v5_17 ∧ v5_17 < 80) ∧ (jn (fun (K_26 : Sg → Prop) => (s_18 (93 + v4_13.toNat) v5_17.toNat = 0 → K_26 s_18) ∧ (¬ s_18 (93 + v4_13.toNat) v5_17.toNat = 0 → (0 ≤ v5_17 ∧ v5_17 < 900) ∧ ((¬ s_18 173 v5_17.toNat = (-1) → K_26 s_18) ∧ (s_18 173 v5_17.toNat = (-1) → (0 ≤ v5_17 ∧ v5_17 < 900) ∧ (∀ s_30, s_30 = up s_18 173 (v5_17.toNat) (w32 (v3_9 + 1)) → (K_26 s_30)))))) (fun (s_25 : Sg) => ∀ v5_27, v5_27 = w32 (v5_17 + 1) → (again_19 v5_27 s_25)))))))) (∀ v4_21, v4_21 = w32 (v4_13 + 1) → (again_15 v4_21 s_18))) 0 s_14)) 0 s_10)) 0 s_7) ∧ (¬ s_7 68 24 ≤ v3_6 → jn (fun (K_32 : Int → Prop) => (¬ v3_6 = (a : Int) → K_32 (-1)) ∧ (v3_6 = (a : Int) → K_32 0)) (fun (t_31 : Int) => (0 ≤ v3_6 ∧ v3_6 < 900) ∧ (∀ s_34, s_34 = up s_7 173 (v3_6.toNat) t_31 → (∀ v3_35, v3_35 = w32 (v3_6 + 1) → (again_8 v3_35 s_34)))))) 0 s := by
  refine lr_1s (fun v t => ∃ f : Nat, v = (f : Int) ∧ f ≤ K ∧ (∀ c, c ≠ 173 → t c = s c) ∧ ∀ g, g < f → t 173 g = if g = a then 0 else -1) (fun v _ => ((K : Int) - v).toNat) ?_ 0 s ⟨0, rfl, Nat.zero_le _, fun _ _ => rfl, fun g hg => absurd hg (Nat.not_lt_zero _)⟩
  rintro again _ t ⟨f, rfl, hf, to, t173⟩ ih
  rw [to 68 (by omega), h24]
  refine ⟨fun z => ?_, fun z => ?_⟩
  · have e : f = K := by omega
    subst e
    clear ih
    -- round by round
    refine lr_1s (fun v u => ∃ d : Nat, v = (d : Int) ∧ d ≤ f ∧ (∀ c, c ≠ 173 → u c = s c) ∧ ∀ g, g < f → FstX (fun e => pB (blP P f a e g)) (d + 1) (u 173 g)) (fun v _ => ((f : Int) - v).toNat) ?_ 0 t ⟨0, rfl, Nat.zero_le _, to, fun g hg => ?_⟩
    · rintro again2 _ u ⟨d, rfl, hd, uo, uf⟩ ih2
      rw [uo 68 (by omega), h24]
      refine ⟨fun z2 => ⟨by omega, ?_⟩, fun z2 => ?_⟩
      · have e : d = f := by omega
        subst e
        rw [Int.toNat_natCast]
        exact hp _ u uo (uf b hb)
      · have hd2 : d < f := by omega
        have b1 : ok32 ((d : Int) + 1) := ⟨by omega, by omega⟩
        have b2 : (d : Int) + 1 = ((d + 1 : Nat) : Int) := by omega
        refine lr_1s (fun v w => ∃ f' : Nat, v = (f' : Int) ∧ f' ≤ f ∧ (∀ c, c ≠ 173 → w c = s c) ∧ FarM P f (u 173) d f' 0 w) (fun v _ => ((f : Int) - v).toNat) ?_ 0 u ⟨0, rfl, Nat.zero_le _, uo, fun g hg => ?_⟩
        · rintro again3 _ w ⟨f', rfl, hf', wo, wM⟩ ih3
          rw [wo 68 (by omega), h24]
          refine ⟨fun z3 v ev => ?_, fun z3 => ?_⟩
          · have e : f' = f := by omega
            subst e
            rw [ev, w32_id b1, b2]
            clear ev
            refine ih2 _ _ ⟨d + 1, rfl, by omega, wo, fun g hg => far_step uf hg ?_⟩ (by omega)
            rcases wM g hg with h1 | ⟨h1, h2⟩
            · exact Or.inl h1
            · refine Or.inr ⟨h1, h2.imp (fun y => ⟨y.1, y.2.resolve_right fun w2 => absurd w2.1 (Nat.not_lt_zero _)⟩) (fun y => ⟨y.1, fun w2 => y.2 (Or.inl w2)⟩)⟩
          · have hf2 : f' < f := by omega
            have c1 : ok32 ((f' : Int) + 1) := ⟨by omega, by omega⟩
            have c2 : (f' : Int) + 1 = ((f' + 1 : Nat) : Int) := by omega
            refine lr_1s (fun v x => ∃ g' : Nat, v = (g' : Int) ∧ g' ≤ f ∧ (∀ c, c ≠ 173 → x c = s c) ∧ FarM P f (u 173) d f' g' x) (fun v _ => ((f : Int) - v).toNat) ?_ 0 w ⟨0, rfl, Nat.zero_le _, wo, wM⟩
            rintro again4 _ x ⟨g', rfl, hg', xo, xM⟩ ih4
            have out : FarM P f (u 173) d (f' + 1) 0 x → ∀ v, v = w32 ((f' : Int) + 1) → again3 v x := by
              intro hM v ev
              rw [ev, w32_id c1, c2]
              clear ev
              exact ih3 _ _ ⟨f' + 1, rfl, by omega, xo, hM⟩ (by omega)
            unfold jn
            rw [xo 68 (by omega), h24, Int.toNat_natCast, Int.toNat_natCast]
            refine ⟨fun z4 => out (FarM_congr xM fun g hg => ?_), fun z4 => ⟨by omega, fun z5 => out (FarM_congr xM fun g hg => ?_), fun z5 => ⟨by omega, by omega, ?_⟩⟩⟩
            · constructor
              · rintro (⟨h, h1, h2⟩ | ⟨h1, h2⟩)
                · exact Or.inl ⟨h, by omega, h2⟩
                · exact Or.inl ⟨f', by omega, h2⟩
              · rintro (⟨h, h1, h2⟩ | ⟨h1, h2⟩)
                · by_cases e : h = f'
                  · subst e; exact Or.inr ⟨by omega, h2⟩
                  · exact Or.inl ⟨h, by omega, h2⟩
                · exact absurd h1 (Nat.not_lt_zero _)
            · have nf : ¬ u 173 f' = (d : Int) := fun y => z5 ((FarM_at xM hf2).mpr y)
              constructor
              · rintro (⟨h, h1, h2⟩ | ⟨h1, h2, h3⟩)
                · exact Or.inl ⟨h, by omega, h2⟩
                · exact absurd h2 nf
              · rintro (⟨h, h1, h2, h3⟩ | ⟨h1, h2⟩)
                · by_cases e : h = f'
                  · subst e; exact absurd h2 nf
                  · exact Or.inl ⟨h, by omega, h2, h3⟩
                · exact absurd h1 (Nat.not_lt_zero _)
            · have hg2 : g' < f := by omega
              have ff : u 173 f' = (d : Int) := (FarM_at xM hf2).mp z5
              have d1 : ok32 ((g' : Int) + 1) := ⟨by omega, by omega⟩
              have d2 : (g' : Int) + 1 = ((g' + 1 : Nat) : Int) := by omega
              have fin : ∀ y : Sg, (∀ c, c ≠ 173 → y c = s c) → FarM P f (u 173) d f' (g' + 1) y → ∀ v, v = w32 ((g' : Int) + 1) → again4 v y := by
                intro y y1 y2 v ev
                rw [ev, w32_id d1, d2]
                clear ev
                exact ih4 _ _ ⟨g' + 1, rfl, by omega, y1, y2⟩ (by omega)
              have xP : BV (x (93 + f') g') (P f' g') := by
                rw [xo (93 + f') (by omega)]
                exact hP f' g' hf2 hg2
              refine ⟨fun z6 => fin x xo (FarM_congr xM fun g hg => ?_), fun z6 => ⟨by omega, fun z7 => fin x xo ?_, fun z7 => ⟨by omega, fun y ey => ?_⟩⟩⟩
              · have np : ¬ P f' g' := by
                  rcases xP with e | e
                  · omega
                  · exact e.2
                refine or_congr Iff.rfl ⟨fun y => ⟨by omega, y.2⟩, fun y => ⟨?_, y.2⟩⟩
                by_cases e : g = g'
                · subst e; exact absurd y.2.2 np
                · omega
              · intro g hg
                by_cases e : g = g'
                · subst e
                  rcases xM g hg with h1 | ⟨h1, h2⟩
                  · exact Or.inl h1
                  · refine Or.inr ⟨h1, ?_⟩
                    rcases h2 with ⟨e1, e2⟩ | ⟨e1, e2⟩
                    · exact Or.inl ⟨e1, e2.imp id fun y => ⟨by omega, y.2⟩⟩
                    · exact absurd e1 z7
                · rcases xM g hg with h1 | ⟨h1, h2⟩
                  · exact Or.inl h1
                  · refine Or.inr ⟨h1, h2.imp (fun y => ⟨y.1, y.2.imp id fun y => ⟨by omega, y.2⟩⟩) (fun y => ⟨y.1, fun w2 => y.2 (w2.imp id fun y => ⟨by omega, y.2⟩)⟩)⟩
              · have pp : P f' g' := by
                  rcases xP with e | e
                  · exact e.2
                  · exact absurd e.1 z6
                rw [w32_id b1, b2] at ey
                refine fin y (fun c hc => by rw [ey, up_ne _ _ _ hc, xo c hc]) fun g hg => ?_
                rw [ey, up_apply]
                by_cases e : g = g'
                · subst e
                  rw [if_pos ⟨rfl, rfl⟩]
                  rcases xM g hg with ⟨h1, h2⟩ | ⟨h1, h2⟩
                  · omega
                  · exact Or.inr ⟨h1, Or.inl ⟨rfl, Or.inr ⟨by omega, ff, pp⟩⟩⟩
                · rw [if_neg (fun y => e y.2)]
                  rcases xM g hg with h1 | ⟨h1, h2⟩
                  · exact Or.inl h1
                  · refine Or.inr ⟨h1, h2.imp (fun y => ⟨y.1, y.2.imp id fun y => ⟨by omega, y.2⟩⟩) (fun y => ⟨y.1, fun w2 => y.2 (w2.imp id fun y => ⟨by omega, y.2⟩)⟩)⟩
        · by_cases c : u 173 g = -1
          · refine Or.inr ⟨c, Or.inr ⟨c, ?_⟩⟩
            rintro (⟨h, h1, _⟩ | ⟨h1, _⟩) <;> exact absurd h1 (Nat.not_lt_zero _)
          · exact Or.inl ⟨c, rfl⟩
    · rw [t173 g hg]
      by_cases e : g = a
      · rw [if_pos e]
        exact Or.inr ⟨0, by omega, rfl, pB_iff.mpr e, fun x hx => absurd hx (Nat.not_lt_zero _)⟩
      · rw [if_neg e]
        refine Or.inl ⟨rfl, fun x hx w => ?_⟩
        have : x = 0 := by omega
        subst this
        exact e (pB_iff.mp w)
  · have hf2 : f < K := by omega
    have b1 : ok32 ((f : Int) + 1) := ⟨by omega, by omega⟩
    have b2 : (f : Int) + 1 = ((f + 1 : Nat) : Int) := by omega
    have fin : ∀ r : Int, (r = if f = a then 0 else -1) → (0 ≤ (f : Int) ∧ (f : Int) < 900) ∧ (∀ s_34, s_34 = up t 173 ((f : Int).toNat) r → (∀ v3_35, v3_35 = w32 ((f : Int) + 1) → (again v3_35 s_34))) := by
      intro r er
      refine ⟨by omega, fun y ey v ev => ?_⟩
      rw [ev, w32_id b1, b2, ey, Int.toNat_natCast]
      clear ev ey
      refine ih _ _ ⟨f + 1, rfl, by omega, fun c hc => by rw [up_ne _ _ _ hc, to c hc], fun g hg => ?_⟩ (by omega)
      rw [up_apply]
      by_cases e : g = f
      · subst e; rw [if_pos ⟨rfl, rfl⟩]; exact er
      · rw [if_neg (fun y => e y.2)]
        exact t173 g (by omega)
    unfold jn
    exact ⟨fun y => fin _ (by rw [if_neg (by omega)]), fun y => fin _ (by rw [if_pos (by omega)])⟩
theorem T_hops {s : Sg} {a b : Int} (hI : Inv s) : w_X9_hops s a b (fun r1 s1 => w_X10_hops s1 a b (fun r2 s2 => r1 = r2 ∧ Inv s2)) := by
  unfold w_X9_hops
  refine s_kFaces hI fun t hIt hc tF => ?_
  obtain ⟨q1, q2, q3, q4, q5, q6⟩ := cls_ref hIt hc
  obtain ⟨m, f, M, g, lab, lab2, hS, h2, hSl, h4, h5, ⟨k0, k1, k2, k3⟩⟩ := tF
  obtain ⟨K, hK⟩ : ∃ K, K = cntN (rootB lab) (fC (dD s) g (nL s) M (M + 1)) := ⟨_, rfl⟩
  rw [← hK] at k0 k3 h5
  have ref : ∀ r1 : Int, (¬ ((0 ≤ a ∧ a < (K : Int)) ∧ 0 ≤ b ∧ b < (K : Int)) → r1 = -2) → (∀ A B : Nat, a = (A : Int) → b = (B : Int) → A < K → B < K → FstX (fun d => pB (blP (NxR (dD s) g (nL s) M lab) K A d B)) (K + 1) r1) → w_X10_hops t a b (fun r2 s2 => r1 = r2 ∧ Inv s2) := by
    intro r1 ho hv
    unfold w_X10_hops
    refine ref_sheet hIt hS q2 q3 fun u lab' rf hIu uR ul uC0 => ?_
    have uC := RFc_one uC0 ul h4
    have u24 : u 68 24 = (K : Int) := by rw [hK]; exact uC.1
    rw [u24, w32_id (show ok32 ((K : Int) - 1) from ⟨by omega, by omega⟩)]
    refine s_X10_in fun r2 hr2 => ?_
    unfold jn
    refine ⟨fun z => ⟨ho fun w => by rcases hr2 with e | e <;> omega, hIu⟩, fun z => s_X10_in fun r3 hr3 => ⟨fun z2 => ?_, fun z2 => ⟨ho fun w => by rcases hr3 with e | e <;> omega, hIu⟩⟩⟩
    have ha : 0 ≤ a ∧ a < (K : Int) := by rcases hr2 with e | e <;> omega
    have hb : 0 ≤ b ∧ b < (K : Int) := by rcases hr3 with e | e <;> omega
    obtain ⟨A, rfl⟩ : ∃ i : Nat, a = (i : Int) := ⟨a.toNat, by omega⟩
    obtain ⟨B, rfl⟩ : ∃ i : Nat, b = (i : Int) := ⟨b.toNat, by omega⟩
    refine s_X10_tellNext hS uR h4 uC (by omega) fun w ww wN => ?_
    rw [← hK] at wN
    have w24 : w 68 24 = (K : Int) := by rw [ww.2 24 (by omega)]; exact u24
    have hIw := Inv_ref hIu ⟨fun c h1 => ww.1 c (by omega) (by omega), ww.2 0 (by omega), ww.2 43 (by omega)⟩
    have go := s_rhops (post := fun r2 s2 => r1 = r2 ∧ Inv s2) (by omega) w24 wN (show A < K by omega) (show B < K by omega) (fun r y yo hr => ⟨FstX_one (hv A B rfl rfl (by omega) (by omega)) hr, Inv_ref hIw ⟨fun c h1 => yo c (by omega), by rw [yo 68 (by omega)], by rw [yo 68 (by omega)]⟩⟩)
    unfold jn at go
    exact go
  unfold jn
  rw [k0]
  refine ⟨fun z => ref _ (fun _ => rfl) fun A B e1 e2 h1 h2 => by omega, fun z => ⟨fun z2 => ref _ (fun _ => rfl) fun A B e1 e2 h1 h2 => by omega, fun z2 => ⟨fun z3 => ref _ (fun _ => rfl) fun A B e1 e2 h1 h2 => by omega, fun z3 => ⟨fun z4 => ?_, fun z4 => ref _ (fun _ => rfl) fun A B e1 e2 h1 h2 => by omega⟩⟩⟩⟩
  obtain ⟨A, rfl⟩ : ∃ i : Nat, a = (i : Int) := ⟨a.toNat, by omega⟩
  obtain ⟨B, rfl⟩ : ∃ i : Nat, b = (i : Int) := ⟨b.toNat, by omega⟩
  refine s_X0_way (P := NxR (dD s) g (nL s) M lab) (by omega) k0 (fun F hF => (k3 F hF).2.2) (by omega) (by omega) fun r hr => ref r (fun w => by omega) fun A' B' e1 e2 h1 h2 => ?_
  have eA : A' = A := by omega
  have eB : B' = B := by omega
  subst eA eB
  exact hr
