theorem k_X10_keep {s : Sg} {v1 : Int} {post : Sg → Prop} (h : w_X10_keep s v1 post) : EvM mX10_keep 2 [(2, 68), (0, v1)] s (poV post) := by
  refine EvM_of rfl (by decide +kernel) (Nat.le_of_ble_eq_true rfl) ?_
  unfold w_X10_keep at h
  show Ev mX10_keep 2 0 [(0, (2, 68)), (1, (0, v1))] [] s (poV post)
  refine Ev_aload_n dX10_keep_0 0 rfl ?_
  refine Ev_getr 68 (174) dX10_keep_1 f_RX10_89 rfl sh_68 rfl ?_
  refine Ev_iload_n dX10_keep_4 1 rfl ?_
  refine Ev_aload_n dX10_keep_5 0 rfl ?_
  refine Ev_geti 68 dX10_keep_6 f_RX10_109 rfl sh_68 ?_
  obtain ⟨hb_1, h⟩ := h
  obtain ⟨s_2, es_2⟩ : ∃ z : Sg, z = (up s 174 (v1.toNat) (s 68 0)) := ⟨_, rfl⟩
  replace h := h s_2 es_2
  refine Ev_iast (174) dX10_keep_9 rfl sh_174 hb_1 ?_
  rw [← es_2]
  refine Ev_iconst (v := 0) dX10_keep_10 rfl ⟨by decide, by decide⟩ ?_
  refine Ev_istore_n dX10_keep_11 (by decide) rfl ?_
  refine Ev_sub [1, 2, 0] rfl ?_
  refine li_1s (P := fun (v2_3 : Int) (s_4 : Sg) => Ev mX10_keep 2 12 [(0, (2, 68)), (1, (0, v1)), (2, (0, v2_3))] [] s_4 (poV post)) ?_ h
  intro again_5 v2_3 s_4 hagain_5 h
  refine Ev_iload_n dX10_keep_12 2 rfl ?_
  refine Ev_iconst (v := 4) dX10_keep_13 rfl ⟨by decide, by decide⟩ ?_
  refine Ev_icmp_ge (tgt := 45) dX10_keep_14 (by decide) (fun hc => ?_) (fun hc => ?_)
  · replace h := h.1 hc
    exact Ev_retv dX10_keep_45 rfl (poV_mk h)
  · replace h := h.2 hc
    refine Ev_aload_n dX10_keep_17 0 rfl ?_
    refine Ev_iload_n dX10_keep_18 2 rfl ?_
    refine Ev_invV (d' := 0) [(0, v2_3)] 68 dX10_keep_19 M_X10_endRow q_1311 (by decide) rfl rfl sh_68 rfl (Nat.le_of_ble_eq_true rfl) (k_X10_endRow h) ?_
    rintro _ _ ⟨rfl, r_6, rfl, h⟩
    refine Ev_iconst (v := 0) dX10_keep_22 rfl ⟨by decide, by decide⟩ ?_
    refine Ev_aload_n dX10_keep_23 0 rfl ?_
    refine Ev_getr 68 (175) dX10_keep_24 f_RX10_94 rfl sh_68 rfl ?_
    refine Ev_iconst (v := 4) dX10_keep_27 rfl ⟨by decide, by decide⟩ ?_
    refine Ev_iload_n dX10_keep_28 1 rfl ?_
    refine Ev_imul dX10_keep_29 ?_
    refine Ev_iload_n dX10_keep_30 2 rfl ?_
    refine Ev_iadd dX10_keep_31 ?_
    obtain ⟨hb_7, h⟩ := h
    refine Ev_aaldi 175 (((176 + (w32 ((w32 (4 * v1)) + v2_3)).toNat : Nat) : Int)) dX10_keep_32 rfl sh_175 hb_7 (rr_175 hb_7).symm ?_
    refine Ev_iconst (v := 0) dX10_keep_33 rfl ⟨by decide, by decide⟩ ?_
    refine Ev_bipush (v := 10) dX10_keep_34 (by decide +kernel) ?_
    obtain ⟨hs_8, h⟩ := h
    obtain ⟨hb_9, h⟩ := h
    obtain ⟨s_10, es_10⟩ : ∃ z : Sg, z = (cpy s_4 (r_6.toNat) 0 (176 + (w32 ((w32 (4 * v1)) + v2_3)).toNat) 0 10) := ⟨_, rfl⟩
    replace h := h s_10 es_10
    refine Ev_copy (r_6.toNat) (176 + (w32 ((w32 (4 * v1)) + v2_3)).toNat) dX10_keep_36 ⟨q_1315, q_869, q_868, q_15⟩ (by decide) (Nat.le_of_ble_eq_true rfl) rfl rfl hs_8 (sr_175 hb_7) hb_9 ?_
    rw [← es_10]
    obtain ⟨v2_11, ev2_11⟩ : ∃ z : Int, z = w32 (v2_3 + 1) := ⟨_, rfl⟩
    replace h := h v2_11 ev2_11
    refine Ev_iinc (v := v2_11) dX10_keep_39 2 rfl ev2_11.symm (by decide) rfl ?_
    refine Ev_goto (tgt := 12) dX10_keep_42 (by decide) ?_
    refine Ev_sub [1, 2, 0] rfl ?_
    exact hagain_5 _ _ h
theorem k_X10_draw {s : Sg} {post : Int → Sg → Prop} (h : w_X10_draw s post) : EvM mX10_draw 0 [(2, 68)] s (poIs 0 post) := by
  refine EvM_of rfl (by decide +kernel) (Nat.le_of_ble_eq_true rfl) ?_
  unfold w_X10_draw at h
  show Ev mX10_draw 0 0 [(0, (2, 68))] [] s (poIs 0 post)
  refine Ev_aload_n dX10_draw_0 0 rfl ?_
  refine Ev_aload_n dX10_draw_1 0 rfl ?_
  refine Ev_geti 68 dX10_draw_2 f_RX10_379 rfl sh_68 ?_
  refine Ev_ldcw (v := 1103515245) dX10_draw_5 q_1340 (by decide +kernel) ?_
  refine Ev_imul dX10_draw_8 ?_
  refine Ev_sipush (v := 12345) dX10_draw_9 (by decide +kernel) ?_
  refine Ev_iadd dX10_draw_12 ?_
  obtain ⟨s_1, es_1⟩ : ∃ z : Sg, z = (up s 68 42 (w32 ((w32 ((s 68 42) * 1103515245)) + 12345))) := ⟨_, rfl⟩
  replace h := h s_1 es_1
  refine Ev_puti 68 dX10_draw_13 fp_RX10_379 rfl sh_68 ?_
  rw [← es_1]
  refine Ev_aload_n dX10_draw_16 0 rfl ?_
  refine Ev_geti 68 dX10_draw_17 f_RX10_379 rfl sh_68 ?_
  refine Ev_bipush (v := 9) dX10_draw_20 (by decide +kernel) ?_
  refine Ev_iushr dX10_draw_22 ?_
  refine Ev_bipush (v := 41) dX10_draw_23 (by decide +kernel) ?_
  obtain ⟨hb, h⟩ := h
  refine Ev_irem dX10_draw_25 hb ?_
  exact Ev_ret dX10_draw_26 trivial (poIs_mk h)
theorem k_X10_in {s : Sg} {v0 v1 v2 : Int} {post : Int → Prop} (h : w_X10_in v0 v1 v2 post) : EvM mX10_in 0 [(0, v0), (0, v1), (0, v2)] s (poI 0 s post) := by
  refine EvM_of rfl (by decide +kernel) (Nat.le_of_ble_eq_true rfl) ?_
  unfold w_X10_in at h
  show Ev mX10_in 0 0 [(0, (0, v0)), (1, (0, v1)), (2, (0, v2))] [] s (poI 0 s post)
  refine Ev_iload_n dX10_in_0 0 rfl ?_
  refine Ev_iload_n dX10_in_1 1 rfl ?_
  refine jc_1 (P := fun (t_1 : Int) => Ev mX10_in 0 15 [] [(0, t_1)] s (poI 0 s post)) h ?_ ?_
  · intro t_1 h
    obtain ⟨hz, h⟩ := h
    exact Ev_ret dX10_in_15 hz (poI_mk h)
  · intro K_2 hK_2 h
    refine jc_0 (P := Ev mX10_in 0 14 [] [] s (poI 0 s post)) h ?_ ?_
    · intro  h
      refine Ev_iconst (v := 0) dX10_in_14 rfl ⟨by decide, by decide⟩ ?_
      exact hK_2 _ h
    · intro K_3 hK_3 h
      refine Ev_icmp_lt (tgt := 14) dX10_in_2 (by decide) (fun hc => ?_) (fun hc => ?_)
      · replace h := h.1 hc
        refine Ev_sub [] rfl ?_
        exact hK_3 h
      · replace h := h.2 hc
        refine Ev_iload_n dX10_in_5 0 rfl ?_
        refine Ev_iload_n dX10_in_6 2 rfl ?_
        refine Ev_icmp_gt (tgt := 14) dX10_in_7 (by decide) (fun hc => ?_) (fun hc => ?_)
        · replace h := h.1 hc
          refine Ev_sub [] rfl ?_
          exact hK_3 h
        · replace h := h.2 hc
          refine Ev_iconst (v := 1) dX10_in_10 rfl ⟨by decide, by decide⟩ ?_
          refine Ev_goto (tgt := 15) dX10_in_11 (by decide) ?_
          refine Ev_sub [] rfl ?_
          exact hK_2 _ h
theorem k_X10_isOnSheet {s : Sg} {v0 : Int} {post : Int → Prop} (h : w_X10_isOnSheet v0 post) : EvM mX10_isOnSheet 1 [(0, v0)] s (poI 0 s post) := by
  refine EvM_of rfl (by decide +kernel) (Nat.le_of_ble_eq_true rfl) ?_
  unfold w_X10_isOnSheet at h
  show Ev mX10_isOnSheet 1 0 [(0, (0, v0))] [] s (poI 0 s post)
  refine Ev_iload_n dX10_isOnSheet_0 0 rfl ?_
  refine Ev_iconst (v := 0) dX10_isOnSheet_1 rfl ⟨by decide, by decide⟩ ?_
  refine Ev_bipush (v := 40) dX10_isOnSheet_2 (by decide +kernel) ?_
  refine Ev_invS (d' := 0) [(0, v0), (0, 0), (0, 40)] dX10_isOnSheet_4 M_X10_in (Or.inl q_1039) (by decide) rfl (Nat.le_of_ble_eq_true rfl) (k_X10_in h) ?_
  rintro _ _ ⟨rfl, r_1, rfl, h⟩
  obtain ⟨hz, h⟩ := h
  exact Ev_ret dX10_isOnSheet_7 hz (poI_mk h)
theorem k_X10_stands {s : Sg} {v1 v2 v3 v4 v5 : Int} {post : Sg → Prop} (h : w_X10_stands s v1 v2 v3 v4 v5 post) : EvM mX10_stands 0 [(2, 68), (0, v1), (0, v2), (0, v3), (0, v4), (0, v5)] s (poV post) := by
  refine EvM_of rfl (by decide +kernel) (Nat.le_of_ble_eq_true rfl) ?_
  unfold w_X10_stands at h
  show Ev mX10_stands 0 0 [(0, (2, 68)), (1, (0, v1)), (2, (0, v2)), (3, (0, v3)), (4, (0, v4)), (5, (0, v5))] [] s (poV post)
  refine Ev_iload_n dX10_stands_0 2 rfl ?_
  refine Ev_iload dX10_stands_1 4 rfl ?_
  refine jc_1 (P := fun (t_1 : Int) => Ev mX10_stands 0 23 [(0, (2, 68)), (1, (0, v1)), (2, (0, v2)), (3, (0, v3)), (4, (0, v4)), (5, (0, v5))] [(0, t_1)] s (poV post)) h ?_ ?_
  · intro t_1 h
    refine Ev_istore dX10_stands_23 (by decide) rfl ?_
    refine Ev_aload_n dX10_stands_25 1 rfl ?_
    refine Ev_getr 68 (69) dX10_stands_26 f_RX10_9 rfl sh_68 rfl ?_
    refine Ev_iload_n dX10_stands_29 2 rfl ?_
    refine Ev_iload dX10_stands_30 0 rfl ?_
    refine jc_1 (P := fun (t_3 : Int) => Ev mX10_stands 0 41 [(0, (2, 68)), (1, (0, v1)), (2, (0, v2)), (3, (0, v3)), (4, (0, v4)), (5, (0, v5)), (6, (0, t_1))] [(0, t_3), (0, v1), (2, 69)] s (poV post)) h ?_ ?_
    · intro t_3 h
      obtain ⟨hb_5, h⟩ := h
      obtain ⟨s_6, es_6⟩ : ∃ z : Sg, z = (up s 69 (v1.toNat) t_3) := ⟨_, rfl⟩
      replace h := h s_6 es_6
      refine Ev_iast (69) dX10_stands_41 rfl sh_69 hb_5 ?_
      rw [← es_6]
      refine Ev_aload_n dX10_stands_42 0 rfl ?_
      refine Ev_getr 68 (70) dX10_stands_43 f_RX10_13 rfl sh_68 rfl ?_
      refine Ev_iload_n dX10_stands_46 1 rfl ?_
      refine Ev_iload dX10_stands_47 6 rfl ?_
      refine jc_1 (P := fun (t_7 : Int) => Ev mX10_stands 0 58 [(0, (2, 68)), (1, (0, v1)), (2, (0, v2)), (3, (0, v3)), (4, (0, v4)), (5, (0, v5)), (6, (0, t_1))] [(0, t_7), (0, v1), (2, 70)] s_6 (poV post)) h ?_ ?_
      · intro t_7 h
        obtain ⟨hb_9, h⟩ := h
        obtain ⟨s_10, es_10⟩ : ∃ z : Sg, z = (up s_6 70 (v1.toNat) t_7) := ⟨_, rfl⟩
        replace h := h s_10 es_10
        refine Ev_iast (70) dX10_stands_58 rfl sh_70 hb_9 ?_
        rw [← es_10]
        refine Ev_aload_n dX10_stands_59 0 rfl ?_
        refine Ev_getr 68 (71) dX10_stands_60 f_RX10_16 rfl sh_68 rfl ?_
        refine Ev_iload_n dX10_stands_63 1 rfl ?_
        refine Ev_iload dX10_stands_64 6 rfl ?_
        refine jc_1 (P := fun (t_11 : Int) => Ev mX10_stands 0 75 [(0, (2, 68)), (1, (0, v1)), (3, (0, v3)), (5, (0, v5)), (6, (0, t_1))] [(0, t_11), (0, v1), (2, 71)] s_10 (poV post)) h ?_ ?_
        · intro t_11 h
          obtain ⟨hb_13, h⟩ := h
          obtain ⟨s_14, es_14⟩ : ∃ z : Sg, z = (up s_10 71 (v1.toNat) t_11) := ⟨_, rfl⟩
          replace h := h s_14 es_14
          refine Ev_iast (71) dX10_stands_75 rfl sh_71 hb_13 ?_
          rw [← es_14]
          refine Ev_aload_n dX10_stands_76 0 rfl ?_
          refine Ev_getr 68 (72) dX10_stands_77 f_RX10_19 rfl sh_68 rfl ?_
          refine Ev_iload_n dX10_stands_80 1 rfl ?_
          refine Ev_iload dX10_stands_81 4 rfl ?_
          refine jc_1 (P := fun (t_15 : Int) => Ev mX10_stands 0 92 [] [(0, t_15), (0, v1), (2, 72)] s_14 (poV post)) h ?_ ?_
          · intro t_15 h
            obtain ⟨hb_17, h⟩ := h
            obtain ⟨s_18, es_18⟩ : ∃ z : Sg, z = (up s_14 72 (v1.toNat) t_15) := ⟨_, rfl⟩
            replace h := h s_18 es_18
            refine Ev_iast (72) dX10_stands_92 rfl sh_72 hb_17 ?_
            rw [← es_18]
            exact Ev_retv dX10_stands_93 rfl (poV_mk h)
          · intro K_16 hK_16 h
            refine Ev_if_eq (tgt := 91) dX10_stands_83 (by decide) (fun hc => ?_) (fun hc => ?_)
            · replace h := h.1 hc
              refine Ev_iload_n dX10_stands_91 2 rfl ?_
              refine Ev_sub [] rfl ?_
              exact hK_16 _ h
            · replace h := h.2 hc
              refine Ev_iload dX10_stands_86 3 rfl ?_
              refine Ev_goto (tgt := 92) dX10_stands_88 (by decide) ?_
              refine Ev_sub [] rfl ?_
              exact hK_16 _ h
        · intro K_12 hK_12 h
          refine Ev_if_eq (tgt := 74) dX10_stands_66 (by decide) (fun hc => ?_) (fun hc => ?_)
          · replace h := h.1 hc
            refine Ev_iload_n dX10_stands_74 2 rfl ?_
            refine Ev_sub [0, 1, 3, 5, 6] rfl ?_
            exact hK_12 _ h
          · replace h := h.2 hc
            refine Ev_iload dX10_stands_69 4 rfl ?_
            refine Ev_goto (tgt := 75) dX10_stands_71 (by decide) ?_
            refine Ev_sub [0, 1, 3, 5, 6] rfl ?_
            exact hK_12 _ h
      · intro K_8 hK_8 h
        refine Ev_if_eq (tgt := 56) dX10_stands_49 (by decide) (fun hc => ?_) (fun hc => ?_)
        · replace h := h.1 hc
          refine Ev_iload dX10_stands_56 5 rfl ?_
          exact hK_8 _ h
        · replace h := h.2 hc
          refine Ev_iload_n dX10_stands_52 3 rfl ?_
          refine Ev_goto (tgt := 58) dX10_stands_53 (by decide) ?_
          exact hK_8 _ h
    · intro K_4 hK_4 h
      refine Ev_if_eq (tgt := 39) dX10_stands_32 (by decide) (fun hc => ?_) (fun hc => ?_)
      · replace h := h.1 hc
        refine Ev_iload dX10_stands_39 5 rfl ?_
        refine Ev_sub [1, 2, 3, 4, 5, 6, 0] rfl ?_
        exact hK_4 _ h
      · replace h := h.2 hc
        refine Ev_iload_n dX10_stands_35 3 rfl ?_
        refine Ev_goto (tgt := 41) dX10_stands_36 (by decide) ?_
        refine Ev_sub [1, 2, 3, 4, 5, 6, 0] rfl ?_
        exact hK_4 _ h
  · intro K_2 hK_2 h
    refine jc_0 (P := Ev mX10_stands 0 18 [(0, (2, 68)), (1, (0, v1)), (2, (0, v2)), (3, (0, v3)), (4, (0, v4)), (5, (0, v5))] [] s (poV post)) h ?_ ?_
    · intro  h
      refine Ev_iconst (v := 1) dX10_stands_18 rfl ⟨by decide, by decide⟩ ?_
      refine Ev_goto (tgt := 23) dX10_stands_19 (by decide) ?_
      exact hK_2 _ h
    · intro K_19 hK_19 h
      refine Ev_icmp_lt (tgt := 18) dX10_stands_3 (by decide) (fun hc => ?_) (fun hc => ?_)
      · replace h := h.1 hc
        exact hK_19 h
      · replace h := h.2 hc
        refine Ev_iload_n dX10_stands_6 2 rfl ?_
        refine Ev_iload dX10_stands_7 4 rfl ?_
        refine jc_0 (P := Ev mX10_stands 0 22 [(0, (2, 68)), (1, (0, v1)), (2, (0, v2)), (3, (0, v3)), (4, (0, v4)), (5, (0, v5))] [] s (poV post)) h ?_ ?_
        · intro  h
          refine Ev_iconst (v := 0) dX10_stands_22 rfl ⟨by decide, by decide⟩ ?_
          exact hK_2 _ h
        · intro K_20 hK_20 h
          refine Ev_icmp_ne (tgt := 22) dX10_stands_9 (by decide) (fun hc => ?_) (fun hc => ?_)
          · replace h := h.1 hc
            exact hK_20 h
          · replace h := h.2 hc
            refine Ev_iload_n dX10_stands_12 3 rfl ?_
            refine Ev_iload dX10_stands_13 5 rfl ?_
            refine Ev_icmp_ge (tgt := 22) dX10_stands_15 (by decide) (fun hc => ?_) (fun hc => ?_)
            · replace h := h.1 hc
              exact hK_20 h
            · replace h := h.2 hc
              exact hK_19 h
theorem k_X10_line {s : Sg} {v1 v2 v3 v4 : Int} {post : Int → Sg → Prop} (h : w_X10_line s v1 v2 v3 v4 post) : EvM mX10_line 2 [(2, 68), (0, v1), (0, v2), (0, v3), (0, v4)] s (poIs 0 post) := by
  refine EvM_of rfl (by decide +kernel) (Nat.le_of_ble_eq_true rfl) ?_
  unfold w_X10_line at h
  show Ev mX10_line 2 0 [(0, (2, 68)), (1, (0, v1)), (2, (0, v2)), (3, (0, v3)), (4, (0, v4))] [] s (poIs 0 post)
  refine Ev_iload_n dX10_line_0 1 rfl ?_
  refine Ev_invS (d' := 1) [(0, v1)] dX10_line_1 M_X10_isOnSheet (Or.inl q_1036) (by decide) rfl (Nat.le_of_ble_eq_true rfl) (k_X10_isOnSheet h) ?_
  rintro _ _ ⟨rfl, r_1, rfl, h⟩
  refine jc_0 (P := Ev mX10_line 2 40 [] [] s (poIs 0 post)) h ?_ ?_
  · intro  h
    refine Ev_bipush (v := -2) dX10_line_40 (by decide +kernel) ?_
    exact Ev_ret dX10_line_42 trivial (poIs_mk h)
  · intro K_2 hK_2 h
    refine Ev_if_eq (tgt := 40) dX10_line_4 (by decide) (fun hc => ?_) (fun hc => ?_)
    · replace h := h.1 hc
      refine Ev_sub [] rfl ?_
      exact hK_2 h
    · replace h := h.2 hc
      refine Ev_iload_n dX10_line_7 2 rfl ?_
      refine Ev_invS (d' := 1) [(0, v2)] dX10_line_8 M_X10_isOnSheet (Or.inl q_1036) (by decide) rfl (Nat.le_of_ble_eq_true rfl) (k_X10_isOnSheet h) ?_
      rintro _ _ ⟨rfl, r_3, rfl, h⟩
      refine Ev_if_eq (tgt := 40) dX10_line_11 (by decide) (fun hc => ?_) (fun hc => ?_)
      · replace h := h.1 hc
        refine Ev_sub [] rfl ?_
        exact hK_2 h
      · replace h := h.2 hc
        refine Ev_iload_n dX10_line_14 3 rfl ?_
        refine Ev_invS (d' := 1) [(0, v3)] dX10_line_15 M_X10_isOnSheet (Or.inl q_1036) (by decide) rfl (Nat.le_of_ble_eq_true rfl) (k_X10_isOnSheet h) ?_
        rintro _ _ ⟨rfl, r_4, rfl, h⟩
        refine Ev_if_eq (tgt := 40) dX10_line_18 (by decide) (fun hc => ?_) (fun hc => ?_)
        · replace h := h.1 hc
          refine Ev_sub [] rfl ?_
          exact hK_2 h
        · replace h := h.2 hc
          refine Ev_iload dX10_line_21 4 rfl ?_
          refine Ev_invS (d' := 1) [(0, v4)] dX10_line_23 M_X10_isOnSheet (Or.inl q_1036) (by decide) rfl (Nat.le_of_ble_eq_true rfl) (k_X10_isOnSheet h) ?_
          rintro _ _ ⟨rfl, r_5, rfl, h⟩
          refine Ev_if_eq (tgt := 40) dX10_line_26 (by decide) (fun hc => ?_) (fun hc => ?_)
          · replace h := h.1 hc
            refine Ev_sub [] rfl ?_
            exact hK_2 h
          · replace h := h.2 hc
            refine Ev_iload_n dX10_line_29 1 rfl ?_
            refine Ev_iload_n dX10_line_30 3 rfl ?_
            refine jc_0 (P := Ev mX10_line 2 43 [(0, (2, 68)), (1, (0, v1)), (2, (0, v2)), (3, (0, v3)), (4, (0, v4))] [] s (poIs 0 post)) h ?_ ?_
            · intro  h
              refine Ev_aload_n dX10_line_43 0 rfl ?_
              refine Ev_geti 68 dX10_line_44 f_RX10_109 rfl sh_68 ?_
              refine Ev_bipush (v := 10) dX10_line_47 (by decide +kernel) ?_
              refine Ev_icmp_ne (tgt := 55) dX10_line_49 (by decide) (fun hc => ?_) (fun hc => ?_)
              · replace h := h.1 hc
                refine Ev_aload_n dX10_line_55 0 rfl ?_
                refine Ev_aload_n dX10_line_56 0 rfl ?_
                refine Ev_geti 68 dX10_line_57 f_RX10_109 rfl sh_68 ?_
                refine Ev_iload_n dX10_line_60 1 rfl ?_
                refine Ev_iload_n dX10_line_61 2 rfl ?_
                refine Ev_iload_n dX10_line_62 3 rfl ?_
                refine Ev_iload dX10_line_63 4 rfl ?_
                refine Ev_invV (d' := 0) [(0, s 68 0), (0, v1), (0, v2), (0, v3), (0, v4)] 68 dX10_line_65 M_X10_stands q_1042 (by decide) rfl rfl sh_68 rfl (Nat.le_of_ble_eq_true rfl) (k_X10_stands h) ?_
                rintro _ s_7 ⟨rfl, h⟩
                refine Ev_aload_n dX10_line_68 0 rfl ?_
                refine Ev_dup dX10_line_69 (show ¬ (2 : Nat) = 1 by decide) ?_
                refine Ev_geti 68 dX10_line_70 f_RX10_109 rfl sh_68 ?_
                refine Ev_iconst (v := 1) dX10_line_73 rfl ⟨by decide, by decide⟩ ?_
                refine Ev_iadd dX10_line_74 ?_
                obtain ⟨s_8, es_8⟩ : ∃ z : Sg, z = (up s_7 68 0 (w32 ((s_7 68 0) + 1))) := ⟨_, rfl⟩
                replace h := h s_8 es_8
                refine Ev_puti 68 dX10_line_75 fp_RX10_109 rfl sh_68 ?_
                rw [← es_8]
                refine Ev_aload_n dX10_line_78 0 rfl ?_
                refine Ev_geti 68 dX10_line_79 f_RX10_109 rfl sh_68 ?_
                refine Ev_iconst (v := 1) dX10_line_82 rfl ⟨by decide, by decide⟩ ?_
                refine Ev_isub dX10_line_83 ?_
                exact Ev_ret dX10_line_84 trivial (poIs_mk h)
              · replace h := h.2 hc
                refine Ev_bipush (v := -4) dX10_line_52 (by decide +kernel) ?_
                exact Ev_ret dX10_line_54 trivial (poIs_mk h)
            · intro K_6 hK_6 h
              refine Ev_icmp_ne (tgt := 43) dX10_line_31 (by decide) (fun hc => ?_) (fun hc => ?_)
              · replace h := h.1 hc
                exact hK_6 h
              · replace h := h.2 hc
                refine Ev_iload_n dX10_line_34 2 rfl ?_
                refine Ev_iload dX10_line_35 4 rfl ?_
                refine Ev_icmp_ne (tgt := 43) dX10_line_37 (by decide) (fun hc => ?_) (fun hc => ?_)
                · replace h := h.1 hc
                  exact hK_6 h
                · replace h := h.2 hc
                  refine Ev_sub [] rfl ?_
                  exact hK_2 h
theorem k_X10_turn {s : Sg} {v1 v2 v3 v4 : Int} {post : Int → Prop} (h : w_X10_turn v1 v2 v3 v4 post) : EvM mX10_turn 0 [(2, 68), (0, v1), (0, v2), (0, v3), (0, v4)] s (poI 0 s post) := by
  refine EvM_of rfl (by decide +kernel) (Nat.le_of_ble_eq_true rfl) ?_
  unfold w_X10_turn at h
  show Ev mX10_turn 0 0 [(0, (2, 68)), (1, (0, v1)), (2, (0, v2)), (3, (0, v3)), (4, (0, v4))] [] s (poI 0 s post)
  refine Ev_iload_n dX10_turn_0 1 rfl ?_
  refine Ev_iload dX10_turn_1 4 rfl ?_
  refine Ev_imul dX10_turn_3 ?_
  refine Ev_iload_n dX10_turn_4 2 rfl ?_
  refine Ev_iload_n dX10_turn_5 3 rfl ?_
  refine Ev_imul dX10_turn_6 ?_
  refine Ev_isub dX10_turn_7 ?_
  exact Ev_ret dX10_turn_8 trivial (poI_mk h)
theorem k_X10_isLess {s : Sg} {v0 v1 v2 v3 : Int} {post : Int → Prop} (h : w_X10_isLess v0 v1 v2 v3 post) : EvM mX10_isLess 0 [(0, v0), (0, v1), (0, v2), (0, v3)] s (poI 0 s post) := by
  refine EvM_of rfl (by decide +kernel) (Nat.le_of_ble_eq_true rfl) ?_
  unfold w_X10_isLess at h
  show Ev mX10_isLess 0 0 [(0, (0, v0)), (1, (0, v1)), (2, (0, v2)), (3, (0, v3))] [] s (poI 0 s post)
  refine Ev_iload_n dX10_isLess_0 0 rfl ?_
  refine Ev_iload_n dX10_isLess_1 2 rfl ?_
  refine jc_1 (P := fun (t_1 : Int) => Ev mX10_isLess 0 20 [] [(0, t_1)] s (poI 0 s post)) h ?_ ?_
  · intro t_1 h
    obtain ⟨hz, h⟩ := h
    exact Ev_ret dX10_isLess_20 hz (poI_mk h)
  · intro K_2 hK_2 h
    refine jc_0 (P := Ev mX10_isLess 0 15 [] [] s (poI 0 s post)) h ?_ ?_
    · intro  h
      refine Ev_iconst (v := 1) dX10_isLess_15 rfl ⟨by decide, by decide⟩ ?_
      refine Ev_goto (tgt := 20) dX10_isLess_16 (by decide) ?_
      exact hK_2 _ h
    · intro K_3 hK_3 h
      refine Ev_icmp_lt (tgt := 15) dX10_isLess_2 (by decide) (fun hc => ?_) (fun hc => ?_)
      · replace h := h.1 hc
        refine Ev_sub [] rfl ?_
        exact hK_3 h
      · replace h := h.2 hc
        refine Ev_iload_n dX10_isLess_5 0 rfl ?_
        refine Ev_iload_n dX10_isLess_6 2 rfl ?_
        refine jc_0 (P := Ev mX10_isLess 0 19 [] [] s (poI 0 s post)) h ?_ ?_
        · intro  h
          refine Ev_iconst (v := 0) dX10_isLess_19 rfl ⟨by decide, by decide⟩ ?_
          exact hK_2 _ h
        · intro K_4 hK_4 h
          refine Ev_icmp_ne (tgt := 19) dX10_isLess_7 (by decide) (fun hc => ?_) (fun hc => ?_)
          · replace h := h.1 hc
            refine Ev_sub [] rfl ?_
            exact hK_4 h
          · replace h := h.2 hc
            refine Ev_iload_n dX10_isLess_10 1 rfl ?_
            refine Ev_iload_n dX10_isLess_11 3 rfl ?_
            refine Ev_icmp_ge (tgt := 19) dX10_isLess_12 (by decide) (fun hc => ?_) (fun hc => ?_)
            · replace h := h.1 hc
              refine Ev_sub [] rfl ?_
              exact hK_4 h
            · replace h := h.2 hc
              refine Ev_sub [] rfl ?_
              exact hK_3 h
theorem k_X10_meetInRow {s : Sg} {v1 v2 : Int} {post : Sg → Prop} (h : w_X10_meetInRow s v1 v2 post) : EvM mX10_meetInRow 1 [(2, 68), (0, v1), (0, v2)] s (poV post) := by
  refine EvM_of rfl (by decide +kernel) (Nat.le_of_ble_eq_true rfl) ?_
  unfold w_X10_meetInRow at h
  show Ev mX10_meetInRow 1 0 [(0, (2, 68)), (1, (0, v1)), (2, (0, v2))] [] s (poV post)
  refine Ev_aload_n dX10_meetInRow_0 0 rfl ?_
  refine Ev_getr 68 (69) dX10_meetInRow_1 f_RX10_9 rfl sh_68 rfl ?_
  refine Ev_iload_n dX10_meetInRow_4 1 rfl ?_
  obtain ⟨hb_1, h⟩ := h
  refine Ev_iald (69) dX10_meetInRow_5 rfl sh_69 hb_1 ?_
  refine Ev_aload_n dX10_meetInRow_6 0 rfl ?_
  refine Ev_getr 68 (70) dX10_meetInRow_7 f_RX10_13 rfl sh_68 rfl ?_
  refine Ev_iload_n dX10_meetInRow_10 1 rfl ?_
  obtain ⟨hb_2, h⟩ := h
  refine Ev_iald (70) dX10_meetInRow_11 rfl sh_70 hb_2 ?_
  refine Ev_aload_n dX10_meetInRow_12 0 rfl ?_
  refine Ev_getr 68 (69) dX10_meetInRow_13 f_RX10_9 rfl sh_68 rfl ?_
  refine Ev_iload_n dX10_meetInRow_16 2 rfl ?_
  obtain ⟨hb_3, h⟩ := h
  refine Ev_iald (69) dX10_meetInRow_17 rfl sh_69 hb_3 ?_
  refine Ev_aload_n dX10_meetInRow_18 0 rfl ?_
  refine Ev_getr 68 (70) dX10_meetInRow_19 f_RX10_13 rfl sh_68 rfl ?_
  refine Ev_iload_n dX10_meetInRow_22 2 rfl ?_
  obtain ⟨hb_4, h⟩ := h
  refine Ev_iald (70) dX10_meetInRow_23 rfl sh_70 hb_4 ?_
  refine Ev_invS (d' := 0) [(0, s 69 v1.toNat), (0, s 70 v1.toNat), (0, s 69 v2.toNat), (0, s 70 v2.toNat)] dX10_meetInRow_24 M_X10_isLess (Or.inl q_1078) (by decide) rfl (Nat.le_of_ble_eq_true rfl) (k_X10_isLess h) ?_
  rintro _ _ ⟨rfl, r_5, rfl, h⟩
  refine Ev_istore_n dX10_meetInRow_27 (by decide) rfl ?_
  refine Ev_aload_n dX10_meetInRow_28 1 rfl ?_
  refine Ev_getr 68 (71) dX10_meetInRow_29 f_RX10_16 rfl sh_68 rfl ?_
  refine Ev_iload_n dX10_meetInRow_32 2 rfl ?_
  obtain ⟨hb_6, h⟩ := h
  refine Ev_iald (71) dX10_meetInRow_33 rfl sh_71 hb_6 ?_
  refine Ev_aload_n dX10_meetInRow_34 1 rfl ?_
  refine Ev_getr 68 (72) dX10_meetInRow_35 f_RX10_19 rfl sh_68 rfl ?_
  refine Ev_iload_n dX10_meetInRow_38 2 rfl ?_
  obtain ⟨hb_7, h⟩ := h
  refine Ev_iald (72) dX10_meetInRow_39 rfl sh_72 hb_7 ?_
  refine Ev_aload_n dX10_meetInRow_40 1 rfl ?_
  refine Ev_getr 68 (71) dX10_meetInRow_41 f_RX10_16 rfl sh_68 rfl ?_
  refine Ev_iload_n dX10_meetInRow_44 3 rfl ?_
  obtain ⟨hb_8, h⟩ := h
  refine Ev_iald (71) dX10_meetInRow_45 rfl sh_71 hb_8 ?_
  refine Ev_aload_n dX10_meetInRow_46 1 rfl ?_
  refine Ev_getr 68 (72) dX10_meetInRow_47 f_RX10_19 rfl sh_68 rfl ?_
  refine Ev_iload_n dX10_meetInRow_50 3 rfl ?_
  obtain ⟨hb_9, h⟩ := h
  refine Ev_iald (72) dX10_meetInRow_51 rfl sh_72 hb_9 ?_
  refine Ev_invS (d' := 0) [(0, s 71 v1.toNat), (0, s 72 v1.toNat), (0, s 71 v2.toNat), (0, s 72 v2.toNat)] dX10_meetInRow_52 M_X10_isLess (Or.inl q_1078) (by decide) rfl (Nat.le_of_ble_eq_true rfl) (k_X10_isLess h) ?_
  rintro _ _ ⟨rfl, r_10, rfl, h⟩
  refine Ev_istore dX10_meetInRow_55 (by decide) rfl ?_
  refine Ev_iload_n dX10_meetInRow_57 1 rfl ?_
  refine jc_1 (P := fun (t_11 : Int) => Ev mX10_meetInRow 1 76 [(0, (2, 68)), (1, (0, v1)), (2, (0, v2)), (3, (0, r_5)), (4, (0, r_10))] [(0, t_11)] s (poV post)) h ?_ ?_
  · intro t_11 h
    refine Ev_istore dX10_meetInRow_76 (by decide) rfl ?_
    refine Ev_iload_n dX10_meetInRow_78 4 rfl ?_
    refine jc_1 (P := fun (t_13 : Int) => Ev mX10_meetInRow 1 97 [(0, (2, 68)), (1, (0, v1)), (2, (0, v2)), (4, (0, r_10)), (5, (0, t_11))] [(0, t_13)] s (poV post)) h ?_ ?_
    · intro t_13 h
      refine Ev_istore dX10_meetInRow_97 (by decide) rfl ?_
      refine Ev_iload dX10_meetInRow_99 4 rfl ?_
      refine jc_1 (P := fun (t_15 : Int) => Ev mX10_meetInRow 1 119 [(0, (2, 68)), (1, (0, v1)), (2, (0, v2)), (4, (0, r_10)), (5, (0, t_11)), (6, (0, t_13))] [(0, t_15)] s (poV post)) h ?_ ?_
      · intro t_15 h
        refine Ev_istore dX10_meetInRow_119 (by decide) rfl ?_
        refine Ev_iload dX10_meetInRow_121 4 rfl ?_
        refine jc_1 (P := fun (t_17 : Int) => Ev mX10_meetInRow 1 141 [(0, (2, 68)), (5, (0, t_11)), (6, (0, t_13)), (7, (0, t_15))] [(0, t_17)] s (poV post)) h ?_ ?_
        · intro t_17 h
          refine Ev_istore dX10_meetInRow_141 (by decide) rfl ?_
          refine Ev_aload_n dX10_meetInRow_143 1 rfl ?_
          refine Ev_iload dX10_meetInRow_144 2 rfl ?_
          refine Ev_iload dX10_meetInRow_146 3 rfl ?_
          refine Ev_iload dX10_meetInRow_148 4 rfl ?_
          refine Ev_iload dX10_meetInRow_150 0 rfl ?_
          refine Ev_invS (d' := 0) [(0, t_11), (0, t_13), (0, t_15), (0, t_17)] dX10_meetInRow_152 M_X10_isLess (Or.inl q_1078) (by decide) rfl (Nat.le_of_ble_eq_true rfl) (k_X10_isLess h) ?_
          rintro _ _ ⟨rfl, r_19, rfl, h⟩
          refine jc_1 (P := fun (t_20 : Int) => Ev mX10_meetInRow 1 181 [(0, (2, 68)), (5, (0, t_11)), (6, (0, t_13))] [(0, t_20), (2, 68)] s (poV post)) h ?_ ?_
          · intro t_20 h
            obtain ⟨s_22, es_22⟩ : ∃ z : Sg, z = (up s 68 5 t_20) := ⟨_, rfl⟩
            replace h := h s_22 es_22
            refine Ev_puti 68 dX10_meetInRow_181 fp_RX10_140 rfl sh_68 ?_
            rw [← es_22]
            refine Ev_aload_n dX10_meetInRow_184 0 rfl ?_
            refine Ev_iload dX10_meetInRow_185 1 rfl ?_
            refine Ev_i2l dX10_meetInRow_187 ?_
            obtain ⟨s_23, es_23⟩ : ∃ z : Sg, z = (up s_22 68 6 t_11) := ⟨_, rfl⟩
            replace h := h s_23 es_23
            refine Ev_putl 68 dX10_meetInRow_188 fp_RX10_143 rfl sh_68 ?_
            rw [← es_23]
            refine Ev_aload_n dX10_meetInRow_191 0 rfl ?_
            refine Ev_iload dX10_meetInRow_192 2 rfl ?_
            refine Ev_i2l dX10_meetInRow_194 ?_
            obtain ⟨s_24, es_24⟩ : ∃ z : Sg, z = (up s_23 68 7 t_13) := ⟨_, rfl⟩
            replace h := h s_24 es_24
            refine Ev_putl 68 dX10_meetInRow_195 fp_RX10_147 rfl sh_68 ?_
            rw [← es_24]
            refine Ev_aload_n dX10_meetInRow_198 0 rfl ?_
            refine Ev_lconst (v := 1) dX10_meetInRow_199 (by decide +kernel) ?_
            obtain ⟨s_25, es_25⟩ : ∃ z : Sg, z = (up s_24 68 8 1) := ⟨_, rfl⟩
            replace h := h s_25 es_25
            refine Ev_putl 68 dX10_meetInRow_200 fp_RX10_150 rfl sh_68 ?_
            rw [← es_25]
            exact Ev_retv dX10_meetInRow_203 rfl (poV_mk h)
          · intro K_21 hK_21 h
            refine Ev_if_eq (tgt := 162) dX10_meetInRow_155 (by decide) (fun hc => ?_) (fun hc => ?_)
            · replace h := h.1 hc
              refine Ev_iload dX10_meetInRow_162 2 rfl ?_
              refine Ev_iload dX10_meetInRow_164 4 rfl ?_
              refine jc_0 (P := Ev mX10_meetInRow 1 180 [(0, (2, 68)), (5, (0, t_11)), (6, (0, t_13))] [(2, 68)] s (poV post)) h ?_ ?_
              · intro  h
                refine Ev_iconst (v := 0) dX10_meetInRow_180 rfl ⟨by decide, by decide⟩ ?_
                exact hK_21 _ h
              · intro K_26 hK_26 h
                refine Ev_icmp_ne (tgt := 180) dX10_meetInRow_166 (by decide) (fun hc => ?_) (fun hc => ?_)
                · replace h := h.1 hc
                  refine Ev_sub [1, 2, 3] rfl ?_
                  exact hK_26 h
                · replace h := h.2 hc
                  refine Ev_iload dX10_meetInRow_169 3 rfl ?_
                  refine Ev_iload dX10_meetInRow_171 0 rfl ?_
                  refine Ev_icmp_ne (tgt := 180) dX10_meetInRow_173 (by decide) (fun hc => ?_) (fun hc => ?_)
                  · replace h := h.1 hc
                    refine Ev_sub [1, 2, 3] rfl ?_
                    exact hK_26 h
                  · replace h := h.2 hc
                    refine Ev_iconst (v := 2) dX10_meetInRow_176 rfl ⟨by decide, by decide⟩ ?_
                    refine Ev_goto (tgt := 181) dX10_meetInRow_177 (by decide) ?_
                    refine Ev_sub [1, 2, 3] rfl ?_
                    exact hK_21 _ h
            · replace h := h.2 hc
              refine Ev_iconst (v := 3) dX10_meetInRow_158 rfl ⟨by decide, by decide⟩ ?_
              refine Ev_goto (tgt := 181) dX10_meetInRow_159 (by decide) ?_
              refine Ev_sub [1, 2, 3] rfl ?_
              exact hK_21 _ h
        · intro K_18 hK_18 h
          refine Ev_if_eq (tgt := 135) dX10_meetInRow_123 (by decide) (fun hc => ?_) (fun hc => ?_)
          · replace h := h.1 hc
            refine Ev_aload_n dX10_meetInRow_135 1 rfl ?_
            refine Ev_getr 68 (72) dX10_meetInRow_136 f_RX10_19 rfl sh_68 rfl ?_
            refine Ev_iload_n dX10_meetInRow_139 3 rfl ?_
            obtain ⟨hb_27, h⟩ := h
            refine Ev_iald (72) dX10_meetInRow_140 rfl sh_72 hb_27 ?_
            refine Ev_sub [1, 5, 6, 0] rfl ?_
            exact hK_18 _ h
          · replace h := h.2 hc
            refine Ev_aload_n dX10_meetInRow_126 1 rfl ?_
            refine Ev_getr 68 (72) dX10_meetInRow_127 f_RX10_19 rfl sh_68 rfl ?_
            refine Ev_iload_n dX10_meetInRow_130 2 rfl ?_
            obtain ⟨hb_28, h⟩ := h
            refine Ev_iald (72) dX10_meetInRow_131 rfl sh_72 hb_28 ?_
            refine Ev_goto (tgt := 141) dX10_meetInRow_132 (by decide) ?_
            refine Ev_sub [1, 5, 6, 0] rfl ?_
            exact hK_18 _ h
      · intro K_16 hK_16 h
        refine Ev_if_eq (tgt := 113) dX10_meetInRow_101 (by decide) (fun hc => ?_) (fun hc => ?_)
        · replace h := h.1 hc
          refine Ev_aload_n dX10_meetInRow_113 1 rfl ?_
          refine Ev_getr 68 (71) dX10_meetInRow_114 f_RX10_16 rfl sh_68 rfl ?_
          refine Ev_iload_n dX10_meetInRow_117 3 rfl ?_
          obtain ⟨hb_29, h⟩ := h
          refine Ev_iald (71) dX10_meetInRow_118 rfl sh_71 hb_29 ?_
          refine Ev_sub [1, 2, 3, 4, 5, 0] rfl ?_
          exact hK_16 _ h
        · replace h := h.2 hc
          refine Ev_aload_n dX10_meetInRow_104 1 rfl ?_
          refine Ev_getr 68 (71) dX10_meetInRow_105 f_RX10_16 rfl sh_68 rfl ?_
          refine Ev_iload_n dX10_meetInRow_108 2 rfl ?_
          obtain ⟨hb_30, h⟩ := h
          refine Ev_iald (71) dX10_meetInRow_109 rfl sh_71 hb_30 ?_
          refine Ev_goto (tgt := 119) dX10_meetInRow_110 (by decide) ?_
          refine Ev_sub [1, 2, 3, 4, 5, 0] rfl ?_
          exact hK_16 _ h
    · intro K_14 hK_14 h
      refine Ev_if_eq (tgt := 91) dX10_meetInRow_79 (by decide) (fun hc => ?_) (fun hc => ?_)
      · replace h := h.1 hc
        refine Ev_aload_n dX10_meetInRow_91 1 rfl ?_
        refine Ev_getr 68 (70) dX10_meetInRow_92 f_RX10_13 rfl sh_68 rfl ?_
        refine Ev_iload_n dX10_meetInRow_95 2 rfl ?_
        obtain ⟨hb_31, h⟩ := h
        refine Ev_iald (70) dX10_meetInRow_96 rfl sh_70 hb_31 ?_
        refine Ev_sub [1, 2, 3, 5, 0] rfl ?_
        exact hK_14 _ h
      · replace h := h.2 hc
        refine Ev_aload_n dX10_meetInRow_82 1 rfl ?_
        refine Ev_getr 68 (70) dX10_meetInRow_83 f_RX10_13 rfl sh_68 rfl ?_
        refine Ev_iload_n dX10_meetInRow_86 3 rfl ?_
        obtain ⟨hb_32, h⟩ := h
        refine Ev_iald (70) dX10_meetInRow_87 rfl sh_70 hb_32 ?_
        refine Ev_goto (tgt := 97) dX10_meetInRow_88 (by decide) ?_
        refine Ev_sub [1, 2, 3, 5, 0] rfl ?_
        exact hK_14 _ h
  · intro K_12 hK_12 h
    refine Ev_if_eq (tgt := 70) dX10_meetInRow_58 (by decide) (fun hc => ?_) (fun hc => ?_)
    · replace h := h.1 hc
      refine Ev_aload_n dX10_meetInRow_70 2 rfl ?_
      refine Ev_getr 68 (69) dX10_meetInRow_71 f_RX10_9 rfl sh_68 rfl ?_
      refine Ev_iload_n dX10_meetInRow_74 3 rfl ?_
      obtain ⟨hb_33, h⟩ := h
      refine Ev_iald (69) dX10_meetInRow_75 rfl sh_69 hb_33 ?_
      refine Ev_sub [2, 3, 4, 1, 0] rfl ?_
      exact hK_12 _ h
    · replace h := h.2 hc
      refine Ev_aload_n dX10_meetInRow_61 2 rfl ?_
      refine Ev_getr 68 (69) dX10_meetInRow_62 f_RX10_9 rfl sh_68 rfl ?_
      refine Ev_iload_n dX10_meetInRow_65 4 rfl ?_
      obtain ⟨hb_34, h⟩ := h
      refine Ev_iald (69) dX10_meetInRow_66 rfl sh_69 hb_34 ?_
      refine Ev_goto (tgt := 76) dX10_meetInRow_67 (by decide) ?_
      refine Ev_sub [2, 3, 4, 1, 0] rfl ?_
      exact hK_12 _ h
theorem k_X10_meet {s : Sg} {v1 v2 : Int} {post : Sg → Prop} (h : w_X10_meet s v1 v2 post) : EvM mX10_meet 2 [(2, 68), (0, v1), (0, v2)] s (poV post) := by
  refine EvM_of rfl (by decide +kernel) (Nat.le_of_ble_eq_true rfl) ?_
  unfold w_X10_meet at h
  show Ev mX10_meet 2 0 [(0, (2, 68)), (1, (0, v1)), (2, (0, v2))] [] s (poV post)
  refine Ev_aload_n dX10_meet_0 0 rfl ?_
  refine Ev_getr 68 (71) dX10_meet_1 f_RX10_16 rfl sh_68 rfl ?_
  refine Ev_iload_n dX10_meet_4 1 rfl ?_
  obtain ⟨hb_1, h⟩ := h
  refine Ev_iald (71) dX10_meet_5 rfl sh_71 hb_1 ?_
  refine Ev_aload_n dX10_meet_6 0 rfl ?_
  refine Ev_getr 68 (69) dX10_meet_7 f_RX10_9 rfl sh_68 rfl ?_
  refine Ev_iload_n dX10_meet_10 1 rfl ?_
  obtain ⟨hb_2, h⟩ := h
  refine Ev_iald (69) dX10_meet_11 rfl sh_69 hb_2 ?_
  refine Ev_isub dX10_meet_12 ?_
  obtain ⟨v3_3, ev3_3⟩ : ∃ z : Int, z = w32 ((s 71 v1.toNat) - (s 69 v1.toNat)) := ⟨_, rfl⟩
  replace h := h v3_3 ev3_3
  rw [← ev3_3]
  refine Ev_istore_n dX10_meet_13 (by decide) rfl ?_
  refine Ev_aload_n dX10_meet_14 1 rfl ?_
  refine Ev_getr 68 (72) dX10_meet_15 f_RX10_19 rfl sh_68 rfl ?_
  refine Ev_iload_n dX10_meet_18 2 rfl ?_
  obtain ⟨hb_4, h⟩ := h
  refine Ev_iald (72) dX10_meet_19 rfl sh_72 hb_4 ?_
  refine Ev_aload_n dX10_meet_20 1 rfl ?_
  refine Ev_getr 68 (70) dX10_meet_21 f_RX10_13 rfl sh_68 rfl ?_
  refine Ev_iload_n dX10_meet_24 2 rfl ?_
  obtain ⟨hb_5, h⟩ := h
  refine Ev_iald (70) dX10_meet_25 rfl sh_70 hb_5 ?_
  refine Ev_isub dX10_meet_26 ?_
  obtain ⟨v4_6, ev4_6⟩ : ∃ z : Int, z = w32 ((s 72 v1.toNat) - (s 70 v1.toNat)) := ⟨_, rfl⟩
  replace h := h v4_6 ev4_6
  rw [← ev4_6]
  refine Ev_istore dX10_meet_27 (by decide) rfl ?_
  refine Ev_aload_n dX10_meet_29 2 rfl ?_
  refine Ev_getr 68 (71) dX10_meet_30 f_RX10_16 rfl sh_68 rfl ?_
  refine Ev_iload_n dX10_meet_33 4 rfl ?_
  obtain ⟨hb_7, h⟩ := h
  refine Ev_iald (71) dX10_meet_34 rfl sh_71 hb_7 ?_
  refine Ev_aload_n dX10_meet_35 2 rfl ?_
  refine Ev_getr 68 (69) dX10_meet_36 f_RX10_9 rfl sh_68 rfl ?_
  refine Ev_iload_n dX10_meet_39 4 rfl ?_
  obtain ⟨hb_8, h⟩ := h
  refine Ev_iald (69) dX10_meet_40 rfl sh_69 hb_8 ?_
  refine Ev_isub dX10_meet_41 ?_
  obtain ⟨v5_9, ev5_9⟩ : ∃ z : Int, z = w32 ((s 71 v2.toNat) - (s 69 v2.toNat)) := ⟨_, rfl⟩
  replace h := h v5_9 ev5_9
  rw [← ev5_9]
  refine Ev_istore dX10_meet_42 (by decide) rfl ?_
  refine Ev_aload_n dX10_meet_44 3 rfl ?_
  refine Ev_getr 68 (72) dX10_meet_45 f_RX10_19 rfl sh_68 rfl ?_
  refine Ev_iload_n dX10_meet_48 5 rfl ?_
  obtain ⟨hb_10, h⟩ := h
  refine Ev_iald (72) dX10_meet_49 rfl sh_72 hb_10 ?_
  refine Ev_aload_n dX10_meet_50 3 rfl ?_
  refine Ev_getr 68 (70) dX10_meet_51 f_RX10_13 rfl sh_68 rfl ?_
  refine Ev_iload_n dX10_meet_54 5 rfl ?_
  obtain ⟨hb_11, h⟩ := h
  refine Ev_iald (70) dX10_meet_55 rfl sh_70 hb_11 ?_
  refine Ev_isub dX10_meet_56 ?_
  obtain ⟨v6_12, ev6_12⟩ : ∃ z : Int, z = w32 ((s 72 v2.toNat) - (s 70 v2.toNat)) := ⟨_, rfl⟩
  replace h := h v6_12 ev6_12
  rw [← ev6_12]
  refine Ev_istore dX10_meet_57 (by decide) rfl ?_
  refine Ev_aload_n dX10_meet_59 4 rfl ?_
  refine Ev_iload_n dX10_meet_60 3 rfl ?_
  refine Ev_iload dX10_meet_61 2 rfl ?_
  refine Ev_iload dX10_meet_63 1 rfl ?_
  refine Ev_iload dX10_meet_65 0 rfl ?_
  refine Ev_invV (d' := 0) [(0, v3_3), (0, v4_6), (0, v5_9), (0, v6_12)] 68 dX10_meet_67 M_X10_turn q_1070 (by decide) rfl rfl sh_68 rfl (Nat.le_of_ble_eq_true rfl) (k_X10_turn h) ?_
  rintro _ _ ⟨rfl, r_13, rfl, h⟩
  refine Ev_istore dX10_meet_70 (by decide) rfl ?_
  refine Ev_aload_n dX10_meet_72 5 rfl ?_
  refine Ev_aload_n dX10_meet_73 5 rfl ?_
  refine Ev_getr 68 (69) dX10_meet_74 f_RX10_9 rfl sh_68 rfl ?_
  refine Ev_iload_n dX10_meet_77 7 rfl ?_
  obtain ⟨hb_14, h⟩ := h
  refine Ev_iald (69) dX10_meet_78 rfl sh_69 hb_14 ?_
  refine Ev_aload_n dX10_meet_79 5 rfl ?_
  refine Ev_getr 68 (69) dX10_meet_80 f_RX10_9 rfl sh_68 rfl ?_
  refine Ev_iload_n dX10_meet_83 6 rfl ?_
  obtain ⟨hb_15, h⟩ := h
  refine Ev_iald (69) dX10_meet_84 rfl sh_69 hb_15 ?_
  refine Ev_isub dX10_meet_85 ?_
  refine Ev_aload_n dX10_meet_86 5 rfl ?_
  refine Ev_getr 68 (70) dX10_meet_87 f_RX10_13 rfl sh_68 rfl ?_
  refine Ev_iload_n dX10_meet_90 7 rfl ?_
  obtain ⟨hb_16, h⟩ := h
  refine Ev_iald (70) dX10_meet_91 rfl sh_70 hb_16 ?_
  refine Ev_aload_n dX10_meet_92 5 rfl ?_
  refine Ev_getr 68 (70) dX10_meet_93 f_RX10_13 rfl sh_68 rfl ?_
  refine Ev_iload_n dX10_meet_96 6 rfl ?_
  obtain ⟨hb_17, h⟩ := h
  refine Ev_iald (70) dX10_meet_97 rfl sh_70 hb_17 ?_
  refine Ev_isub dX10_meet_98 ?_
  refine Ev_iload dX10_meet_99 2 rfl ?_
  refine Ev_iload dX10_meet_101 1 rfl ?_
  refine Ev_invV (d' := 0) [(0, w32 ((s 69 v2.toNat) - (s 69 v1.toNat))), (0, w32 ((s 70 v2.toNat) - (s 70 v1.toNat))), (0, v5_9), (0, v6_12)] 68 dX10_meet_103 M_X10_turn q_1070 (by decide) rfl rfl sh_68 rfl (Nat.le_of_ble_eq_true rfl) (k_X10_turn h) ?_
  rintro _ _ ⟨rfl, r_18, rfl, h⟩
  refine Ev_istore dX10_meet_106 (by decide) rfl ?_
  refine Ev_aload_n dX10_meet_108 6 rfl ?_
  refine Ev_aload_n dX10_meet_109 6 rfl ?_
  refine Ev_getr 68 (69) dX10_meet_110 f_RX10_9 rfl sh_68 rfl ?_
  refine Ev_iload_n dX10_meet_113 8 rfl ?_
  obtain ⟨hb_19, h⟩ := h
  refine Ev_iald (69) dX10_meet_114 rfl sh_69 hb_19 ?_
  refine Ev_aload_n dX10_meet_115 6 rfl ?_
  refine Ev_getr 68 (69) dX10_meet_116 f_RX10_9 rfl sh_68 rfl ?_
  refine Ev_iload_n dX10_meet_119 7 rfl ?_
  obtain ⟨hb_20, h⟩ := h
  refine Ev_iald (69) dX10_meet_120 rfl sh_69 hb_20 ?_
  refine Ev_isub dX10_meet_121 ?_
  refine Ev_aload_n dX10_meet_122 6 rfl ?_
  refine Ev_getr 68 (70) dX10_meet_123 f_RX10_13 rfl sh_68 rfl ?_
  refine Ev_iload_n dX10_meet_126 8 rfl ?_
  obtain ⟨hb_21, h⟩ := h
  refine Ev_iald (70) dX10_meet_127 rfl sh_70 hb_21 ?_
  refine Ev_aload_n dX10_meet_128 6 rfl ?_
  refine Ev_getr 68 (70) dX10_meet_129 f_RX10_13 rfl sh_68 rfl ?_
  refine Ev_iload_n dX10_meet_132 7 rfl ?_
  obtain ⟨hb_22, h⟩ := h
  refine Ev_iald (70) dX10_meet_133 rfl sh_70 hb_22 ?_
  refine Ev_isub dX10_meet_134 ?_
  refine Ev_iload_n dX10_meet_135 5 rfl ?_
  refine Ev_iload dX10_meet_136 4 rfl ?_
  refine Ev_invV (d' := 0) [(0, w32 ((s 69 v2.toNat) - (s 69 v1.toNat))), (0, w32 ((s 70 v2.toNat) - (s 70 v1.toNat))), (0, v3_3), (0, v4_6)] 68 dX10_meet_138 M_X10_turn q_1070 (by decide) rfl rfl sh_68 rfl (Nat.le_of_ble_eq_true rfl) (k_X10_turn h) ?_
  rintro _ _ ⟨rfl, r_23, rfl, h⟩
  refine Ev_istore dX10_meet_141 (by decide) rfl ?_
  refine Ev_aload_n dX10_meet_143 7 rfl ?_
  refine Ev_iconst (v := 0) dX10_meet_144 rfl ⟨by decide, by decide⟩ ?_
  obtain ⟨s_24, es_24⟩ : ∃ z : Sg, z = (up s 68 5 0) := ⟨_, rfl⟩
  replace h := h s_24 es_24
  refine Ev_puti 68 dX10_meet_145 fp_RX10_140 rfl sh_68 ?_
  rw [← es_24]
  refine Ev_iload dX10_meet_148 2 rfl ?_
  refine Ev_if_ne (tgt := 170) dX10_meet_150 (by decide) (fun hc => ?_) (fun hc => ?_)
  · replace h := h.1 hc
    refine Ev_iload dX10_meet_170 2 rfl ?_
    refine jc_3 (P := fun (v7_25 v8_26 v9_27 : Int) => Ev mX10_meet 2 190 [(0, (2, 68)), (1, (0, v1)), (3, (0, v3_3)), (4, (0, v4_6)), (7, (0, v7_25)), (8, (0, v8_26)), (9, (0, v9_27))] [] s_24 (poV post)) h ?_ ?_
    · intro v7_25 v8_26 v9_27 h
      refine Ev_iload dX10_meet_190 5 rfl ?_
      refine Ev_iconst (v := 0) dX10_meet_192 rfl ⟨by decide, by decide⟩ ?_
      refine Ev_iload dX10_meet_193 4 rfl ?_
      refine Ev_invS (d' := 0) [(0, v8_26), (0, 0), (0, v7_25)] dX10_meet_195 M_X10_in (Or.inl q_1039) (by decide) rfl (Nat.le_of_ble_eq_true rfl) (k_X10_in h) ?_
      rintro _ _ ⟨rfl, r_29, rfl, h⟩
      refine jc_0 (P := Ev mX10_meet 2 212 [] [] s_24 (poV post)) h ?_ ?_
      · intro  h
        exact Ev_retv dX10_meet_212 rfl (poV_mk h)
      · intro K_30 hK_30 h
        refine Ev_if_eq (tgt := 212) dX10_meet_198 (by decide) (fun hc => ?_) (fun hc => ?_)
        · replace h := h.1 hc
          refine Ev_sub [] rfl ?_
          exact hK_30 h
        · replace h := h.2 hc
          refine Ev_iload dX10_meet_201 6 rfl ?_
          refine Ev_iconst (v := 0) dX10_meet_203 rfl ⟨by decide, by decide⟩ ?_
          refine Ev_iload dX10_meet_204 4 rfl ?_
          refine Ev_invS (d' := 0) [(0, v9_27), (0, 0), (0, v7_25)] dX10_meet_206 M_X10_in (Or.inl q_1039) (by decide) rfl (Nat.le_of_ble_eq_true rfl) (k_X10_in h) ?_
          rintro _ _ ⟨rfl, r_31, rfl, h⟩
          refine Ev_if_ne (tgt := 213) dX10_meet_209 (by decide) (fun hc => ?_) (fun hc => ?_)
          · replace h := h.1 hc
            refine Ev_aload_n dX10_meet_213 0 rfl ?_
            refine Ev_iload dX10_meet_214 5 rfl ?_
            refine jc_1 (P := fun (t_32 : Int) => Ev mX10_meet 2 243 [(0, (2, 68)), (1, (0, v1)), (3, (0, v3_3)), (4, (0, v4_6)), (7, (0, v7_25)), (8, (0, v8_26))] [(0, t_32), (2, 68)] s_24 (poV post)) h ?_ ?_
            · intro t_32 h
              obtain ⟨s_34, es_34⟩ : ∃ z : Sg, z = (up s_24 68 5 t_32) := ⟨_, rfl⟩
              replace h := h s_34 es_34
              refine Ev_puti 68 dX10_meet_243 fp_RX10_140 rfl sh_68 ?_
              rw [← es_34]
              refine Ev_aload_n dX10_meet_246 0 rfl ?_
              refine Ev_aload_n dX10_meet_247 0 rfl ?_
              refine Ev_getr 68 (69) dX10_meet_248 f_RX10_9 rfl sh_68 rfl ?_
              refine Ev_iload_n dX10_meet_251 1 rfl ?_
              obtain ⟨hb_35, h⟩ := h
              refine Ev_iald (69) dX10_meet_252 rfl sh_69 hb_35 ?_
              refine Ev_i2l dX10_meet_253 ?_
              refine Ev_iload dX10_meet_254 4 rfl ?_
              refine Ev_i2l dX10_meet_256 ?_
              refine Ev_lmul dX10_meet_257 ?_
              refine Ev_iload dX10_meet_258 5 rfl ?_
              refine Ev_i2l dX10_meet_260 ?_
              refine Ev_iload_n dX10_meet_261 2 rfl ?_
              refine Ev_i2l dX10_meet_262 ?_
              refine Ev_lmul dX10_meet_263 ?_
              refine Ev_ladd dX10_meet_264 ?_
              obtain ⟨s_36, es_36⟩ : ∃ z : Sg, z = (up s_34 68 6 (w64 ((w64 ((s_34 69 v1.toNat) * v7_25)) + (w64 (v8_26 * v3_3))))) := ⟨_, rfl⟩
              replace h := h s_36 es_36
              refine Ev_putl 68 dX10_meet_265 fp_RX10_143 rfl sh_68 ?_
              rw [← es_36]
              refine Ev_aload_n dX10_meet_268 0 rfl ?_
              refine Ev_aload_n dX10_meet_269 0 rfl ?_
              refine Ev_getr 68 (70) dX10_meet_270 f_RX10_13 rfl sh_68 rfl ?_
              refine Ev_iload_n dX10_meet_273 1 rfl ?_
              obtain ⟨hb_37, h⟩ := h
              refine Ev_iald (70) dX10_meet_274 rfl sh_70 hb_37 ?_
              refine Ev_i2l dX10_meet_275 ?_
              refine Ev_iload dX10_meet_276 4 rfl ?_
              refine Ev_i2l dX10_meet_278 ?_
              refine Ev_lmul dX10_meet_279 ?_
              refine Ev_iload dX10_meet_280 5 rfl ?_
              refine Ev_i2l dX10_meet_282 ?_
              refine Ev_iload dX10_meet_283 3 rfl ?_
              refine Ev_i2l dX10_meet_285 ?_
              refine Ev_lmul dX10_meet_286 ?_
              refine Ev_ladd dX10_meet_287 ?_
              obtain ⟨s_38, es_38⟩ : ∃ z : Sg, z = (up s_36 68 7 (w64 ((w64 ((s_36 70 v1.toNat) * v7_25)) + (w64 (v8_26 * v4_6))))) := ⟨_, rfl⟩
              replace h := h s_38 es_38
              refine Ev_putl 68 dX10_meet_288 fp_RX10_147 rfl sh_68 ?_
              rw [← es_38]
              refine Ev_aload_n dX10_meet_291 0 rfl ?_
              refine Ev_iload dX10_meet_292 4 rfl ?_
              refine Ev_i2l dX10_meet_294 ?_
              obtain ⟨s_39, es_39⟩ : ∃ z : Sg, z = (up s_38 68 8 v7_25) := ⟨_, rfl⟩
              replace h := h s_39 es_39
              refine Ev_putl 68 dX10_meet_295 fp_RX10_150 rfl sh_68 ?_
              rw [← es_39]
              exact Ev_retv dX10_meet_298 rfl (poV_mk h)
            · intro K_33 hK_33 h
              refine jc_0 (P := Ev mX10_meet 2 238 [(0, (2, 68)), (1, (0, v1)), (3, (0, v3_3)), (4, (0, v4_6)), (7, (0, v7_25)), (8, (0, v8_26))] [(2, 68)] s_24 (poV post)) h ?_ ?_
              · intro  h
                refine Ev_iconst (v := 2) dX10_meet_238 rfl ⟨by decide, by decide⟩ ?_
                refine Ev_goto (tgt := 243) dX10_meet_239 (by decide) ?_
                exact hK_33 _ h
              · intro K_40 hK_40 h
                refine Ev_if_eq (tgt := 238) dX10_meet_216 (by decide) (fun hc => ?_) (fun hc => ?_)
                · replace h := h.1 hc
                  refine Ev_sub [0, 1, 2, 3, 4, 5] rfl ?_
                  exact hK_40 h
                · replace h := h.2 hc
                  refine Ev_iload dX10_meet_219 5 rfl ?_
                  refine Ev_iload dX10_meet_221 4 rfl ?_
                  refine Ev_icmp_eq (tgt := 238) dX10_meet_223 (by decide) (fun hc => ?_) (fun hc => ?_)
                  · replace h := h.1 hc
                    refine Ev_sub [0, 1, 2, 3, 4, 5] rfl ?_
                    exact hK_40 h
                  · replace h := h.2 hc
                    refine Ev_iload dX10_meet_226 6 rfl ?_
                    refine Ev_if_eq (tgt := 238) dX10_meet_228 (by decide) (fun hc => ?_) (fun hc => ?_)
                    · replace h := h.1 hc
                      refine Ev_sub [0, 1, 2, 3, 4, 5] rfl ?_
                      exact hK_40 h
                    · replace h := h.2 hc
                      refine Ev_iload dX10_meet_231 6 rfl ?_
                      refine Ev_iload dX10_meet_233 4 rfl ?_
                      refine Ev_icmp_ne (tgt := 242) dX10_meet_235 (by decide) (fun hc => ?_) (fun hc => ?_)
                      · replace h := h.1 hc
                        refine Ev_iconst (v := 1) dX10_meet_242 rfl ⟨by decide, by decide⟩ ?_
                        refine Ev_sub [0, 1, 2, 3, 4, 5] rfl ?_
                        exact hK_33 _ h
                      · replace h := h.2 hc
                        refine Ev_sub [0, 1, 2, 3, 4, 5] rfl ?_
                        exact hK_40 h
          · replace h := h.2 hc
            refine Ev_sub [] rfl ?_
            exact hK_30 h
    · intro K_28 hK_28 h
      refine Ev_if_ge (tgt := 190) dX10_meet_172 (by decide) (fun hc => ?_) (fun hc => ?_)
      · replace h := h.1 hc
        refine Ev_sub [7, 8, 6, 5, 2, 1, 0] rfl ?_
        exact hK_28 _ _ _ h
      · replace h := h.2 hc
        refine Ev_iload dX10_meet_175 2 rfl ?_
        refine Ev_ineg dX10_meet_177 ?_
        obtain ⟨v7_41, ev7_41⟩ : ∃ z : Int, z = w32 (- r_13) := ⟨_, rfl⟩
        replace h := h v7_41 ev7_41
        rw [← ev7_41]
        refine Ev_istore dX10_meet_178 (by decide) rfl ?_
        refine Ev_iload dX10_meet_180 2 rfl ?_
        refine Ev_ineg dX10_meet_182 ?_
        obtain ⟨v8_42, ev8_42⟩ : ∃ z : Int, z = w32 (- r_18) := ⟨_, rfl⟩
        replace h := h v8_42 ev8_42
        rw [← ev8_42]
        refine Ev_istore dX10_meet_183 (by decide) rfl ?_
        refine Ev_iload dX10_meet_185 2 rfl ?_
        refine Ev_ineg dX10_meet_187 ?_
        obtain ⟨v9_43, ev9_43⟩ : ∃ z : Int, z = w32 (- r_23) := ⟨_, rfl⟩
        replace h := h v9_43 ev9_43
        rw [← ev9_43]
        refine Ev_istore dX10_meet_188 (by decide) rfl ?_
        refine Ev_sub [7, 8, 6, 5, 2, 1, 0] rfl ?_
        exact hK_28 _ _ _ h
  · replace h := h.2 hc
    refine Ev_iload dX10_meet_153 0 rfl ?_
    refine jc_0s (P := fun (s_44 : Sg) => Ev mX10_meet 2 169 [] [] s_44 (poV post)) h ?_ ?_
    · intro s_44 h
      exact Ev_retv dX10_meet_169 rfl (poV_mk h)
    · intro K_45 hK_45 h
      refine Ev_if_ne (tgt := 169) dX10_meet_155 (by decide) (fun hc => ?_) (fun hc => ?_)
      · replace h := h.1 hc
        refine Ev_sub [] rfl ?_
        exact hK_45 _ h
      · replace h := h.2 hc
        refine Ev_iload dX10_meet_158 1 rfl ?_
        refine Ev_if_ne (tgt := 169) dX10_meet_160 (by decide) (fun hc => ?_) (fun hc => ?_)
        · replace h := h.1 hc
          refine Ev_sub [] rfl ?_
          exact hK_45 _ h
        · replace h := h.2 hc
          refine Ev_aload_n dX10_meet_163 7 rfl ?_
          refine Ev_iload_n dX10_meet_164 8 rfl ?_
          refine Ev_iload_n dX10_meet_165 9 rfl ?_
          refine Ev_invV (d' := 1) [(0, v1), (0, v2)] 68 dX10_meet_166 M_X10_meetInRow q_1074 (by decide) rfl rfl sh_68 rfl (Nat.le_of_ble_eq_true rfl) (k_X10_meetInRow h) ?_
          rintro _ s_46 ⟨rfl, h⟩
          refine Ev_sub [] rfl ?_
          exact hK_45 _ h
theorem k_X10_tellPoints {s : Sg} {post : Sg → Prop} (h : w_X10_tellPoints s post) : EvM mX10_tellPoints 103 [(2, 68)] s (poV post) := by
  refine EvM_of rfl (by decide +kernel) (Nat.le_of_ble_eq_true rfl) ?_
  unfold w_X10_tellPoints at h
  show Ev mX10_tellPoints 103 0 [(0, (2, 68))] [] s (poV post)
  refine Ev_aload_n dX10_tellPoints_0 0 rfl ?_
  refine Ev_iconst (v := 0) dX10_tellPoints_1 rfl ⟨by decide, by decide⟩ ?_
  obtain ⟨s_1, es_1⟩ : ∃ z : Sg, z = (up s 68 9 0) := ⟨_, rfl⟩
  replace h := h s_1 es_1
  refine Ev_puti 68 dX10_tellPoints_2 fp_RX10_176 rfl sh_68 ?_
  rw [← es_1]
  refine Ev_iconst (v := 0) dX10_tellPoints_5 rfl ⟨by decide, by decide⟩ ?_
  refine Ev_istore_n dX10_tellPoints_6 (by decide) rfl ?_
  refine Ev_sub [1, 0] rfl ?_
  refine li_1s (P := fun (v1_2 : Int) (s_3 : Sg) => Ev mX10_tellPoints 103 7 [(0, (2, 68)), (1, (0, v1_2))] [] s_3 (poV post)) ?_ h
  intro again_4 v1_2 s_3 hagain_4 h
  refine Ev_iload_n dX10_tellPoints_7 1 rfl ?_
  refine Ev_aload_n dX10_tellPoints_8 0 rfl ?_
  refine Ev_geti 68 dX10_tellPoints_9 f_RX10_109 rfl sh_68 ?_
  refine Ev_icmp_ge (tgt := 110) dX10_tellPoints_12 (by decide) (fun hc => ?_) (fun hc => ?_)
  · replace h := h.1 hc
    exact Ev_retv dX10_tellPoints_110 rfl (poV_mk h)
  · replace h := h.2 hc
    refine Ev_aload_n dX10_tellPoints_15 0 rfl ?_
    refine Ev_aload_n dX10_tellPoints_16 0 rfl ?_
    refine Ev_getr 68 (69) dX10_tellPoints_17 f_RX10_9 rfl sh_68 rfl ?_
    refine Ev_iload_n dX10_tellPoints_20 1 rfl ?_
    obtain ⟨hb_5, h⟩ := h
    refine Ev_iald (69) dX10_tellPoints_21 rfl sh_69 hb_5 ?_
    refine Ev_i2l dX10_tellPoints_22 ?_
    refine Ev_aload_n dX10_tellPoints_23 0 rfl ?_
    refine Ev_getr 68 (70) dX10_tellPoints_24 f_RX10_13 rfl sh_68 rfl ?_
    refine Ev_iload_n dX10_tellPoints_27 1 rfl ?_
    obtain ⟨hb_6, h⟩ := h
    refine Ev_iald (70) dX10_tellPoints_28 rfl sh_70 hb_6 ?_
    refine Ev_i2l dX10_tellPoints_29 ?_
    refine Ev_lconst (v := 1) dX10_tellPoints_30 (by decide +kernel) ?_
    refine Ev_invV (d' := 102) [(1, s_3 69 v1_2.toNat), (1, s_3 70 v1_2.toNat), (1, 1)] 68 dX10_tellPoints_31 M_X10_addPoint q_1098 (by decide) rfl rfl sh_68 rfl (Nat.le_of_ble_eq_true rfl) (k_X10_addPoint h) ?_
    rintro _ s_7 ⟨rfl, h⟩
    refine Ev_aload_n dX10_tellPoints_34 0 rfl ?_
    refine Ev_aload_n dX10_tellPoints_35 0 rfl ?_
    refine Ev_getr 68 (71) dX10_tellPoints_36 f_RX10_16 rfl sh_68 rfl ?_
    refine Ev_iload_n dX10_tellPoints_39 1 rfl ?_
    obtain ⟨hb_8, h⟩ := h
    refine Ev_iald (71) dX10_tellPoints_40 rfl sh_71 hb_8 ?_
    refine Ev_i2l dX10_tellPoints_41 ?_
    refine Ev_aload_n dX10_tellPoints_42 0 rfl ?_
    refine Ev_getr 68 (72) dX10_tellPoints_43 f_RX10_19 rfl sh_68 rfl ?_
    refine Ev_iload_n dX10_tellPoints_46 1 rfl ?_
    obtain ⟨hb_9, h⟩ := h
    refine Ev_iald (72) dX10_tellPoints_47 rfl sh_72 hb_9 ?_
    refine Ev_i2l dX10_tellPoints_48 ?_
    refine Ev_lconst (v := 1) dX10_tellPoints_49 (by decide +kernel) ?_
    refine Ev_invV (d' := 102) [(1, s_7 71 v1_2.toNat), (1, s_7 72 v1_2.toNat), (1, 1)] 68 dX10_tellPoints_50 M_X10_addPoint q_1098 (by decide) rfl rfl sh_68 rfl (Nat.le_of_ble_eq_true rfl) (k_X10_addPoint h) ?_
    rintro _ s_10 ⟨rfl, h⟩
    refine Ev_iconst (v := 0) dX10_tellPoints_53 rfl ⟨by decide, by decide⟩ ?_
    refine Ev_istore_n dX10_tellPoints_54 (by decide) rfl ?_
    refine Ev_sub [1, 2, 0] rfl ?_
    refine li_1s (P := fun (v2_11 : Int) (s_12 : Sg) => Ev mX10_tellPoints 103 55 [(0, (2, 68)), (1, (0, v1_2)), (2, (0, v2_11))] [] s_12 (poV post)) ?_ h
    intro again_13 v2_11 s_12 hagain_13 h
    refine Ev_iload_n dX10_tellPoints_55 2 rfl ?_
    refine Ev_iload_n dX10_tellPoints_56 1 rfl ?_
    refine Ev_icmp_ge (tgt := 104) dX10_tellPoints_57 (by decide) (fun hc => ?_) (fun hc => ?_)
    · replace h := h.1 hc
      obtain ⟨v1_14, ev1_14⟩ : ∃ z : Int, z = w32 (v1_2 + 1) := ⟨_, rfl⟩
      replace h := h v1_14 ev1_14
      refine Ev_iinc (v := v1_14) dX10_tellPoints_104 1 rfl ev1_14.symm (by decide) rfl ?_
      refine Ev_goto (tgt := 7) dX10_tellPoints_107 (by decide) ?_
      refine Ev_sub [1, 0] rfl ?_
      exact hagain_4 _ _ h
    · replace h := h.2 hc
      refine Ev_aload_n dX10_tellPoints_60 0 rfl ?_
      refine Ev_iload_n dX10_tellPoints_61 1 rfl ?_
      refine Ev_iload_n dX10_tellPoints_62 2 rfl ?_
      refine Ev_invV (d' := 2) [(0, v1_2), (0, v2_11)] 68 dX10_tellPoints_63 M_X10_meet q_1066 (by decide) rfl rfl sh_68 rfl (Nat.le_of_ble_eq_true rfl) (k_X10_meet h) ?_
      rintro _ s_15 ⟨rfl, h⟩
      refine Ev_aload_n dX10_tellPoints_66 0 rfl ?_
      refine Ev_geti 68 dX10_tellPoints_67 f_RX10_140 rfl sh_68 ?_
      refine Ev_iconst (v := 1) dX10_tellPoints_70 rfl ⟨by decide, by decide⟩ ?_
      refine jc_0s (P := fun (s_16 : Sg) => Ev mX10_tellPoints 103 98 [(0, (2, 68)), (1, (0, v1_2)), (2, (0, v2_11))] [] s_16 (poV post)) h ?_ ?_
      · intro s_16 h
        obtain ⟨v2_18, ev2_18⟩ : ∃ z : Int, z = w32 (v2_11 + 1) := ⟨_, rfl⟩
        replace h := h v2_18 ev2_18
        refine Ev_iinc (v := v2_18) dX10_tellPoints_98 2 rfl ev2_18.symm (by decide) rfl ?_
        refine Ev_goto (tgt := 55) dX10_tellPoints_101 (by decide) ?_
        refine Ev_sub [1, 2, 0] rfl ?_
        exact hagain_13 _ _ h
      · intro K_17 hK_17 h
        refine jc_0 (P := Ev mX10_tellPoints 103 82 [(0, (2, 68)), (1, (0, v1_2)), (2, (0, v2_11))] [] s_15 (poV post)) h ?_ ?_
        · intro  h
          refine Ev_aload_n dX10_tellPoints_82 0 rfl ?_
          refine Ev_aload_n dX10_tellPoints_83 0 rfl ?_
          refine Ev_getl 68 dX10_tellPoints_84 f_RX10_143 rfl sh_68 ?_
          refine Ev_aload_n dX10_tellPoints_87 0 rfl ?_
          refine Ev_getl 68 dX10_tellPoints_88 f_RX10_147 rfl sh_68 ?_
          refine Ev_aload_n dX10_tellPoints_91 0 rfl ?_
          refine Ev_getl 68 dX10_tellPoints_92 f_RX10_150 rfl sh_68 ?_
          refine Ev_invV (d' := 102) [(1, s_15 68 6), (1, s_15 68 7), (1, s_15 68 8)] 68 dX10_tellPoints_95 M_X10_addPoint q_1098 (by decide) rfl rfl sh_68 rfl (Nat.le_of_ble_eq_true rfl) (k_X10_addPoint h) ?_
          rintro _ s_20 ⟨rfl, h⟩
          exact hK_17 _ h
        · intro K_19 hK_19 h
          refine Ev_icmp_eq (tgt := 82) dX10_tellPoints_71 (by decide) (fun hc => ?_) (fun hc => ?_)
          · replace h := h.1 hc
            exact hK_19 h
          · replace h := h.2 hc
            refine Ev_aload_n dX10_tellPoints_74 0 rfl ?_
            refine Ev_geti 68 dX10_tellPoints_75 f_RX10_140 rfl sh_68 ?_
            refine Ev_iconst (v := 2) dX10_tellPoints_78 rfl ⟨by decide, by decide⟩ ?_
            refine Ev_icmp_ne (tgt := 98) dX10_tellPoints_79 (by decide) (fun hc => ?_) (fun hc => ?_)
            · replace h := h.1 hc
              exact hK_17 _ h
            · replace h := h.2 hc
              exact hK_19 h
theorem k_X10_cut {s : Sg} {v1 : Int} {post : Sg → Prop} (h : w_X10_cut s v1 post) : EvM mX10_cut 2 [(2, 68), (0, v1)] s (poV post) := by
  refine EvM_of rfl (by decide +kernel) (Nat.le_of_ble_eq_true rfl) ?_
  unfold w_X10_cut at h
  show Ev mX10_cut 2 0 [(0, (2, 68)), (1, (0, v1))] [] s (poV post)
  refine Ev_iconst (v := 0) dX10_cut_0 rfl ⟨by decide, by decide⟩ ?_
  refine Ev_istore_n dX10_cut_1 (by decide) rfl ?_
  refine Ev_iconst (v := 0) dX10_cut_2 rfl ⟨by decide, by decide⟩ ?_
  refine Ev_istore_n dX10_cut_3 (by decide) rfl ?_
  refine Ev_sub [2, 3, 1, 0] rfl ?_
  refine li_2s (P := fun (v2_1 v3_2 : Int) (s_3 : Sg) => Ev mX10_cut 2 4 [(0, (2, 68)), (1, (0, v1)), (2, (0, v2_1)), (3, (0, v3_2))] [] s_3 (poV post)) ?_ h
  intro again_4 v2_1 v3_2 s_3 hagain_4 h
  refine Ev_iload_n dX10_cut_4 3 rfl ?_
  refine Ev_aload_n dX10_cut_5 0 rfl ?_
  refine Ev_geti 68 dX10_cut_6 f_RX10_109 rfl sh_68 ?_
  refine Ev_icmp_ge (tgt := 140) dX10_cut_9 (by decide) (fun hc => ?_) (fun hc => ?_)
  · replace h := h.1 hc
    refine Ev_iconst (v := 0) dX10_cut_140 rfl ⟨by decide, by decide⟩ ?_
    refine Ev_istore_n dX10_cut_141 (by decide) rfl ?_
    refine Ev_iconst (v := 0) dX10_cut_142 rfl ⟨by decide, by decide⟩ ?_
    refine Ev_istore dX10_cut_143 (by decide) rfl ?_
    refine Ev_sub [2, 3, 4, 1, 0] rfl ?_
    refine li_2s (P := fun (v3_5 v4_6 : Int) (s_7 : Sg) => Ev mX10_cut 2 145 [(0, (2, 68)), (1, (0, v1)), (2, (0, v2_1)), (3, (0, v3_5)), (4, (0, v4_6))] [] s_7 (poV post)) ?_ h
    intro again_8 v3_5 v4_6 s_7 hagain_8 h
    refine Ev_iload dX10_cut_145 4 rfl ?_
    refine Ev_iload_n dX10_cut_147 2 rfl ?_
    refine Ev_icmp_ge (tgt := 231) dX10_cut_148 (by decide) (fun hc => ?_) (fun hc => ?_)
    · replace h := h.1 hc
      refine Ev_aload_n dX10_cut_231 0 rfl ?_
      refine Ev_iload_n dX10_cut_232 1 rfl ?_
      refine Ev_iload_n dX10_cut_233 3 rfl ?_
      refine Ev_iconst (v := 0) dX10_cut_234 rfl ⟨by decide, by decide⟩ ?_
      refine Ev_invV (d' := 0) [(0, v1), (0, v3_5), (0, 0)] 68 dX10_cut_235 M_X10_addCell q_1195 (by decide) rfl rfl sh_68 rfl (Nat.le_of_ble_eq_true rfl) (k_X10_addCell h) ?_
      rintro _ s_9 ⟨rfl, h⟩
      exact Ev_retv dX10_cut_238 rfl (poV_mk h)
    · replace h := h.2 hc
      refine Ev_iconst (v := 1) dX10_cut_151 rfl ⟨by decide, by decide⟩ ?_
      refine Ev_aload_n dX10_cut_152 0 rfl ?_
      refine Ev_getr 68 (90) dX10_cut_153 f_RX10_75 rfl sh_68 rfl ?_
      refine Ev_iload dX10_cut_156 4 rfl ?_
      obtain ⟨hb_10, h⟩ := h
      refine Ev_iald (90) dX10_cut_158 rfl sh_90 hb_10 ?_
      refine Ev_ishl dX10_cut_159 ?_
      obtain ⟨v5_11, ev5_11⟩ : ∃ z : Int, z = ishl 1 (s_7 90 v4_6.toNat) := ⟨_, rfl⟩
      replace h := h v5_11 ev5_11
      rw [← ev5_11]
      refine Ev_istore dX10_cut_160 (by decide) rfl ?_
      refine Ev_aload_n dX10_cut_162 1 rfl ?_
      refine Ev_getr 68 (90) dX10_cut_163 f_RX10_75 rfl sh_68 rfl ?_
      refine Ev_iload dX10_cut_166 5 rfl ?_
      obtain ⟨hb_12, h⟩ := h
      refine Ev_iald (90) dX10_cut_168 rfl sh_90 hb_12 ?_
      obtain ⟨v6_13, ev6_13⟩ : ∃ z : Int, z = s_7 90 v4_6.toNat := ⟨_, rfl⟩
      replace h := h v6_13 ev6_13
      rw [← ev6_13]
      refine Ev_istore dX10_cut_169 (by decide) rfl ?_
      obtain ⟨v4_14, ev4_14⟩ : ∃ z : Int, z = w32 (v4_6 + 1) := ⟨_, rfl⟩
      replace h := h v4_14 ev4_14
      refine Ev_iinc (v := v4_14) dX10_cut_171 6 rfl ev4_14.symm (by decide) rfl ?_
      refine Ev_sub [3, 4, 5, 6, 0, 2, 1] rfl ?_
      refine li_2 (P := fun (v4_15 v5_16 : Int) => Ev mX10_cut 2 174 [(0, (2, 68)), (1, (0, v1)), (2, (0, v2_1)), (3, (0, v3_5)), (4, (0, v4_15)), (5, (0, v5_16)), (6, (0, v6_13))] [] s_7 (poV post)) ?_ h
      intro again_17 v4_15 v5_16 hagain_17 h
      refine Ev_iload dX10_cut_174 4 rfl ?_
      refine Ev_iload_n dX10_cut_176 2 rfl ?_
      refine jc_0 (P := Ev mX10_cut 2 217 [(0, (2, 68)), (1, (0, v1)), (2, (0, v2_1)), (3, (0, v3_5)), (4, (0, v4_15)), (5, (0, v5_16))] [] s_7 (poV post)) h ?_ ?_
      · intro  h
        refine Ev_aload_n dX10_cut_217 0 rfl ?_
        refine Ev_iload_n dX10_cut_218 1 rfl ?_
        refine Ev_iload_n dX10_cut_219 3 rfl ?_
        refine Ev_iload dX10_cut_220 5 rfl ?_
        refine Ev_invV (d' := 0) [(0, v1), (0, v3_5), (0, v5_16)] 68 dX10_cut_222 M_X10_addCell q_1195 (by decide) rfl rfl sh_68 rfl (Nat.le_of_ble_eq_true rfl) (k_X10_addCell h) ?_
        rintro _ s_19 ⟨rfl, h⟩
        refine Ev_iload dX10_cut_225 5 rfl ?_
        refine Ev_istore_n dX10_cut_227 (by decide) rfl ?_
        refine Ev_goto (tgt := 145) dX10_cut_228 (by decide) ?_
        refine Ev_sub [1, 2, 3, 0, 4] rfl ?_
        exact hagain_8 _ _ _ h
      · intro K_18 hK_18 h
        refine Ev_icmp_ge (tgt := 217) dX10_cut_177 (by decide) (fun hc => ?_) (fun hc => ?_)
        · replace h := h.1 hc
          refine Ev_sub [0, 1, 2, 3, 4, 5] rfl ?_
          exact hK_18 h
        · replace h := h.2 hc
          refine Ev_aload_n dX10_cut_180 0 rfl ?_
          refine Ev_iload dX10_cut_181 6 rfl ?_
          refine Ev_aload_n dX10_cut_183 0 rfl ?_
          refine Ev_getr 68 (90) dX10_cut_184 f_RX10_75 rfl sh_68 rfl ?_
          refine Ev_iload dX10_cut_187 4 rfl ?_
          obtain ⟨hb_20, h⟩ := h
          refine Ev_iald (90) dX10_cut_189 rfl sh_90 hb_20 ?_
          refine Ev_iload_n dX10_cut_190 1 rfl ?_
          refine Ev_invV (d' := 1) [(0, v6_13), (0, s_7 90 v4_15.toNat), (0, v1)] 68 dX10_cut_191 M_X10_againstThrough q_1203 (by decide) rfl rfl sh_68 rfl (Nat.le_of_ble_eq_true rfl) (k_X10_againstThrough h) ?_
          rintro _ _ ⟨rfl, r_21, rfl, h⟩
          refine Ev_if_ne (tgt := 217) dX10_cut_194 (by decide) (fun hc => ?_) (fun hc => ?_)
          · replace h := h.1 hc
            refine Ev_sub [0, 1, 2, 3, 4, 5] rfl ?_
            exact hK_18 h
          · replace h := h.2 hc
            refine Ev_iload dX10_cut_197 5 rfl ?_
            refine Ev_iconst (v := 1) dX10_cut_199 rfl ⟨by decide, by decide⟩ ?_
            refine Ev_aload_n dX10_cut_200 0 rfl ?_
            refine Ev_getr 68 (90) dX10_cut_201 f_RX10_75 rfl sh_68 rfl ?_
            refine Ev_iload dX10_cut_204 4 rfl ?_
            obtain ⟨hb_22, h⟩ := h
            refine Ev_iald (90) dX10_cut_206 rfl sh_90 hb_22 ?_
            refine Ev_ishl dX10_cut_207 ?_
            refine Ev_ior dX10_cut_208 ?_
            obtain ⟨v5_23, ev5_23⟩ : ∃ z : Int, z = ior v5_16 (ishl 1 (s_7 90 v4_15.toNat)) := ⟨_, rfl⟩
            replace h := h v5_23 ev5_23
            rw [← ev5_23]
            refine Ev_istore dX10_cut_209 (by decide) rfl ?_
            obtain ⟨v4_24, ev4_24⟩ : ∃ z : Int, z = w32 (v4_15 + 1) := ⟨_, rfl⟩
            replace h := h v4_24 ev4_24
            refine Ev_iinc (v := v4_24) dX10_cut_211 5 rfl ev4_24.symm (by decide) rfl ?_
            refine Ev_goto (tgt := 174) dX10_cut_214 (by decide) ?_
            refine Ev_sub [2, 3, 4, 5, 0, 1, 6] rfl ?_
            exact hagain_17 _ _ h
  · replace h := h.2 hc
    refine Ev_aload_n dX10_cut_12 0 rfl ?_
    refine Ev_iload_n dX10_cut_13 3 rfl ?_
    refine Ev_invV (d' := 0) [(0, v3_2)] 68 dX10_cut_14 M_X10_isUpright q_1139 (by decide) rfl rfl sh_68 rfl (Nat.le_of_ble_eq_true rfl) (k_X10_isUpright h) ?_
    rintro _ _ ⟨rfl, r_25, rfl, h⟩
    refine jc_1s (P := fun (v2_26 : Int) (s_27 : Sg) => Ev mX10_cut 2 134 [(0, (2, 68)), (1, (0, v1)), (2, (0, v2_26)), (3, (0, v3_2))] [] s_27 (poV post)) h ?_ ?_
    · intro v2_26 s_27 h
      obtain ⟨v3_29, ev3_29⟩ : ∃ z : Int, z = w32 (v3_2 + 1) := ⟨_, rfl⟩
      replace h := h v3_29 ev3_29
      refine Ev_iinc (v := v3_29) dX10_cut_134 3 rfl ev3_29.symm (by decide) rfl ?_
      refine Ev_goto (tgt := 4) dX10_cut_137 (by decide) ?_
      refine Ev_sub [1, 2, 3, 0] rfl ?_
      exact hagain_4 _ _ _ h
    · intro K_28 hK_28 h
      refine Ev_if_ne (tgt := 134) dX10_cut_17 (by decide) (fun hc => ?_) (fun hc => ?_)
      · replace h := h.1 hc
        exact hK_28 _ _ h
      · replace h := h.2 hc
        refine Ev_aload_n dX10_cut_20 0 rfl ?_
        refine Ev_getr 68 (69) dX10_cut_21 f_RX10_9 rfl sh_68 rfl ?_
        refine Ev_iload_n dX10_cut_24 3 rfl ?_
        obtain ⟨hb_30, h⟩ := h
        refine Ev_iald (69) dX10_cut_25 rfl sh_69 hb_30 ?_
        refine Ev_i2l dX10_cut_26 ?_
        refine Ev_aload_n dX10_cut_27 0 rfl ?_
        refine Ev_getr 68 (84) dX10_cut_28 f_RX10_57 rfl sh_68 rfl ?_
        refine Ev_iload_n dX10_cut_31 1 rfl ?_
        obtain ⟨hb_31, h⟩ := h
        refine Ev_lald (84) dX10_cut_32 rfl sh_84 hb_31 ?_
        refine Ev_lmul dX10_cut_33 ?_
        refine Ev_aload_n dX10_cut_34 0 rfl ?_
        refine Ev_getr 68 (83) dX10_cut_35 f_RX10_54 rfl sh_68 rfl ?_
        refine Ev_iload_n dX10_cut_38 1 rfl ?_
        obtain ⟨hb_32, h⟩ := h
        refine Ev_lald (83) dX10_cut_39 rfl sh_83 hb_32 ?_
        refine Ev_lcmp dX10_cut_40 ?_
        refine Ev_if_gt (tgt := 134) dX10_cut_41 (by decide) (fun hc => ?_) (fun hc => ?_)
        · replace h := h.1 (lcmp_gt.mp hc)
          exact hK_28 _ _ h
        · replace h := h.2 (fun q => hc (lcmp_gt.mpr q))
          refine Ev_aload_n dX10_cut_44 0 rfl ?_
          refine Ev_getr 68 (71) dX10_cut_45 f_RX10_16 rfl sh_68 rfl ?_
          refine Ev_iload_n dX10_cut_48 3 rfl ?_
          obtain ⟨hb_33, h⟩ := h
          refine Ev_iald (71) dX10_cut_49 rfl sh_71 hb_33 ?_
          refine Ev_i2l dX10_cut_50 ?_
          refine Ev_aload_n dX10_cut_51 0 rfl ?_
          refine Ev_getr 68 (84) dX10_cut_52 f_RX10_57 rfl sh_68 rfl ?_
          refine Ev_iload_n dX10_cut_55 1 rfl ?_
          refine Ev_iconst (v := 1) dX10_cut_56 rfl ⟨by decide, by decide⟩ ?_
          refine Ev_iadd dX10_cut_57 ?_
          obtain ⟨hb_34, h⟩ := h
          refine Ev_lald (84) dX10_cut_58 rfl sh_84 hb_34 ?_
          refine Ev_lmul dX10_cut_59 ?_
          refine Ev_aload_n dX10_cut_60 0 rfl ?_
          refine Ev_getr 68 (83) dX10_cut_61 f_RX10_54 rfl sh_68 rfl ?_
          refine Ev_iload_n dX10_cut_64 1 rfl ?_
          refine Ev_iconst (v := 1) dX10_cut_65 rfl ⟨by decide, by decide⟩ ?_
          refine Ev_iadd dX10_cut_66 ?_
          obtain ⟨hb_35, h⟩ := h
          refine Ev_lald (83) dX10_cut_67 rfl sh_83 hb_35 ?_
          refine Ev_lcmp dX10_cut_68 ?_
          refine Ev_if_ge (tgt := 75) dX10_cut_69 (by decide) (fun hc => ?_) (fun hc => ?_)
          · replace h := h.1 (lcmp_ge.mp hc)
            refine Ev_iload_n dX10_cut_75 2 rfl ?_
            refine Ev_istore dX10_cut_76 (by decide) rfl ?_
            refine Ev_sub [1, 2, 3, 4, 0] rfl ?_
            refine li_1s (P := fun (v4_36 : Int) (s_37 : Sg) => Ev mX10_cut 2 78 [(0, (2, 68)), (1, (0, v1)), (2, (0, v2_1)), (3, (0, v3_2)), (4, (0, v4_36))] [] s_37 (poV post)) ?_ h
            intro again_38 v4_36 s_37 hagain_38 h
            refine Ev_iload dX10_cut_78 4 rfl ?_
            refine jc_0 (P := Ev mX10_cut 2 123 [(0, (2, 68)), (1, (0, v1)), (2, (0, v2_1)), (3, (0, v3_2)), (4, (0, v4_36))] [] s_37 (poV post)) h ?_ ?_
            · intro  h
              refine Ev_aload_n dX10_cut_123 0 rfl ?_
              refine Ev_getr 68 (90) dX10_cut_124 f_RX10_75 rfl sh_68 rfl ?_
              refine Ev_iload dX10_cut_127 4 rfl ?_
              refine Ev_iload_n dX10_cut_129 3 rfl ?_
              obtain ⟨hb_40, h⟩ := h
              obtain ⟨s_41, es_41⟩ : ∃ z : Sg, z = (up s_37 90 (v4_36.toNat) v3_2) := ⟨_, rfl⟩
              replace h := h s_41 es_41
              refine Ev_iast (90) dX10_cut_130 rfl sh_90 hb_40 ?_
              rw [← es_41]
              obtain ⟨v2_42, ev2_42⟩ : ∃ z : Int, z = w32 (v2_1 + 1) := ⟨_, rfl⟩
              replace h := h v2_42 ev2_42
              refine Ev_iinc (v := v2_42) dX10_cut_131 2 rfl ev2_42.symm (by decide) rfl ?_
              refine Ev_sub [1, 2, 0, 3] rfl ?_
              exact hK_28 _ _ h
            · intro K_39 hK_39 h
              refine Ev_if_le (tgt := 123) dX10_cut_80 (by decide) (fun hc => ?_) (fun hc => ?_)
              · replace h := h.1 hc
                exact hK_39 h
              · replace h := h.2 hc
                refine Ev_aload_n dX10_cut_83 0 rfl ?_
                refine Ev_iload_n dX10_cut_84 3 rfl ?_
                refine Ev_aload_n dX10_cut_85 0 rfl ?_
                refine Ev_getr 68 (90) dX10_cut_86 f_RX10_75 rfl sh_68 rfl ?_
                refine Ev_iload dX10_cut_89 4 rfl ?_
                refine Ev_iconst (v := 1) dX10_cut_91 rfl ⟨by decide, by decide⟩ ?_
                refine Ev_isub dX10_cut_92 ?_
                obtain ⟨hb_43, h⟩ := h
                refine Ev_iald (90) dX10_cut_93 rfl sh_90 hb_43 ?_
                refine Ev_iload_n dX10_cut_94 1 rfl ?_
                refine Ev_invV (d' := 1) [(0, v3_2), (0, s_37 90 (w32 (v4_36 - 1)).toNat), (0, v1)] 68 dX10_cut_95 M_X10_againstThrough q_1203 (by decide) rfl rfl sh_68 rfl (Nat.le_of_ble_eq_true rfl) (k_X10_againstThrough h) ?_
                rintro _ _ ⟨rfl, r_44, rfl, h⟩
                refine Ev_if_ge (tgt := 123) dX10_cut_98 (by decide) (fun hc => ?_) (fun hc => ?_)
                · replace h := h.1 hc
                  exact hK_39 h
                · replace h := h.2 hc
                  refine Ev_aload_n dX10_cut_101 0 rfl ?_
                  refine Ev_getr 68 (90) dX10_cut_102 f_RX10_75 rfl sh_68 rfl ?_
                  refine Ev_iload dX10_cut_105 4 rfl ?_
                  refine Ev_aload_n dX10_cut_107 0 rfl ?_
                  refine Ev_getr 68 (90) dX10_cut_108 f_RX10_75 rfl sh_68 rfl ?_
                  refine Ev_iload dX10_cut_111 4 rfl ?_
                  refine Ev_iconst (v := 1) dX10_cut_113 rfl ⟨by decide, by decide⟩ ?_
                  refine Ev_isub dX10_cut_114 ?_
                  obtain ⟨hb_45, h⟩ := h
                  refine Ev_iald (90) dX10_cut_115 rfl sh_90 hb_45 ?_
                  obtain ⟨hb_46, h⟩ := h
                  obtain ⟨s_47, es_47⟩ : ∃ z : Sg, z = (up s_37 90 (v4_36.toNat) (s_37 90 (w32 (v4_36 - 1)).toNat)) := ⟨_, rfl⟩
                  replace h := h s_47 es_47
                  refine Ev_iast (90) dX10_cut_116 rfl sh_90 hb_46 ?_
                  rw [← es_47]
                  obtain ⟨v4_48, ev4_48⟩ : ∃ z : Int, z = w32 (v4_36 + (-1)) := ⟨_, rfl⟩
                  replace h := h v4_48 ev4_48
                  refine Ev_iinc (v := v4_48) dX10_cut_117 4 rfl ev4_48.symm (by decide) rfl ?_
                  refine Ev_goto (tgt := 78) dX10_cut_120 (by decide) ?_
                  refine Ev_sub [1, 2, 3, 4, 0] rfl ?_
                  exact hagain_38 _ _ h
          · replace h := h.2 (fun q => hc (lcmp_ge.mpr q))
            refine Ev_goto (tgt := 134) dX10_cut_72 (by decide) ?_
            exact hK_28 _ _ h
theorem k_X10_isMoreThanOne {s : Sg} {post : Int → Prop} (h : w_X10_isMoreThanOne s post) : EvM mX10_isMoreThanOne 1 [(2, 68)] s (poI 0 s post) := by
  refine EvM_of rfl (by decide +kernel) (Nat.le_of_ble_eq_true rfl) ?_
  unfold w_X10_isMoreThanOne at h
  show Ev mX10_isMoreThanOne 1 0 [(0, (2, 68))] [] s (poI 0 s post)
  refine Ev_aload_n dX10_isMoreThanOne_0 0 rfl ?_
  refine Ev_getl 68 dX10_isMoreThanOne_1 f_RX10_290 rfl sh_68 ?_
  refine Ev_aload_n dX10_isMoreThanOne_4 0 rfl ?_
  refine Ev_getl 68 dX10_isMoreThanOne_5 f_RX10_293 rfl sh_68 ?_
  refine Ev_aload_n dX10_isMoreThanOne_8 0 rfl ?_
  refine Ev_getl 68 dX10_isMoreThanOne_9 f_RX10_296 rfl sh_68 ?_
  refine Ev_aload_n dX10_isMoreThanOne_12 0 rfl ?_
  refine Ev_getl 68 dX10_isMoreThanOne_13 f_RX10_299 rfl sh_68 ?_
  refine Ev_invS (d' := 0) [(1, s 68 33), (1, s 68 34), (1, s 68 35), (1, s 68 36)] dX10_isMoreThanOne_16 M_X10_against (Or.inl q_1106) (by decide) rfl (Nat.le_of_ble_eq_true rfl) (k_X10_against h) ?_
  rintro _ _ ⟨rfl, r_1, rfl, h⟩
  refine jc_1 (P := fun (t_2 : Int) => Ev mX10_isMoreThanOne 1 27 [] [(0, t_2)] s (poI 0 s post)) h ?_ ?_
  · intro t_2 h
    obtain ⟨hz, h⟩ := h
    exact Ev_ret dX10_isMoreThanOne_27 hz (poI_mk h)
  · intro K_3 hK_3 h
    refine Ev_if_ge (tgt := 26) dX10_isMoreThanOne_19 (by decide) (fun hc => ?_) (fun hc => ?_)
    · replace h := h.1 hc
      refine Ev_iconst (v := 0) dX10_isMoreThanOne_26 rfl ⟨by decide, by decide⟩ ?_
      refine Ev_sub [] rfl ?_
      exact hK_3 _ h
    · replace h := h.2 hc
      refine Ev_iconst (v := 1) dX10_isMoreThanOne_22 rfl ⟨by decide, by decide⟩ ?_
      refine Ev_goto (tgt := 27) dX10_isMoreThanOne_23 (by decide) ?_
      refine Ev_sub [] rfl ?_
      exact hK_3 _ h
theorem k_X10_isOpen {s : Sg} {v1 v3 : Int} {post : Int → Prop} (h : w_X10_isOpen s v1 v3 post) : EvM mX10_isOpen 2 [(2, 68), (1, v1), (1, v3)] s (poI 0 s post) := by
  refine EvM_of rfl (by decide +kernel) (Nat.le_of_ble_eq_true rfl) ?_
  unfold w_X10_isOpen at h
  show Ev mX10_isOpen 2 0 [(0, (2, 68)), (1, (1, v1)), (3, (1, v3))] [] s (poI 0 s post)
  refine Ev_aload_n dX10_isOpen_0 0 rfl ?_
  refine Ev_getl 68 dX10_isOpen_1 f_RX10_290 rfl sh_68 ?_
  obtain ⟨v5_1, ev5_1⟩ : ∃ z : Int, z = s 68 33 := ⟨_, rfl⟩
  replace h := h v5_1 ev5_1
  rw [← ev5_1]
  refine Ev_lstore dX10_isOpen_4 (by decide) rfl ?_
  refine Ev_aload_n dX10_isOpen_6 1 rfl ?_
  refine Ev_getl 68 dX10_isOpen_7 f_RX10_293 rfl sh_68 ?_
  obtain ⟨v7_2, ev7_2⟩ : ∃ z : Int, z = s 68 34 := ⟨_, rfl⟩
  replace h := h v7_2 ev7_2
  rw [← ev7_2]
  refine Ev_lstore dX10_isOpen_10 (by decide) rfl ?_
  refine Ev_iconst (v := 1) dX10_isOpen_12 rfl ⟨by decide, by decide⟩ ?_
  refine Ev_istore dX10_isOpen_13 (by decide) rfl ?_
  refine Ev_sub [3, 4, 5, 2, 1, 0] rfl ?_
  refine li_3 (P := fun (v5_3 v7_4 v9_5 : Int) => Ev mX10_isOpen 2 15 [(0, (2, 68)), (1, (1, v1)), (3, (1, v3)), (5, (1, v5_3)), (7, (1, v7_4)), (9, (0, v9_5))] [] s (poI 0 s post)) ?_ h
  intro again_6 v5_3 v7_4 v9_5 hagain_6 h
  refine Ev_iload dX10_isOpen_15 5 rfl ?_
  refine Ev_if_eq (tgt := 112) dX10_isOpen_17 (by decide) (fun hc => ?_) (fun hc => ?_)
  · replace h := h.1 hc
    refine Ev_lload dX10_isOpen_112 3 rfl ?_
    refine Ev_lload dX10_isOpen_114 4 rfl ?_
    refine Ev_aload_n dX10_isOpen_116 0 rfl ?_
    refine Ev_getl 68 dX10_isOpen_117 f_RX10_296 rfl sh_68 ?_
    refine Ev_aload_n dX10_isOpen_120 0 rfl ?_
    refine Ev_getl 68 dX10_isOpen_121 f_RX10_299 rfl sh_68 ?_
    refine Ev_invS (d' := 0) [(1, v5_3), (1, v7_4), (1, s 68 35), (1, s 68 36)] dX10_isOpen_124 M_X10_against (Or.inl q_1106) (by decide) rfl (Nat.le_of_ble_eq_true rfl) (k_X10_against h) ?_
    rintro _ _ ⟨rfl, r_7, rfl, h⟩
    refine jc_1 (P := fun (t_8 : Int) => Ev mX10_isOpen 2 135 [] [(0, t_8)] s (poI 0 s post)) h ?_ ?_
    · intro t_8 h
      obtain ⟨hz, h⟩ := h
      exact Ev_ret dX10_isOpen_135 hz (poI_mk h)
    · intro K_9 hK_9 h
      refine Ev_if_ge (tgt := 134) dX10_isOpen_127 (by decide) (fun hc => ?_) (fun hc => ?_)
      · replace h := h.1 hc
        refine Ev_iconst (v := 0) dX10_isOpen_134 rfl ⟨by decide, by decide⟩ ?_
        refine Ev_sub [] rfl ?_
        exact hK_9 _ h
      · replace h := h.2 hc
        refine Ev_iconst (v := 1) dX10_isOpen_130 rfl ⟨by decide, by decide⟩ ?_
        refine Ev_goto (tgt := 135) dX10_isOpen_131 (by decide) ?_
        refine Ev_sub [] rfl ?_
        exact hK_9 _ h
  · replace h := h.2 hc
    refine Ev_iconst (v := 0) dX10_isOpen_20 rfl ⟨by decide, by decide⟩ ?_
    refine Ev_istore dX10_isOpen_21 (by decide) rfl ?_
    refine Ev_iconst (v := 0) dX10_isOpen_23 rfl ⟨by decide, by decide⟩ ?_
    refine Ev_istore dX10_isOpen_24 (by decide) rfl ?_
    refine Ev_sub [2, 3, 4, 5, 6, 1, 0] rfl ?_
    refine li_4 (P := fun (v5_10 v7_11 v9_12 v10_13 : Int) => Ev mX10_isOpen 2 26 [(0, (2, 68)), (1, (1, v1)), (3, (1, v3)), (5, (1, v5_10)), (7, (1, v7_11)), (9, (0, v9_12)), (10, (0, v10_13))] [] s (poI 0 s post)) ?_ h
    intro again_14 v5_10 v7_11 v9_12 v10_13 hagain_14 h
    refine Ev_iload dX10_isOpen_26 6 rfl ?_
    refine Ev_aload_n dX10_isOpen_28 0 rfl ?_
    refine Ev_geti 68 dX10_isOpen_29 f_RX10_109 rfl sh_68 ?_
    refine Ev_icmp_ge (tgt := 109) dX10_isOpen_32 (by decide) (fun hc => ?_) (fun hc => ?_)
    · replace h := h.1 hc
      refine Ev_goto (tgt := 15) dX10_isOpen_109 (by decide) ?_
      refine Ev_sub [0, 1, 2, 3, 4, 5] rfl ?_
      exact hagain_6 _ _ _ h
    · replace h := h.2 hc
      refine Ev_aload_n dX10_isOpen_35 0 rfl ?_
      refine Ev_iload dX10_isOpen_36 6 rfl ?_
      refine Ev_lload_n dX10_isOpen_38 1 rfl ?_
      refine Ev_lload_n dX10_isOpen_39 2 rfl ?_
      refine Ev_invV (d' := 1) [(0, v10_13), (1, v1), (1, v3)] 68 dX10_isOpen_40 M_X10_isUprightAt q_1236 (by decide) rfl rfl sh_68 rfl (Nat.le_of_ble_eq_true rfl) (k_X10_isUprightAt h) ?_
      rintro _ _ ⟨rfl, r_15, rfl, h⟩
      refine jc_3 (P := fun (v5_16 v7_17 v9_18 : Int) => Ev mX10_isOpen 2 103 [(0, (2, 68)), (1, (1, v1)), (3, (1, v3)), (5, (1, v5_16)), (7, (1, v7_17)), (9, (0, v9_18)), (10, (0, v10_13))] [] s (poI 0 s post)) h ?_ ?_
      · intro v5_16 v7_17 v9_18 h
        obtain ⟨v10_20, ev10_20⟩ : ∃ z : Int, z = w32 (v10_13 + 1) := ⟨_, rfl⟩
        replace h := h v10_20 ev10_20
        refine Ev_iinc (v := v10_20) dX10_isOpen_103 6 rfl ev10_20.symm (by decide) rfl ?_
        refine Ev_goto (tgt := 26) dX10_isOpen_106 (by decide) ?_
        refine Ev_sub [1, 2, 3, 4, 5, 6, 0] rfl ?_
        exact hagain_14 _ _ _ _ h
      · intro K_19 hK_19 h
        refine Ev_if_eq (tgt := 103) dX10_isOpen_43 (by decide) (fun hc => ?_) (fun hc => ?_)
        · replace h := h.1 hc
          exact hK_19 _ _ _ h
        · replace h := h.2 hc
          refine Ev_aload_n dX10_isOpen_46 0 rfl ?_
          refine Ev_getr 68 (70) dX10_isOpen_47 f_RX10_13 rfl sh_68 rfl ?_
          refine Ev_iload dX10_isOpen_50 6 rfl ?_
          obtain ⟨hb_21, h⟩ := h
          refine Ev_iald (70) dX10_isOpen_52 rfl sh_70 hb_21 ?_
          refine Ev_i2l dX10_isOpen_53 ?_
          refine Ev_lconst (v := 1) dX10_isOpen_54 (by decide +kernel) ?_
          refine Ev_lload dX10_isOpen_55 3 rfl ?_
          refine Ev_lload dX10_isOpen_57 4 rfl ?_
          refine Ev_invS (d' := 0) [(1, s 70 v10_13.toNat), (1, 1), (1, v5_10), (1, v7_11)] dX10_isOpen_59 M_X10_against (Or.inl q_1106) (by decide) rfl (Nat.le_of_ble_eq_true rfl) (k_X10_against h) ?_
          rintro _ _ ⟨rfl, r_22, rfl, h⟩
          refine Ev_if_gt (tgt := 103) dX10_isOpen_62 (by decide) (fun hc => ?_) (fun hc => ?_)
          · replace h := h.1 hc
            exact hK_19 _ _ _ h
          · replace h := h.2 hc
            refine Ev_aload_n dX10_isOpen_65 0 rfl ?_
            refine Ev_getr 68 (72) dX10_isOpen_66 f_RX10_19 rfl sh_68 rfl ?_
            refine Ev_iload dX10_isOpen_69 6 rfl ?_
            obtain ⟨hb_23, h⟩ := h
            refine Ev_iald (72) dX10_isOpen_71 rfl sh_72 hb_23 ?_
            refine Ev_i2l dX10_isOpen_72 ?_
            refine Ev_lconst (v := 1) dX10_isOpen_73 (by decide +kernel) ?_
            refine Ev_lload dX10_isOpen_74 3 rfl ?_
            refine Ev_lload dX10_isOpen_76 4 rfl ?_
            refine Ev_invS (d' := 0) [(1, s 72 v10_13.toNat), (1, 1), (1, v5_10), (1, v7_11)] dX10_isOpen_78 M_X10_against (Or.inl q_1106) (by decide) rfl (Nat.le_of_ble_eq_true rfl) (k_X10_against h) ?_
            rintro _ _ ⟨rfl, r_24, rfl, h⟩
            refine Ev_if_gt (tgt := 87) dX10_isOpen_81 (by decide) (fun hc => ?_) (fun hc => ?_)
            · replace h := h.1 hc
              refine Ev_aload_n dX10_isOpen_87 0 rfl ?_
              refine Ev_getr 68 (72) dX10_isOpen_88 f_RX10_19 rfl sh_68 rfl ?_
              refine Ev_iload dX10_isOpen_91 6 rfl ?_
              obtain ⟨hb_25, h⟩ := h
              refine Ev_iald (72) dX10_isOpen_93 rfl sh_72 hb_25 ?_
              refine Ev_i2l dX10_isOpen_94 ?_
              obtain ⟨v5_26, ev5_26⟩ : ∃ z : Int, z = s 72 v10_13.toNat := ⟨_, rfl⟩
              replace h := h v5_26 ev5_26
              rw [← ev5_26]
              refine Ev_lstore dX10_isOpen_95 (by decide) rfl ?_
              refine Ev_lconst (v := 1) dX10_isOpen_97 (by decide +kernel) ?_
              refine Ev_lstore dX10_isOpen_98 (by decide) rfl ?_
              refine Ev_iconst (v := 1) dX10_isOpen_100 rfl ⟨by decide, by decide⟩ ?_
              refine Ev_istore dX10_isOpen_101 (by decide) rfl ?_
              refine Ev_sub [3, 4, 5, 2, 1, 0, 6] rfl ?_
              exact hK_19 _ _ _ h
            · replace h := h.2 hc
              refine Ev_goto (tgt := 103) dX10_isOpen_84 (by decide) ?_
              exact hK_19 _ _ _ h
theorem k_X10_joinCells {s : Sg} {post : Sg → Prop} (h : w_X10_joinCells s post) : EvM mX10_joinCells 3 [(2, 68)] s (poV post) := by
  refine EvM_of rfl (by decide +kernel) (Nat.le_of_ble_eq_true rfl) ?_
  unfold w_X10_joinCells at h
  show Ev mX10_joinCells 3 0 [(0, (2, 68))] [] s (poV post)
  refine Ev_iconst (v := 0) dX10_joinCells_0 rfl ⟨by decide, by decide⟩ ?_
  refine Ev_istore_n dX10_joinCells_1 (by decide) rfl ?_
  refine Ev_sub [1, 0] rfl ?_
  refine li_1s (P := fun (v1_1 : Int) (s_2 : Sg) => Ev mX10_joinCells 3 2 [(0, (2, 68)), (1, (0, v1_1))] [] s_2 (poV post)) ?_ h
  intro again_3 v1_1 s_2 hagain_3 h
  refine Ev_iload_n dX10_joinCells_2 1 rfl ?_
  refine Ev_aload_n dX10_joinCells_3 0 rfl ?_
  refine Ev_geti 68 dX10_joinCells_4 f_RX10_267 rfl sh_68 ?_
  refine Ev_icmp_ge (tgt := 23) dX10_joinCells_7 (by decide) (fun hc => ?_) (fun hc => ?_)
  · replace h := h.1 hc
    refine Ev_iconst (v := 1) dX10_joinCells_23 rfl ⟨by decide, by decide⟩ ?_
    refine Ev_istore_n dX10_joinCells_24 (by decide) rfl ?_
    refine Ev_sub [1, 0] rfl ?_
    refine li_1s (P := fun (v1_4 : Int) (s_5 : Sg) => Ev mX10_joinCells 3 25 [(0, (2, 68)), (1, (0, v1_4))] [] s_5 (poV post)) ?_ h
    intro again_6 v1_4 s_5 hagain_6 h
    refine Ev_iload_n dX10_joinCells_25 1 rfl ?_
    refine Ev_aload_n dX10_joinCells_26 0 rfl ?_
    refine Ev_geti 68 dX10_joinCells_27 f_RX10_278 rfl sh_68 ?_
    refine Ev_icmp_ge (tgt := 229) dX10_joinCells_30 (by decide) (fun hc => ?_) (fun hc => ?_)
    · replace h := h.1 hc
      refine Ev_aload_n dX10_joinCells_229 0 rfl ?_
      refine Ev_iconst (v := 0) dX10_joinCells_230 rfl ⟨by decide, by decide⟩ ?_
      obtain ⟨s_7, es_7⟩ : ∃ z : Sg, z = (up s_5 68 24 0) := ⟨_, rfl⟩
      replace h := h s_7 es_7
      refine Ev_puti 68 dX10_joinCells_231 fp_RX10_324 rfl sh_68 ?_
      rw [← es_7]
      refine Ev_iconst (v := 0) dX10_joinCells_234 rfl ⟨by decide, by decide⟩ ?_
      refine Ev_istore_n dX10_joinCells_235 (by decide) rfl ?_
      refine Ev_sub [1, 0] rfl ?_
      refine li_1s (P := fun (v1_8 : Int) (s_9 : Sg) => Ev mX10_joinCells 3 236 [(0, (2, 68)), (1, (0, v1_8))] [] s_9 (poV post)) ?_ h
      intro again_10 v1_8 s_9 hagain_10 h
      refine Ev_iload_n dX10_joinCells_236 1 rfl ?_
      refine Ev_aload_n dX10_joinCells_237 0 rfl ?_
      refine Ev_geti 68 dX10_joinCells_238 f_RX10_267 rfl sh_68 ?_
      refine Ev_icmp_ge (tgt := 310) dX10_joinCells_241 (by decide) (fun hc => ?_) (fun hc => ?_)
      · replace h := h.1 hc
        exact Ev_retv dX10_joinCells_310 rfl (poV_mk h)
      · replace h := h.2 hc
        refine Ev_aload_n dX10_joinCells_244 0 rfl ?_
        refine Ev_getr 68 (89) dX10_joinCells_245 f_RX10_72 rfl sh_68 rfl ?_
        refine Ev_iload_n dX10_joinCells_248 1 rfl ?_
        obtain ⟨hb_11, h⟩ := h
        refine Ev_iald (89) dX10_joinCells_249 rfl sh_89 hb_11 ?_
        refine Ev_iload_n dX10_joinCells_250 1 rfl ?_
        refine jc_0s (P := fun (s_12 : Sg) => Ev mX10_joinCells 3 304 [(0, (2, 68)), (1, (0, v1_8))] [] s_12 (poV post)) h ?_ ?_
        · intro s_12 h
          obtain ⟨v1_14, ev1_14⟩ : ∃ z : Int, z = w32 (v1_8 + 1) := ⟨_, rfl⟩
          replace h := h v1_14 ev1_14
          refine Ev_iinc (v := v1_14) dX10_joinCells_304 1 rfl ev1_14.symm (by decide) rfl ?_
          refine Ev_goto (tgt := 236) dX10_joinCells_307 (by decide) ?_
          refine Ev_sub [1, 0] rfl ?_
          exact hagain_10 _ _ h
        · intro K_13 hK_13 h
          refine Ev_icmp_eq (tgt := 274) dX10_joinCells_251 (by decide) (fun hc => ?_) (fun hc => ?_)
          · replace h := h.1 hc
            refine Ev_aload_n dX10_joinCells_274 0 rfl ?_
            refine Ev_getr 68 (89) dX10_joinCells_275 f_RX10_72 rfl sh_68 rfl ?_
            refine Ev_iload_n dX10_joinCells_278 1 rfl ?_
            refine Ev_aload_n dX10_joinCells_279 0 rfl ?_
            refine Ev_geti 68 dX10_joinCells_280 f_RX10_324 rfl sh_68 ?_
            obtain ⟨hb_15, h⟩ := h
            obtain ⟨s_16, es_16⟩ : ∃ z : Sg, z = (up s_9 89 (v1_8.toNat) (s_9 68 24)) := ⟨_, rfl⟩
            replace h := h s_16 es_16
            refine Ev_iast (89) dX10_joinCells_283 rfl sh_89 hb_15 ?_
            rw [← es_16]
            refine Ev_aload_n dX10_joinCells_284 0 rfl ?_
            refine Ev_getr 68 (91) dX10_joinCells_285 f_RX10_78 rfl sh_68 rfl ?_
            refine Ev_aload_n dX10_joinCells_288 0 rfl ?_
            refine Ev_geti 68 dX10_joinCells_289 f_RX10_324 rfl sh_68 ?_
            refine Ev_iload_n dX10_joinCells_292 1 rfl ?_
            obtain ⟨hb_17, h⟩ := h
            obtain ⟨s_18, es_18⟩ : ∃ z : Sg, z = (up s_16 91 ((s_16 68 24).toNat) v1_8) := ⟨_, rfl⟩
            replace h := h s_18 es_18
            refine Ev_iast (91) dX10_joinCells_293 rfl sh_91 hb_17 ?_
            rw [← es_18]
            refine Ev_aload_n dX10_joinCells_294 0 rfl ?_
            refine Ev_dup dX10_joinCells_295 (show ¬ (2 : Nat) = 1 by decide) ?_
            refine Ev_geti 68 dX10_joinCells_296 f_RX10_324 rfl sh_68 ?_
            refine Ev_iconst (v := 1) dX10_joinCells_299 rfl ⟨by decide, by decide⟩ ?_
            refine Ev_iadd dX10_joinCells_300 ?_
            obtain ⟨s_19, es_19⟩ : ∃ z : Sg, z = (up s_18 68 24 (w32 ((s_18 68 24) + 1))) := ⟨_, rfl⟩
            replace h := h s_19 es_19
            refine Ev_puti 68 dX10_joinCells_301 fp_RX10_324 rfl sh_68 ?_
            rw [← es_19]
            exact hK_13 _ h
          · replace h := h.2 hc
            refine Ev_aload_n dX10_joinCells_254 0 rfl ?_
            refine Ev_getr 68 (89) dX10_joinCells_255 f_RX10_72 rfl sh_68 rfl ?_
            refine Ev_iload_n dX10_joinCells_258 1 rfl ?_
            refine Ev_aload_n dX10_joinCells_259 0 rfl ?_
            refine Ev_getr 68 (89) dX10_joinCells_260 f_RX10_72 rfl sh_68 rfl ?_
            refine Ev_aload_n dX10_joinCells_263 0 rfl ?_
            refine Ev_getr 68 (89) dX10_joinCells_264 f_RX10_72 rfl sh_68 rfl ?_
            refine Ev_iload_n dX10_joinCells_267 1 rfl ?_
            obtain ⟨hb_20, h⟩ := h
            refine Ev_iald (89) dX10_joinCells_268 rfl sh_89 hb_20 ?_
            obtain ⟨hb_21, h⟩ := h
            refine Ev_iald (89) dX10_joinCells_269 rfl sh_89 hb_21 ?_
            obtain ⟨hb_22, h⟩ := h
            obtain ⟨s_23, es_23⟩ : ∃ z : Sg, z = (up s_9 89 (v1_8.toNat) (s_9 89 (s_9 89 v1_8.toNat).toNat)) := ⟨_, rfl⟩
            replace h := h s_23 es_23
            refine Ev_iast (89) dX10_joinCells_270 rfl sh_89 hb_22 ?_
            rw [← es_23]
            refine Ev_goto (tgt := 304) dX10_joinCells_271 (by decide) ?_
            exact hK_13 _ h
    · replace h := h.2 hc
      refine Ev_aload_n dX10_joinCells_33 0 rfl ?_
      refine Ev_getr 68 (85) dX10_joinCells_34 f_RX10_60 rfl sh_68 rfl ?_
      refine Ev_iload_n dX10_joinCells_37 1 rfl ?_
      refine Ev_iconst (v := 1) dX10_joinCells_38 rfl ⟨by decide, by decide⟩ ?_
      refine Ev_isub dX10_joinCells_39 ?_
      obtain ⟨hb_24, h⟩ := h
      refine Ev_iald (85) dX10_joinCells_40 rfl sh_85 hb_24 ?_
      obtain ⟨v2_25, ev2_25⟩ : ∃ z : Int, z = s_5 85 (w32 (v1_4 - 1)).toNat := ⟨_, rfl⟩
      replace h := h v2_25 ev2_25
      rw [← ev2_25]
      refine Ev_istore_n dX10_joinCells_41 (by decide) rfl ?_
      refine Ev_sub [1, 2, 0] rfl ?_
      refine li_1s (P := fun (v2_26 : Int) (s_27 : Sg) => Ev mX10_joinCells 3 42 [(0, (2, 68)), (1, (0, v1_4)), (2, (0, v2_26))] [] s_27 (poV post)) ?_ h
      intro again_28 v2_26 s_27 hagain_28 h
      refine Ev_iload_n dX10_joinCells_42 2 rfl ?_
      refine Ev_aload_n dX10_joinCells_43 0 rfl ?_
      refine Ev_getr 68 (85) dX10_joinCells_44 f_RX10_60 rfl sh_68 rfl ?_
      refine Ev_iload_n dX10_joinCells_47 1 rfl ?_
      obtain ⟨hb_29, h⟩ := h
      refine Ev_iald (85) dX10_joinCells_48 rfl sh_85 hb_29 ?_
      refine Ev_icmp_ge (tgt := 223) dX10_joinCells_49 (by decide) (fun hc => ?_) (fun hc => ?_)
      · replace h := h.1 hc
        obtain ⟨v1_30, ev1_30⟩ : ∃ z : Int, z = w32 (v1_4 + 1) := ⟨_, rfl⟩
        replace h := h v1_30 ev1_30
        refine Ev_iinc (v := v1_30) dX10_joinCells_223 1 rfl ev1_30.symm (by decide) rfl ?_
        refine Ev_goto (tgt := 25) dX10_joinCells_226 (by decide) ?_
        refine Ev_sub [1, 0] rfl ?_
        exact hagain_6 _ _ h
      · replace h := h.2 hc
        refine Ev_aload_n dX10_joinCells_52 0 rfl ?_
        refine Ev_getr 68 (85) dX10_joinCells_53 f_RX10_60 rfl sh_68 rfl ?_
        refine Ev_iload_n dX10_joinCells_56 1 rfl ?_
        obtain ⟨hb_31, h⟩ := h
        refine Ev_iald (85) dX10_joinCells_57 rfl sh_85 hb_31 ?_
        obtain ⟨v3_32, ev3_32⟩ : ∃ z : Int, z = s_27 85 v1_4.toNat := ⟨_, rfl⟩
        replace h := h v3_32 ev3_32
        rw [← ev3_32]
        refine Ev_istore_n dX10_joinCells_58 (by decide) rfl ?_
        refine Ev_sub [1, 2, 3, 0] rfl ?_
        refine li_1s (P := fun (v3_33 : Int) (s_34 : Sg) => Ev mX10_joinCells 3 59 [(0, (2, 68)), (1, (0, v1_4)), (2, (0, v2_26)), (3, (0, v3_33))] [] s_34 (poV post)) ?_ h
        intro again_35 v3_33 s_34 hagain_35 h
        refine Ev_iload_n dX10_joinCells_59 3 rfl ?_
        refine Ev_aload_n dX10_joinCells_60 0 rfl ?_
        refine Ev_getr 68 (85) dX10_joinCells_61 f_RX10_60 rfl sh_68 rfl ?_
        refine Ev_iload_n dX10_joinCells_64 1 rfl ?_
        refine Ev_iconst (v := 1) dX10_joinCells_65 rfl ⟨by decide, by decide⟩ ?_
        refine Ev_iadd dX10_joinCells_66 ?_
        obtain ⟨hb_36, h⟩ := h
        refine Ev_iald (85) dX10_joinCells_67 rfl sh_85 hb_36 ?_
        refine Ev_icmp_ge (tgt := 217) dX10_joinCells_68 (by decide) (fun hc => ?_) (fun hc => ?_)
        · replace h := h.1 hc
          obtain ⟨v2_37, ev2_37⟩ : ∃ z : Int, z = w32 (v2_26 + 1) := ⟨_, rfl⟩
          replace h := h v2_37 ev2_37
          refine Ev_iinc (v := v2_37) dX10_joinCells_217 2 rfl ev2_37.symm (by decide) rfl ?_
          refine Ev_goto (tgt := 42) dX10_joinCells_220 (by decide) ?_
          refine Ev_sub [1, 2, 0] rfl ?_
          exact hagain_28 _ _ h
        · replace h := h.2 hc
          refine Ev_aload_n dX10_joinCells_71 0 rfl ?_
          refine Ev_invV (d' := 0) [] 68 dX10_joinCells_72 M_X10_wide q_1211 (by decide) rfl rfl sh_68 rfl (Nat.le_of_ble_eq_true rfl) (k_X10_wide h) ?_
          rintro _ s_38 ⟨rfl, h⟩
          refine Ev_aload_n dX10_joinCells_75 0 rfl ?_
          refine Ev_iload_n dX10_joinCells_76 2 rfl ?_
          refine Ev_aload_n dX10_joinCells_77 0 rfl ?_
          refine Ev_getr 68 (83) dX10_joinCells_78 f_RX10_54 rfl sh_68 rfl ?_
          refine Ev_iload_n dX10_joinCells_81 1 rfl ?_
          obtain ⟨hb_39, h⟩ := h
          refine Ev_lald (83) dX10_joinCells_82 rfl sh_83 hb_39 ?_
          refine Ev_aload_n dX10_joinCells_83 0 rfl ?_
          refine Ev_getr 68 (84) dX10_joinCells_84 f_RX10_57 rfl sh_68 rfl ?_
          refine Ev_iload_n dX10_joinCells_87 1 rfl ?_
          obtain ⟨hb_40, h⟩ := h
          refine Ev_lald (84) dX10_joinCells_88 rfl sh_84 hb_40 ?_
          refine Ev_invV (d' := 2) [(0, v2_26), (1, s_38 83 v1_4.toNat), (1, s_38 84 v1_4.toNat)] 68 dX10_joinCells_89 M_X10_narrow q_1217 (by decide) rfl rfl sh_68 rfl (Nat.le_of_ble_eq_true rfl) (k_X10_narrow h) ?_
          rintro _ s_41 ⟨rfl, h⟩
          refine Ev_aload_n dX10_joinCells_92 0 rfl ?_
          refine Ev_iload_n dX10_joinCells_93 3 rfl ?_
          refine Ev_aload_n dX10_joinCells_94 0 rfl ?_
          refine Ev_getr 68 (83) dX10_joinCells_95 f_RX10_54 rfl sh_68 rfl ?_
          refine Ev_iload_n dX10_joinCells_98 1 rfl ?_
          obtain ⟨hb_42, h⟩ := h
          refine Ev_lald (83) dX10_joinCells_99 rfl sh_83 hb_42 ?_
          refine Ev_aload_n dX10_joinCells_100 0 rfl ?_
          refine Ev_getr 68 (84) dX10_joinCells_101 f_RX10_57 rfl sh_68 rfl ?_
          refine Ev_iload_n dX10_joinCells_104 1 rfl ?_
          obtain ⟨hb_43, h⟩ := h
          refine Ev_lald (84) dX10_joinCells_105 rfl sh_84 hb_43 ?_
          refine Ev_invV (d' := 2) [(0, v3_33), (1, s_41 83 v1_4.toNat), (1, s_41 84 v1_4.toNat)] 68 dX10_joinCells_106 M_X10_narrow q_1217 (by decide) rfl rfl sh_68 rfl (Nat.le_of_ble_eq_true rfl) (k_X10_narrow h) ?_
          rintro _ s_44 ⟨rfl, h⟩
          refine Ev_aload_n dX10_joinCells_109 0 rfl ?_
          refine Ev_invV (d' := 1) [] 68 dX10_joinCells_110 M_X10_isMoreThanOne q_1228 (by decide) rfl rfl sh_68 rfl (Nat.le_of_ble_eq_true rfl) (k_X10_isMoreThanOne h) ?_
          rintro _ _ ⟨rfl, r_45, rfl, h⟩
          refine jc_0s (P := fun (s_46 : Sg) => Ev mX10_joinCells 3 211 [(0, (2, 68)), (1, (0, v1_4)), (2, (0, v2_26)), (3, (0, v3_33))] [] s_46 (poV post)) h ?_ ?_
          · intro s_46 h
            obtain ⟨v3_48, ev3_48⟩ : ∃ z : Int, z = w32 (v3_33 + 1) := ⟨_, rfl⟩
            replace h := h v3_48 ev3_48
            refine Ev_iinc (v := v3_48) dX10_joinCells_211 3 rfl ev3_48.symm (by decide) rfl ?_
            refine Ev_goto (tgt := 59) dX10_joinCells_214 (by decide) ?_
            refine Ev_sub [1, 2, 3, 0] rfl ?_
            exact hagain_35 _ _ h
          · intro K_47 hK_47 h
            refine Ev_if_eq (tgt := 211) dX10_joinCells_113 (by decide) (fun hc => ?_) (fun hc => ?_)
            · replace h := h.1 hc
              exact hK_47 _ h
            · replace h := h.2 hc
              refine Ev_aload_n dX10_joinCells_116 0 rfl ?_
              refine Ev_aload_n dX10_joinCells_117 0 rfl ?_
              refine Ev_getr 68 (83) dX10_joinCells_118 f_RX10_54 rfl sh_68 rfl ?_
              refine Ev_iload_n dX10_joinCells_121 1 rfl ?_
              obtain ⟨hb_49, h⟩ := h
              refine Ev_lald (83) dX10_joinCells_122 rfl sh_83 hb_49 ?_
              refine Ev_aload_n dX10_joinCells_123 0 rfl ?_
              refine Ev_getr 68 (84) dX10_joinCells_124 f_RX10_57 rfl sh_68 rfl ?_
              refine Ev_iload_n dX10_joinCells_127 1 rfl ?_
              obtain ⟨hb_50, h⟩ := h
              refine Ev_lald (84) dX10_joinCells_128 rfl sh_84 hb_50 ?_
              refine Ev_invV (d' := 2) [(1, s_44 83 v1_4.toNat), (1, s_44 84 v1_4.toNat)] 68 dX10_joinCells_129 M_X10_isOpen q_1232 (by decide) rfl rfl sh_68 rfl (Nat.le_of_ble_eq_true rfl) (k_X10_isOpen h) ?_
              rintro _ _ ⟨rfl, r_51, rfl, h⟩
              refine Ev_if_ne (tgt := 138) dX10_joinCells_132 (by decide) (fun hc => ?_) (fun hc => ?_)
              · replace h := h.1 hc
                refine Ev_aload_n dX10_joinCells_138 0 rfl ?_
                refine Ev_getr 68 (89) dX10_joinCells_139 f_RX10_72 rfl sh_68 rfl ?_
                refine Ev_iload_n dX10_joinCells_142 2 rfl ?_
                obtain ⟨hb_52, h⟩ := h
                refine Ev_iald (89) dX10_joinCells_143 rfl sh_89 hb_52 ?_
                refine Ev_aload_n dX10_joinCells_144 0 rfl ?_
                refine Ev_getr 68 (89) dX10_joinCells_145 f_RX10_72 rfl sh_68 rfl ?_
                refine Ev_iload_n dX10_joinCells_148 3 rfl ?_
                obtain ⟨hb_53, h⟩ := h
                refine Ev_iald (89) dX10_joinCells_149 rfl sh_89 hb_53 ?_
                refine Ev_min dX10_joinCells_150 ⟨q_1121, q_505, q_12, q_506⟩ (by decide) (Nat.le_of_ble_eq_true rfl) ?_
                obtain ⟨v4_54, ev4_54⟩ : ∃ z : Int, z = (if s_44 89 v3_33.toNat < s_44 89 v2_26.toNat then s_44 89 v3_33.toNat else s_44 89 v2_26.toNat) := ⟨_, rfl⟩
                replace h := h v4_54 ev4_54
                rw [← ev4_54]
                refine Ev_istore dX10_joinCells_153 (by decide) rfl ?_
                refine Ev_aload_n dX10_joinCells_155 1 rfl ?_
                refine Ev_getr 68 (89) dX10_joinCells_156 f_RX10_72 rfl sh_68 rfl ?_
                refine Ev_iload_n dX10_joinCells_159 3 rfl ?_
                obtain ⟨hb_55, h⟩ := h
                refine Ev_iald (89) dX10_joinCells_160 rfl sh_89 hb_55 ?_
                refine Ev_aload_n dX10_joinCells_161 1 rfl ?_
                refine Ev_getr 68 (89) dX10_joinCells_162 f_RX10_72 rfl sh_68 rfl ?_
                refine Ev_iload_n dX10_joinCells_165 4 rfl ?_
                obtain ⟨hb_56, h⟩ := h
                refine Ev_iald (89) dX10_joinCells_166 rfl sh_89 hb_56 ?_
                refine Ev_max dX10_joinCells_167 ⟨q_1122, q_508, q_12, q_509⟩ (by decide) (Nat.le_of_ble_eq_true rfl) ?_
                obtain ⟨v5_57, ev5_57⟩ : ∃ z : Int, z = (if s_44 89 v2_26.toNat < s_44 89 v3_33.toNat then s_44 89 v3_33.toNat else s_44 89 v2_26.toNat) := ⟨_, rfl⟩
                replace h := h v5_57 ev5_57
                rw [← ev5_57]
                refine Ev_istore dX10_joinCells_170 (by decide) rfl ?_
                refine Ev_iconst (v := 0) dX10_joinCells_172 rfl ⟨by decide, by decide⟩ ?_
                refine Ev_istore dX10_joinCells_173 (by decide) rfl ?_
                refine Ev_sub [3, 4, 5, 6, 2, 1, 0] rfl ?_
                refine li_1s (P := fun (v6_58 : Int) (s_59 : Sg) => Ev mX10_joinCells 3 175 [(0, (2, 68)), (1, (0, v1_4)), (2, (0, v2_26)), (3, (0, v3_33)), (4, (0, v4_54)), (5, (0, v5_57)), (6, (0, v6_58))] [] s_59 (poV post)) ?_ h
                intro again_60 v6_58 s_59 hagain_60 h
                refine Ev_iload dX10_joinCells_175 6 rfl ?_
                refine Ev_aload_n dX10_joinCells_177 0 rfl ?_
                refine Ev_geti 68 dX10_joinCells_178 f_RX10_267 rfl sh_68 ?_
                refine Ev_icmp_ge (tgt := 211) dX10_joinCells_181 (by decide) (fun hc => ?_) (fun hc => ?_)
                · replace h := h.1 hc
                  refine Ev_sub [0, 1, 2, 3] rfl ?_
                  exact hK_47 _ h
                · replace h := h.2 hc
                  refine Ev_aload_n dX10_joinCells_184 0 rfl ?_
                  refine Ev_getr 68 (89) dX10_joinCells_185 f_RX10_72 rfl sh_68 rfl ?_
                  refine Ev_iload dX10_joinCells_188 6 rfl ?_
                  obtain ⟨hb_61, h⟩ := h
                  refine Ev_iald (89) dX10_joinCells_190 rfl sh_89 hb_61 ?_
                  refine Ev_iload dX10_joinCells_191 5 rfl ?_
                  refine jc_0s (P := fun (s_62 : Sg) => Ev mX10_joinCells 3 205 [(0, (2, 68)), (1, (0, v1_4)), (2, (0, v2_26)), (3, (0, v3_33)), (4, (0, v4_54)), (5, (0, v5_57)), (6, (0, v6_58))] [] s_62 (poV post)) h ?_ ?_
                  · intro s_62 h
                    obtain ⟨v6_64, ev6_64⟩ : ∃ z : Int, z = w32 (v6_58 + 1) := ⟨_, rfl⟩
                    replace h := h v6_64 ev6_64
                    refine Ev_iinc (v := v6_64) dX10_joinCells_205 6 rfl ev6_64.symm (by decide) rfl ?_
                    refine Ev_goto (tgt := 175) dX10_joinCells_208 (by decide) ?_
                    refine Ev_sub [1, 2, 3, 4, 5, 6, 0] rfl ?_
                    exact hagain_60 _ _ h
                  · intro K_63 hK_63 h
                    refine Ev_icmp_ne (tgt := 205) dX10_joinCells_193 (by decide) (fun hc => ?_) (fun hc => ?_)
                    · replace h := h.1 hc
                      exact hK_63 _ h
                    · replace h := h.2 hc
                      refine Ev_aload_n dX10_joinCells_196 0 rfl ?_
                      refine Ev_getr 68 (89) dX10_joinCells_197 f_RX10_72 rfl sh_68 rfl ?_
                      refine Ev_iload dX10_joinCells_200 6 rfl ?_
                      refine Ev_iload dX10_joinCells_202 4 rfl ?_
                      obtain ⟨hb_65, h⟩ := h
                      obtain ⟨s_66, es_66⟩ : ∃ z : Sg, z = (up s_59 89 (v6_58.toNat) v4_54) := ⟨_, rfl⟩
                      replace h := h s_66 es_66
                      refine Ev_iast (89) dX10_joinCells_204 rfl sh_89 hb_65 ?_
                      rw [← es_66]
                      exact hK_63 _ h
              · replace h := h.2 hc
                refine Ev_goto (tgt := 211) dX10_joinCells_135 (by decide) ?_
                exact hK_47 _ h
  · replace h := h.2 hc
    refine Ev_aload_n dX10_joinCells_10 0 rfl ?_
    refine Ev_getr 68 (89) dX10_joinCells_11 f_RX10_72 rfl sh_68 rfl ?_
    refine Ev_iload_n dX10_joinCells_14 1 rfl ?_
    refine Ev_iload_n dX10_joinCells_15 1 rfl ?_
    obtain ⟨hb_67, h⟩ := h
    obtain ⟨s_68, es_68⟩ : ∃ z : Sg, z = (up s_2 89 (v1_1.toNat) v1_1) := ⟨_, rfl⟩
    replace h := h s_68 es_68
    refine Ev_iast (89) dX10_joinCells_16 rfl sh_89 hb_67 ?_
    rw [← es_68]
    obtain ⟨v1_69, ev1_69⟩ : ∃ z : Int, z = w32 (v1_1 + 1) := ⟨_, rfl⟩
    replace h := h v1_69 ev1_69
    refine Ev_iinc (v := v1_69) dX10_joinCells_17 1 rfl ev1_69.symm (by decide) rfl ?_
    refine Ev_goto (tgt := 2) dX10_joinCells_20 (by decide) ?_
    refine Ev_sub [1, 0] rfl ?_
    exact hagain_3 _ _ h
theorem k_X10_tellSheet {s : Sg} {post : Sg → Prop} (h : w_X10_tellSheet s post) : EvM mX10_tellSheet 104 [(2, 68)] s (poV post) := by
  refine EvM_of rfl (by decide +kernel) (Nat.le_of_ble_eq_true rfl) ?_
  unfold w_X10_tellSheet at h
  show Ev mX10_tellSheet 104 0 [(0, (2, 68))] [] s (poV post)
  refine Ev_aload_n dX10_tellSheet_0 0 rfl ?_
  refine Ev_invV (d' := 103) [] 68 dX10_tellSheet_1 M_X10_tellPoints q_1094 (by decide) rfl rfl sh_68 rfl (Nat.le_of_ble_eq_true rfl) (k_X10_tellPoints h) ?_
  rintro _ s_1 ⟨rfl, h⟩
  refine Ev_aload_n dX10_tellSheet_4 0 rfl ?_
  refine Ev_iconst (v := 1) dX10_tellSheet_5 rfl ⟨by decide, by decide⟩ ?_
  obtain ⟨s_2, es_2⟩ : ∃ z : Sg, z = (up s_1 68 22 1) := ⟨_, rfl⟩
  replace h := h s_2 es_2
  refine Ev_puti 68 dX10_tellSheet_6 fp_RX10_278 rfl sh_68 ?_
  rw [← es_2]
  refine Ev_iconst (v := 0) dX10_tellSheet_9 rfl ⟨by decide, by decide⟩ ?_
  refine Ev_istore_n dX10_tellSheet_10 (by decide) rfl ?_
  refine Ev_sub [1, 0] rfl ?_
  refine li_1s (P := fun (v1_3 : Int) (s_4 : Sg) => Ev mX10_tellSheet 104 11 [(0, (2, 68)), (1, (0, v1_3))] [] s_4 (poV post)) ?_ h
  intro again_5 v1_3 s_4 hagain_5 h
  refine Ev_iload_n dX10_tellSheet_11 1 rfl ?_
  refine Ev_aload_n dX10_tellSheet_12 0 rfl ?_
  refine Ev_geti 68 dX10_tellSheet_13 f_RX10_176 rfl sh_68 ?_
  refine Ev_icmp_ge (tgt := 106) dX10_tellSheet_16 (by decide) (fun hc => ?_) (fun hc => ?_)
  · replace h := h.1 hc
    refine Ev_aload_n dX10_tellSheet_106 0 rfl ?_
    refine Ev_iconst (v := 0) dX10_tellSheet_107 rfl ⟨by decide, by decide⟩ ?_
    obtain ⟨s_6, es_6⟩ : ∃ z : Sg, z = (up s_4 68 23 0) := ⟨_, rfl⟩
    replace h := h s_6 es_6
    refine Ev_puti 68 dX10_tellSheet_108 fp_RX10_267 rfl sh_68 ?_
    rw [← es_6]
    refine Ev_iconst (v := 0) dX10_tellSheet_111 rfl ⟨by decide, by decide⟩ ?_
    refine Ev_istore_n dX10_tellSheet_112 (by decide) rfl ?_
    refine Ev_sub [1, 0] rfl ?_
    refine li_1s (P := fun (v1_7 : Int) (s_8 : Sg) => Ev mX10_tellSheet 104 113 [(0, (2, 68)), (1, (0, v1_7))] [] s_8 (poV post)) ?_ h
    intro again_9 v1_7 s_8 hagain_9 h
    refine Ev_iload_n dX10_tellSheet_113 1 rfl ?_
    refine Ev_aload_n dX10_tellSheet_114 0 rfl ?_
    refine Ev_geti 68 dX10_tellSheet_115 f_RX10_278 rfl sh_68 ?_
    refine Ev_icmp_ge (tgt := 166) dX10_tellSheet_118 (by decide) (fun hc => ?_) (fun hc => ?_)
    · replace h := h.1 hc
      refine Ev_aload_n dX10_tellSheet_166 0 rfl ?_
      refine Ev_getr 68 (85) dX10_tellSheet_167 f_RX10_60 rfl sh_68 rfl ?_
      refine Ev_aload_n dX10_tellSheet_170 0 rfl ?_
      refine Ev_geti 68 dX10_tellSheet_171 f_RX10_278 rfl sh_68 ?_
      refine Ev_aload_n dX10_tellSheet_174 0 rfl ?_
      refine Ev_geti 68 dX10_tellSheet_175 f_RX10_267 rfl sh_68 ?_
      obtain ⟨hb_10, h⟩ := h
      obtain ⟨s_11, es_11⟩ : ∃ z : Sg, z = (up s_8 85 ((s_8 68 22).toNat) (s_8 68 23)) := ⟨_, rfl⟩
      replace h := h s_11 es_11
      refine Ev_iast (85) dX10_tellSheet_178 rfl sh_85 hb_10 ?_
      rw [← es_11]
      refine Ev_aload_n dX10_tellSheet_179 0 rfl ?_
      refine Ev_invV (d' := 3) [] 68 dX10_tellSheet_180 M_X10_joinCells q_1207 (by decide) rfl rfl sh_68 rfl (Nat.le_of_ble_eq_true rfl) (k_X10_joinCells h) ?_
      rintro _ s_12 ⟨rfl, h⟩
      exact Ev_retv dX10_tellSheet_183 rfl (poV_mk h)
    · replace h := h.2 hc
      refine Ev_aload_n dX10_tellSheet_121 0 rfl ?_
      refine Ev_getr 68 (85) dX10_tellSheet_122 f_RX10_60 rfl sh_68 rfl ?_
      refine Ev_iload_n dX10_tellSheet_125 1 rfl ?_
      refine Ev_aload_n dX10_tellSheet_126 0 rfl ?_
      refine Ev_geti 68 dX10_tellSheet_127 f_RX10_267 rfl sh_68 ?_
      obtain ⟨hb_13, h⟩ := h
      obtain ⟨s_14, es_14⟩ : ∃ z : Sg, z = (up s_8 85 (v1_7.toNat) (s_8 68 23)) := ⟨_, rfl⟩
      replace h := h s_14 es_14
      refine Ev_iast (85) dX10_tellSheet_130 rfl sh_85 hb_13 ?_
      rw [← es_14]
      refine Ev_iload_n dX10_tellSheet_131 1 rfl ?_
      refine jc_0s (P := fun (s_15 : Sg) => Ev mX10_tellSheet 104 160 [(0, (2, 68)), (1, (0, v1_7))] [] s_15 (poV post)) h ?_ ?_
      · intro s_15 h
        obtain ⟨v1_17, ev1_17⟩ : ∃ z : Int, z = w32 (v1_7 + 1) := ⟨_, rfl⟩
        replace h := h v1_17 ev1_17
        refine Ev_iinc (v := v1_17) dX10_tellSheet_160 1 rfl ev1_17.symm (by decide) rfl ?_
        refine Ev_goto (tgt := 113) dX10_tellSheet_163 (by decide) ?_
        refine Ev_sub [1, 0] rfl ?_
        exact hagain_9 _ _ h
      · intro K_16 hK_16 h
        refine jc_0 (P := Ev mX10_tellSheet 104 145 [(0, (2, 68)), (1, (0, v1_7))] [] s_14 (poV post)) h ?_ ?_
        · intro  h
          refine Ev_aload_n dX10_tellSheet_145 0 rfl ?_
          refine Ev_iload_n dX10_tellSheet_146 1 rfl ?_
          refine Ev_iconst (v := 0) dX10_tellSheet_147 rfl ⟨by decide, by decide⟩ ?_
          refine Ev_iconst (v := 0) dX10_tellSheet_148 rfl ⟨by decide, by decide⟩ ?_
          refine Ev_invV (d' := 0) [(0, v1_7), (0, 0), (0, 0)] 68 dX10_tellSheet_149 M_X10_addCell q_1195 (by decide) rfl rfl sh_68 rfl (Nat.le_of_ble_eq_true rfl) (k_X10_addCell h) ?_
          rintro _ s_19 ⟨rfl, h⟩
          refine Ev_goto (tgt := 160) dX10_tellSheet_152 (by decide) ?_
          exact hK_16 _ h
        · intro K_18 hK_18 h
          refine Ev_if_eq (tgt := 145) dX10_tellSheet_132 (by decide) (fun hc => ?_) (fun hc => ?_)
          · replace h := h.1 hc
            exact hK_18 h
          · replace h := h.2 hc
            refine Ev_iload_n dX10_tellSheet_135 1 rfl ?_
            refine Ev_aload_n dX10_tellSheet_136 0 rfl ?_
            refine Ev_geti 68 dX10_tellSheet_137 f_RX10_278 rfl sh_68 ?_
            refine Ev_iconst (v := 1) dX10_tellSheet_140 rfl ⟨by decide, by decide⟩ ?_
            refine Ev_isub dX10_tellSheet_141 ?_
            refine Ev_icmp_ne (tgt := 155) dX10_tellSheet_142 (by decide) (fun hc => ?_) (fun hc => ?_)
            · replace h := h.1 hc
              refine Ev_aload_n dX10_tellSheet_155 0 rfl ?_
              refine Ev_iload_n dX10_tellSheet_156 1 rfl ?_
              refine Ev_invV (d' := 2) [(0, v1_7)] 68 dX10_tellSheet_157 M_X10_cut q_1199 (by decide) rfl rfl sh_68 rfl (Nat.le_of_ble_eq_true rfl) (k_X10_cut h) ?_
              rintro _ s_20 ⟨rfl, h⟩
              exact hK_16 _ h
            · replace h := h.2 hc
              exact hK_18 h
  · replace h := h.2 hc
    refine Ev_iload_n dX10_tellSheet_19 1 rfl ?_
    refine jc_0s (P := fun (s_21 : Sg) => Ev mX10_tellSheet 104 100 [(0, (2, 68)), (1, (0, v1_3))] [] s_21 (poV post)) h ?_ ?_
    · intro s_21 h
      obtain ⟨v1_23, ev1_23⟩ : ∃ z : Int, z = w32 (v1_3 + 1) := ⟨_, rfl⟩
      replace h := h v1_23 ev1_23
      refine Ev_iinc (v := v1_23) dX10_tellSheet_100 1 rfl ev1_23.symm (by decide) rfl ?_
      refine Ev_goto (tgt := 11) dX10_tellSheet_103 (by decide) ?_
      refine Ev_sub [1, 0] rfl ?_
      exact hagain_5 _ _ h
    · intro K_22 hK_22 h
      refine jc_0 (P := Ev mX10_tellSheet 104 60 [(0, (2, 68)), (1, (0, v1_3))] [] s_4 (poV post)) h ?_ ?_
      · intro  h
        refine Ev_aload_n dX10_tellSheet_60 0 rfl ?_
        refine Ev_getr 68 (83) dX10_tellSheet_61 f_RX10_54 rfl sh_68 rfl ?_
        refine Ev_aload_n dX10_tellSheet_64 0 rfl ?_
        refine Ev_geti 68 dX10_tellSheet_65 f_RX10_278 rfl sh_68 ?_
        refine Ev_aload_n dX10_tellSheet_68 0 rfl ?_
        refine Ev_getr 68 (73) dX10_tellSheet_69 f_RX10_22 rfl sh_68 rfl ?_
        refine Ev_iload_n dX10_tellSheet_72 1 rfl ?_
        obtain ⟨hb_25, h⟩ := h
        refine Ev_lald (73) dX10_tellSheet_73 rfl sh_73 hb_25 ?_
        obtain ⟨hb_26, h⟩ := h
        obtain ⟨s_27, es_27⟩ : ∃ z : Sg, z = (up s_4 83 ((s_4 68 22).toNat) (s_4 73 v1_3.toNat)) := ⟨_, rfl⟩
        replace h := h s_27 es_27
        refine Ev_last (83) dX10_tellSheet_74 rfl sh_83 hb_26 ?_
        rw [← es_27]
        refine Ev_aload_n dX10_tellSheet_75 0 rfl ?_
        refine Ev_getr 68 (84) dX10_tellSheet_76 f_RX10_57 rfl sh_68 rfl ?_
        refine Ev_aload_n dX10_tellSheet_79 0 rfl ?_
        refine Ev_geti 68 dX10_tellSheet_80 f_RX10_278 rfl sh_68 ?_
        refine Ev_aload_n dX10_tellSheet_83 0 rfl ?_
        refine Ev_getr 68 (74) dX10_tellSheet_84 f_RX10_26 rfl sh_68 rfl ?_
        refine Ev_iload_n dX10_tellSheet_87 1 rfl ?_
        obtain ⟨hb_28, h⟩ := h
        refine Ev_lald (74) dX10_tellSheet_88 rfl sh_74 hb_28 ?_
        obtain ⟨hb_29, h⟩ := h
        obtain ⟨s_30, es_30⟩ : ∃ z : Sg, z = (up s_27 84 ((s_27 68 22).toNat) (s_27 74 v1_3.toNat)) := ⟨_, rfl⟩
        replace h := h s_30 es_30
        refine Ev_last (84) dX10_tellSheet_89 rfl sh_84 hb_29 ?_
        rw [← es_30]
        refine Ev_aload_n dX10_tellSheet_90 0 rfl ?_
        refine Ev_dup dX10_tellSheet_91 (show ¬ (2 : Nat) = 1 by decide) ?_
        refine Ev_geti 68 dX10_tellSheet_92 f_RX10_278 rfl sh_68 ?_
        refine Ev_iconst (v := 1) dX10_tellSheet_95 rfl ⟨by decide, by decide⟩ ?_
        refine Ev_iadd dX10_tellSheet_96 ?_
        obtain ⟨s_31, es_31⟩ : ∃ z : Sg, z = (up s_30 68 22 (w32 ((s_30 68 22) + 1))) := ⟨_, rfl⟩
        replace h := h s_31 es_31
        refine Ev_puti 68 dX10_tellSheet_97 fp_RX10_278 rfl sh_68 ?_
        rw [← es_31]
        exact hK_22 _ h
      · intro K_24 hK_24 h
        refine Ev_if_le (tgt := 60) dX10_tellSheet_20 (by decide) (fun hc => ?_) (fun hc => ?_)
        · replace h := h.1 hc
          exact hK_24 h
        · replace h := h.2 hc
          refine Ev_aload_n dX10_tellSheet_23 0 rfl ?_
          refine Ev_getr 68 (73) dX10_tellSheet_24 f_RX10_22 rfl sh_68 rfl ?_
          refine Ev_iload_n dX10_tellSheet_27 1 rfl ?_
          obtain ⟨hb_32, h⟩ := h
          refine Ev_lald (73) dX10_tellSheet_28 rfl sh_73 hb_32 ?_
          refine Ev_aload_n dX10_tellSheet_29 0 rfl ?_
          refine Ev_getr 68 (74) dX10_tellSheet_30 f_RX10_26 rfl sh_68 rfl ?_
          refine Ev_iload_n dX10_tellSheet_33 1 rfl ?_
          obtain ⟨hb_33, h⟩ := h
          refine Ev_lald (74) dX10_tellSheet_34 rfl sh_74 hb_33 ?_
          refine Ev_aload_n dX10_tellSheet_35 0 rfl ?_
          refine Ev_getr 68 (73) dX10_tellSheet_36 f_RX10_22 rfl sh_68 rfl ?_
          refine Ev_iload_n dX10_tellSheet_39 1 rfl ?_
          refine Ev_iconst (v := 1) dX10_tellSheet_40 rfl ⟨by decide, by decide⟩ ?_
          refine Ev_isub dX10_tellSheet_41 ?_
          obtain ⟨hb_34, h⟩ := h
          refine Ev_lald (73) dX10_tellSheet_42 rfl sh_73 hb_34 ?_
          refine Ev_aload_n dX10_tellSheet_43 0 rfl ?_
          refine Ev_getr 68 (74) dX10_tellSheet_44 f_RX10_26 rfl sh_68 rfl ?_
          refine Ev_iload_n dX10_tellSheet_47 1 rfl ?_
          refine Ev_iconst (v := 1) dX10_tellSheet_48 rfl ⟨by decide, by decide⟩ ?_
          refine Ev_isub dX10_tellSheet_49 ?_
          obtain ⟨hb_35, h⟩ := h
          refine Ev_lald (74) dX10_tellSheet_50 rfl sh_74 hb_35 ?_
          refine Ev_invS (d' := 0) [(1, s_4 73 v1_3.toNat), (1, s_4 74 v1_3.toNat), (1, s_4 73 (w32 (v1_3 - 1)).toNat), (1, s_4 74 (w32 (v1_3 - 1)).toNat)] dX10_tellSheet_51 M_X10_against (Or.inl q_1106) (by decide) rfl (Nat.le_of_ble_eq_true rfl) (k_X10_against h) ?_
          rintro _ _ ⟨rfl, r_36, rfl, h⟩
          refine Ev_if_ne (tgt := 60) dX10_tellSheet_54 (by decide) (fun hc => ?_) (fun hc => ?_)
          · replace h := h.1 hc
            exact hK_24 h
          · replace h := h.2 hc
            refine Ev_goto (tgt := 100) dX10_tellSheet_57 (by decide) ?_
            exact hK_22 _ h
theorem k_X10_facesNow {s : Sg} {post : Int → Sg → Prop} (h : w_X10_facesNow s post) : EvM mX10_facesNow 105 [(2, 68)] s (poIs 0 post) := by
  refine EvM_of rfl (by decide +kernel) (Nat.le_of_ble_eq_true rfl) ?_
  unfold w_X10_facesNow at h
  show Ev mX10_facesNow 105 0 [(0, (2, 68))] [] s (poIs 0 post)
  refine Ev_aload_n dX10_facesNow_0 0 rfl ?_
  refine Ev_invV (d' := 104) [] 68 dX10_facesNow_1 M_X10_tellSheet q_1191 (by decide) rfl rfl sh_68 rfl (Nat.le_of_ble_eq_true rfl) (k_X10_tellSheet h) ?_
  rintro _ s_1 ⟨rfl, h⟩
  refine Ev_aload_n dX10_facesNow_4 0 rfl ?_
  refine Ev_geti 68 dX10_facesNow_5 f_RX10_324 rfl sh_68 ?_
  exact Ev_ret dX10_facesNow_8 trivial (poIs_mk h)
theorem k_X10_byLot {s : Sg} {v1 v2 : Int} {post : Int → Sg → Prop} (h : w_X10_byLot s v1 v2 post) : EvM mX10_byLot 106 [(2, 68), (0, v1), (0, v2)] s (poIs 0 post) := by
  refine EvM_of rfl (by decide +kernel) (Nat.le_of_ble_eq_true rfl) ?_
  unfold w_X10_byLot at h
  show Ev mX10_byLot 106 0 [(0, (2, 68)), (1, (0, v1)), (2, (0, v2))] [] s (poIs 0 post)
  refine Ev_aload_n dX10_byLot_0 0 rfl ?_
  refine Ev_iconst (v := 0) dX10_byLot_1 rfl ⟨by decide, by decide⟩ ?_
  refine Ev_invV (d' := 2) [(0, 0)] 68 dX10_byLot_2 M_X10_keep q_1307 (by decide) rfl rfl sh_68 rfl (Nat.le_of_ble_eq_true rfl) (k_X10_keep h) ?_
  rintro _ s_1 ⟨rfl, h⟩
  refine Ev_aload_n dX10_byLot_5 0 rfl ?_
  refine Ev_iload_n dX10_byLot_6 1 rfl ?_
  obtain ⟨s_2, es_2⟩ : ∃ z : Sg, z = (up s_1 68 42 v1) := ⟨_, rfl⟩
  replace h := h s_2 es_2
  refine Ev_puti 68 dX10_byLot_7 fp_RX10_379 rfl sh_68 ?_
  rw [← es_2]
  refine Ev_iconst (v := 0) dX10_byLot_10 rfl ⟨by decide, by decide⟩ ?_
  refine Ev_istore_n dX10_byLot_11 (by decide) rfl ?_
  refine Ev_sub [1, 3, 0] rfl ?_
  refine li_1s (P := fun (v3_3 : Int) (s_4 : Sg) => Ev mX10_byLot 106 12 [(0, (2, 68)), (2, (0, v2)), (3, (0, v3_3))] [] s_4 (poIs 0 post)) ?_ h
  intro again_5 v3_3 s_4 hagain_5 h
  refine Ev_iload_n dX10_byLot_12 2 rfl ?_
  refine Ev_iload_n dX10_byLot_13 1 rfl ?_
  refine Ev_icmp_ge (tgt := 57) dX10_byLot_14 (by decide) (fun hc => ?_) (fun hc => ?_)
  · replace h := h.1 hc
    refine Ev_aload_n dX10_byLot_57 0 rfl ?_
    refine Ev_invV (d' := 105) [] 68 dX10_byLot_58 M_X10_facesNow q_1316 (by decide) rfl rfl sh_68 rfl (Nat.le_of_ble_eq_true rfl) (k_X10_facesNow h) ?_
    rintro _ s_7 ⟨r_6, rfl, h⟩
    refine Ev_istore_n dX10_byLot_61 (by decide) rfl ?_
    refine Ev_aload_n dX10_byLot_62 1 rfl ?_
    refine Ev_iconst (v := 0) dX10_byLot_63 rfl ⟨by decide, by decide⟩ ?_
    refine Ev_invV (d' := 2) [(0, 0)] 68 dX10_byLot_64 M_X10_layBack q_1320 (by decide) rfl rfl sh_68 rfl (Nat.le_of_ble_eq_true rfl) (k_X10_layBack h) ?_
    rintro _ s_8 ⟨rfl, h⟩
    refine Ev_iload_n dX10_byLot_67 0 rfl ?_
    exact Ev_ret dX10_byLot_68 trivial (poIs_mk h)
  · replace h := h.2 hc
    refine Ev_aload_n dX10_byLot_17 0 rfl ?_
    refine Ev_invV (d' := 0) [] 68 dX10_byLot_18 M_X10_draw q_1336 (by decide) rfl rfl sh_68 rfl (Nat.le_of_ble_eq_true rfl) (k_X10_draw h) ?_
    rintro _ s_10 ⟨r_9, rfl, h⟩
    refine Ev_istore dX10_byLot_21 (by decide) rfl ?_
    refine Ev_aload_n dX10_byLot_23 1 rfl ?_
    refine Ev_invV (d' := 0) [] 68 dX10_byLot_24 M_X10_draw q_1336 (by decide) rfl rfl sh_68 rfl (Nat.le_of_ble_eq_true rfl) (k_X10_draw h) ?_
    rintro _ s_12 ⟨r_11, rfl, h⟩
    refine Ev_istore dX10_byLot_27 (by decide) rfl ?_
    refine Ev_aload_n dX10_byLot_29 2 rfl ?_
    refine Ev_invV (d' := 0) [] 68 dX10_byLot_30 M_X10_draw q_1336 (by decide) rfl rfl sh_68 rfl (Nat.le_of_ble_eq_true rfl) (k_X10_draw h) ?_
    rintro _ s_14 ⟨r_13, rfl, h⟩
    refine Ev_istore dX10_byLot_33 (by decide) rfl ?_
    refine Ev_aload_n dX10_byLot_35 3 rfl ?_
    refine Ev_iload dX10_byLot_36 2 rfl ?_
    refine Ev_iload dX10_byLot_38 1 rfl ?_
    refine Ev_iload dX10_byLot_40 0 rfl ?_
    refine Ev_aload_n dX10_byLot_42 3 rfl ?_
    refine Ev_invV (d' := 0) [] 68 dX10_byLot_43 M_X10_draw q_1336 (by decide) rfl rfl sh_68 rfl (Nat.le_of_ble_eq_true rfl) (k_X10_draw h) ?_
    rintro _ s_16 ⟨r_15, rfl, h⟩
    refine Ev_invV (d' := 2) [(0, r_9), (0, r_11), (0, r_13), (0, r_15)] 68 dX10_byLot_46 M_X10_line q_1341 (by decide) rfl rfl sh_68 rfl (Nat.le_of_ble_eq_true rfl) (k_X10_line h) ?_
    rintro _ s_18 ⟨r_17, rfl, h⟩
    refine Ev_istore dX10_byLot_49 (by decide) rfl ?_
    obtain ⟨v3_19, ev3_19⟩ : ∃ z : Int, z = w32 (v3_3 + 1) := ⟨_, rfl⟩
    replace h := h v3_19 ev3_19
    refine Ev_iinc (v := v3_19) dX10_byLot_51 6 rfl ev3_19.symm (by decide) rfl ?_
    refine Ev_goto (tgt := 12) dX10_byLot_54 (by decide) ?_
    refine Ev_sub [5, 6, 0] rfl ?_
    exact hagain_5 _ _ h
theorem k_X10_cell {s : Sg} {v1 v2 : Int} {post : Int → Sg → Prop} (h : w_X10_cell s v1 v2 post) : EvM mX10_cell 105 [(2, 68), (0, v1), (0, v2)] s (poIs 0 post) := by
  refine EvM_of rfl (by decide +kernel) (Nat.le_of_ble_eq_true rfl) ?_
  unfold w_X10_cell at h
  show Ev mX10_cell 105 0 [(0, (2, 68)), (1, (0, v1)), (2, (0, v2))] [] s (poIs 0 post)
  refine Ev_iload_n dX10_cell_0 2 rfl ?_
  refine Ev_iconst (v := 0) dX10_cell_1 rfl ⟨by decide, by decide⟩ ?_
  refine Ev_iconst (v := 3) dX10_cell_2 rfl ⟨by decide, by decide⟩ ?_
  refine Ev_invS (d' := 0) [(0, v2), (0, 0), (0, 3)] dX10_cell_3 M_X10_in (Or.inl q_1039) (by decide) rfl (Nat.le_of_ble_eq_true rfl) (k_X10_in h) ?_
  rintro _ _ ⟨rfl, r_1, rfl, h⟩
  refine Ev_if_ne (tgt := 12) dX10_cell_6 (by decide) (fun hc => ?_) (fun hc => ?_)
  · replace h := h.1 hc
    refine Ev_aload_n dX10_cell_12 0 rfl ?_
    refine Ev_invV (d' := 104) [] 68 dX10_cell_13 M_X10_tellSheet q_1191 (by decide) rfl rfl sh_68 rfl (Nat.le_of_ble_eq_true rfl) (k_X10_tellSheet h) ?_
    rintro _ s_2 ⟨rfl, h⟩
    refine Ev_iload_n dX10_cell_16 1 rfl ?_
    refine Ev_iconst (v := 0) dX10_cell_17 rfl ⟨by decide, by decide⟩ ?_
    refine Ev_aload_n dX10_cell_18 0 rfl ?_
    refine Ev_geti 68 dX10_cell_19 f_RX10_267 rfl sh_68 ?_
    refine Ev_iconst (v := 1) dX10_cell_22 rfl ⟨by decide, by decide⟩ ?_
    refine Ev_isub dX10_cell_23 ?_
    refine Ev_invS (d' := 0) [(0, v1), (0, 0), (0, w32 ((s_2 68 23) - 1))] dX10_cell_24 M_X10_in (Or.inl q_1039) (by decide) rfl (Nat.le_of_ble_eq_true rfl) (k_X10_in h) ?_
    rintro _ _ ⟨rfl, r_3, rfl, h⟩
    refine Ev_if_ne (tgt := 33) dX10_cell_27 (by decide) (fun hc => ?_) (fun hc => ?_)
    · replace h := h.1 hc
      refine Ev_iload_n dX10_cell_33 2 rfl ?_
      refine jc_1 (P := fun (t_4 : Int) => Ev mX10_cell 105 83 [] [(0, t_4)] s_2 (poIs 0 post)) h ?_ ?_
      · intro t_4 h
        exact Ev_ret dX10_cell_83 trivial (poIs_mk h)
      · intro K_5 hK_5 h
        refine Ev_if_ne (tgt := 46) dX10_cell_34 (by decide) (fun hc => ?_) (fun hc => ?_)
        · replace h := h.1 hc
          refine Ev_iload_n dX10_cell_46 2 rfl ?_
          refine Ev_iconst (v := 1) dX10_cell_47 rfl ⟨by decide, by decide⟩ ?_
          refine Ev_icmp_ne (tgt := 60) dX10_cell_48 (by decide) (fun hc => ?_) (fun hc => ?_)
          · replace h := h.1 hc
            refine Ev_iload_n dX10_cell_60 2 rfl ?_
            refine Ev_iconst (v := 2) dX10_cell_61 rfl ⟨by decide, by decide⟩ ?_
            refine jc_1 (P := fun (t_6 : Int) => Ev mX10_cell 105 80 [] [(0, t_6)] s_2 (poIs 0 post)) h ?_ ?_
            · intro t_6 h
              refine Ev_invS (d' := 1) [(0, t_6)] dX10_cell_80 M_X10_leastOf (Or.inl q_1221) (by decide) rfl (Nat.le_of_ble_eq_true rfl) (k_X10_leastOf h) ?_
              rintro _ _ ⟨rfl, r_8, rfl, h⟩
              exact hK_5 _ h
            · intro K_7 hK_7 h
              refine Ev_icmp_ne (tgt := 74) dX10_cell_62 (by decide) (fun hc => ?_) (fun hc => ?_)
              · replace h := h.1 hc
                refine Ev_aload_n dX10_cell_74 0 rfl ?_
                refine Ev_getr 68 (88) dX10_cell_75 f_RX10_69 rfl sh_68 rfl ?_
                refine Ev_iload_n dX10_cell_78 1 rfl ?_
                obtain ⟨hb_9, h⟩ := h
                refine Ev_iald (88) dX10_cell_79 rfl sh_88 hb_9 ?_
                refine Ev_sub [] rfl ?_
                exact hK_7 _ h
              · replace h := h.2 hc
                refine Ev_aload_n dX10_cell_65 0 rfl ?_
                refine Ev_getr 68 (87) dX10_cell_66 f_RX10_66 rfl sh_68 rfl ?_
                refine Ev_iload_n dX10_cell_69 1 rfl ?_
                obtain ⟨hb_10, h⟩ := h
                refine Ev_iald (87) dX10_cell_70 rfl sh_87 hb_10 ?_
                refine Ev_goto (tgt := 80) dX10_cell_71 (by decide) ?_
                refine Ev_sub [] rfl ?_
                exact hK_7 _ h
          · replace h := h.2 hc
            refine Ev_aload_n dX10_cell_51 0 rfl ?_
            refine Ev_getr 68 (89) dX10_cell_52 f_RX10_72 rfl sh_68 rfl ?_
            refine Ev_iload_n dX10_cell_55 1 rfl ?_
            obtain ⟨hb_11, h⟩ := h
            refine Ev_iald (89) dX10_cell_56 rfl sh_89 hb_11 ?_
            refine Ev_goto (tgt := 83) dX10_cell_57 (by decide) ?_
            refine Ev_sub [] rfl ?_
            exact hK_5 _ h
        · replace h := h.2 hc
          refine Ev_aload_n dX10_cell_37 0 rfl ?_
          refine Ev_getr 68 (86) dX10_cell_38 f_RX10_63 rfl sh_68 rfl ?_
          refine Ev_iload_n dX10_cell_41 1 rfl ?_
          obtain ⟨hb_12, h⟩ := h
          refine Ev_iald (86) dX10_cell_42 rfl sh_86 hb_12 ?_
          refine Ev_goto (tgt := 83) dX10_cell_43 (by decide) ?_
          refine Ev_sub [] rfl ?_
          exact hK_5 _ h
    · replace h := h.2 hc
      refine Ev_bipush (v := -12) dX10_cell_30 (by decide +kernel) ?_
      exact Ev_ret dX10_cell_32 trivial (poIs_mk h)
  · replace h := h.2 hc
    refine Ev_bipush (v := -2) dX10_cell_9 (by decide +kernel) ?_
    exact Ev_ret dX10_cell_11 trivial (poIs_mk h)
