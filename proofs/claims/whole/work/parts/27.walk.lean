theorem k_X7_let {s : Sg} {v2 : Int} {post : Sg → Prop} (h : w_X7_let s v2 post) : EvM mX7_let 2 [(2, 35), (2, 1), (0, v2)] s (poV post) := by
  refine EvM_of rfl (by decide +kernel) (Nat.le_of_ble_eq_true rfl) ?_
  unfold w_X7_let at h
  show Ev mX7_let 2 0 [(0, (2, 35)), (1, (2, 1)), (2, (0, v2))] [] s (poV post)
  refine Ev_aload_n dX7_let_0 0 rfl ?_
  refine Ev_geti 35 dX7_let_1 f_RX7_19 rfl sh_35 ?_
  obtain ⟨v3_1, ev3_1⟩ : ∃ z : Int, z = s 35 0 := ⟨_, rfl⟩
  replace h := h v3_1 ev3_1
  rw [← ev3_1]
  refine Ev_istore_n dX7_let_4 (by decide) rfl ?_
  refine Ev_aload_n dX7_let_5 1 rfl ?_
  refine Ev_geti 35 dX7_let_6 f_RX7_19 rfl sh_35 ?_
  refine Ev_iconst (v := 1) dX7_let_9 rfl ⟨by decide, by decide⟩ ?_
  refine Ev_isub dX7_let_10 ?_
  obtain ⟨v4_2, ev4_2⟩ : ∃ z : Int, z = w32 ((s 35 0) - 1) := ⟨_, rfl⟩
  replace h := h v4_2 ev4_2
  rw [← ev4_2]
  refine Ev_istore dX7_let_11 (by decide) rfl ?_
  refine Ev_sub [2, 3, 4, 1, 0] rfl ?_
  refine li_2s (P := fun (v3_3 v4_4 : Int) (s_5 : Sg) => Ev mX7_let 2 13 [(0, (2, 35)), (1, (2, 1)), (2, (0, v2)), (3, (0, v3_3)), (4, (0, v4_4))] [] s_5 (poV post)) ?_ h
  intro again_6 v3_3 v4_4 s_5 hagain_6 h
  refine Ev_iload dX7_let_13 4 rfl ?_
  refine jc_0 (P := Ev mX7_let 2 59 [(0, (2, 35)), (2, (0, v2)), (3, (0, v3_3))] [] s_5 (poV post)) h ?_ ?_
  · intro  h
    refine Ev_aload_n dX7_let_59 0 rfl ?_
    refine Ev_getr 35 (36) dX7_let_60 f_RX7_9 rfl sh_35 rfl ?_
    refine Ev_iload_n dX7_let_63 2 rfl ?_
    refine Ev_iload_n dX7_let_64 1 rfl ?_
    obtain ⟨hb_8, h⟩ := h
    obtain ⟨s_9, es_9⟩ : ∃ z : Sg, z = (up s_5 36 (v3_3.toNat) v2) := ⟨_, rfl⟩
    replace h := h s_9 es_9
    refine Ev_iast (36) dX7_let_65 rfl sh_36 hb_8 ?_
    rw [← es_9]
    refine Ev_aload_n dX7_let_66 0 rfl ?_
    refine Ev_dup dX7_let_67 (show ¬ (2 : Nat) = 1 by decide) ?_
    refine Ev_geti 35 dX7_let_68 f_RX7_19 rfl sh_35 ?_
    refine Ev_iconst (v := 1) dX7_let_71 rfl ⟨by decide, by decide⟩ ?_
    refine Ev_iadd dX7_let_72 ?_
    obtain ⟨s_10, es_10⟩ : ∃ z : Sg, z = (up s_9 35 0 (w32 ((s_9 35 0) + 1))) := ⟨_, rfl⟩
    replace h := h s_10 es_10
    refine Ev_puti 35 dX7_let_73 fp_RX7_19 rfl sh_35 ?_
    rw [← es_10]
    exact Ev_retv dX7_let_76 rfl (poV_mk h)
  · intro K_7 hK_7 h
    refine Ev_if_lt (tgt := 59) dX7_let_15 (by decide) (fun hc => ?_) (fun hc => ?_)
    · replace h := h.1 hc
      refine Ev_sub [0, 2, 3] rfl ?_
      exact hK_7 h
    · replace h := h.2 hc
      refine Ev_aload_n dX7_let_18 0 rfl ?_
      refine Ev_aload_n dX7_let_19 1 rfl ?_
      refine Ev_aload_n dX7_let_20 0 rfl ?_
      refine Ev_getr 35 (36) dX7_let_21 f_RX7_9 rfl sh_35 rfl ?_
      refine Ev_iload dX7_let_24 4 rfl ?_
      obtain ⟨hb_11, h⟩ := h
      refine Ev_iald (36) dX7_let_26 rfl sh_36 hb_11 ?_
      refine Ev_iload_n dX7_let_27 2 rfl ?_
      refine Ev_invV (d' := 1) [(2, 1), (0, s_5 36 v4_4.toNat), (0, v2)] 35 dX7_let_28 M_X7_compareTwo q_610 (by decide) rfl rfl sh_35 rfl (Nat.le_of_ble_eq_true rfl) (k_X7_compareTwo h) ?_
      rintro _ _ ⟨rfl, r_12, rfl, h⟩
      refine Ev_if_le (tgt := 59) dX7_let_31 (by decide) (fun hc => ?_) (fun hc => ?_)
      · replace h := h.1 hc
        refine Ev_sub [0, 2, 3] rfl ?_
        exact hK_7 h
      · replace h := h.2 hc
        refine Ev_aload_n dX7_let_34 0 rfl ?_
        refine Ev_getr 35 (36) dX7_let_35 f_RX7_9 rfl sh_35 rfl ?_
        refine Ev_iload dX7_let_38 4 rfl ?_
        refine Ev_iconst (v := 1) dX7_let_40 rfl ⟨by decide, by decide⟩ ?_
        refine Ev_iadd dX7_let_41 ?_
        refine Ev_aload_n dX7_let_42 0 rfl ?_
        refine Ev_getr 35 (36) dX7_let_43 f_RX7_9 rfl sh_35 rfl ?_
        refine Ev_iload dX7_let_46 4 rfl ?_
        obtain ⟨hb_13, h⟩ := h
        refine Ev_iald (36) dX7_let_48 rfl sh_36 hb_13 ?_
        obtain ⟨hb_14, h⟩ := h
        obtain ⟨s_15, es_15⟩ : ∃ z : Sg, z = (up s_5 36 ((w32 (v4_4 + 1)).toNat) (s_5 36 v4_4.toNat)) := ⟨_, rfl⟩
        replace h := h s_15 es_15
        refine Ev_iast (36) dX7_let_49 rfl sh_36 hb_14 ?_
        rw [← es_15]
        refine Ev_iload dX7_let_50 4 rfl ?_
        refine Ev_istore_n dX7_let_52 (by decide) rfl ?_
        obtain ⟨v4_16, ev4_16⟩ : ∃ z : Int, z = w32 (v4_4 + (-1)) := ⟨_, rfl⟩
        replace h := h v4_16 ev4_16
        refine Ev_iinc (v := v4_16) dX7_let_53 4 rfl ev4_16.symm (by decide) rfl ?_
        refine Ev_goto (tgt := 13) dX7_let_56 (by decide) ?_
        refine Ev_sub [2, 3, 4, 1, 0] rfl ?_
        exact hagain_6 _ _ _ h
theorem k_X7_stand {s : Sg} {v2 v4 : Int} {post : Sg → Prop} (h : w_X7_stand s v2 v4 post) : EvM mX7_stand 3 [(2, 35), (2, 1), (1, v2), (1, v4)] s (poV post) := by
  refine EvM_of rfl (by decide +kernel) (Nat.le_of_ble_eq_true rfl) ?_
  unfold w_X7_stand at h
  show Ev mX7_stand 3 0 [(0, (2, 35)), (1, (2, 1)), (2, (1, v2)), (4, (1, v4))] [] s (poV post)
  refine Ev_aload_n dX7_stand_0 0 rfl ?_
  refine Ev_iconst (v := 0) dX7_stand_1 rfl ⟨by decide, by decide⟩ ?_
  obtain ⟨s_1, es_1⟩ : ∃ z : Sg, z = (up s 35 0 0) := ⟨_, rfl⟩
  replace h := h s_1 es_1
  refine Ev_puti 35 dX7_stand_2 fp_RX7_19 rfl sh_35 ?_
  rw [← es_1]
  refine Ev_iconst (v := 0) dX7_stand_5 rfl ⟨by decide, by decide⟩ ?_
  refine Ev_istore dX7_stand_6 (by decide) rfl ?_
  refine Ev_sub [1, 2, 3, 4, 0] rfl ?_
  refine li_1s (P := fun (v6_2 : Int) (s_3 : Sg) => Ev mX7_stand 3 8 [(0, (2, 35)), (1, (2, 1)), (2, (1, v2)), (4, (1, v4)), (6, (0, v6_2))] [] s_3 (poV post)) ?_ h
  intro again_4 v6_2 s_3 hagain_4 h
  refine Ev_iload dX7_stand_8 4 rfl ?_
  refine Ev_aload_n dX7_stand_10 1 rfl ?_
  refine Ev_geti 1 dX7_stand_11 f_RX7_23 rfl sh_1 ?_
  refine Ev_icmp_ge (tgt := 67) dX7_stand_14 (by decide) (fun hc => ?_) (fun hc => ?_)
  · replace h := h.1 hc
    exact Ev_retv dX7_stand_67 rfl (poV_mk h)
  · replace h := h.2 hc
    refine Ev_aload_n dX7_stand_17 1 rfl ?_
    refine Ev_iload dX7_stand_18 4 rfl ?_
    refine Ev_invV (d' := 0) [(0, v6_2)] 1 dX7_stand_20 M_X2_isUpright q_600 (by decide) rfl rfl sh_1 rfl (Nat.le_of_ble_eq_true rfl) (k_X2_isUpright h) ?_
    rintro _ _ ⟨rfl, r_5, rfl, h⟩
    refine jc_0s (P := fun (s_6 : Sg) => Ev mX7_stand 3 61 [(0, (2, 35)), (1, (2, 1)), (2, (1, v2)), (4, (1, v4)), (6, (0, v6_2))] [] s_6 (poV post)) h ?_ ?_
    · intro s_6 h
      obtain ⟨v6_8, ev6_8⟩ : ∃ z : Int, z = w32 (v6_2 + 1) := ⟨_, rfl⟩
      replace h := h v6_8 ev6_8
      refine Ev_iinc (v := v6_8) dX7_stand_61 4 rfl ev6_8.symm (by decide) rfl ?_
      refine Ev_goto (tgt := 8) dX7_stand_64 (by decide) ?_
      refine Ev_sub [1, 2, 3, 4, 0] rfl ?_
      exact hagain_4 _ _ h
    · intro K_7 hK_7 h
      refine Ev_if_ne (tgt := 61) dX7_stand_23 (by decide) (fun hc => ?_) (fun hc => ?_)
      · replace h := h.1 hc
        exact hK_7 _ h
      · replace h := h.2 hc
        refine Ev_aload_n dX7_stand_26 1 rfl ?_
        refine Ev_iload dX7_stand_27 4 rfl ?_
        refine Ev_lload_n dX7_stand_29 2 rfl ?_
        refine Ev_lload dX7_stand_30 3 rfl ?_
        refine Ev_invV (d' := 0) [(0, v6_2), (1, v2), (1, v4)] 1 dX7_stand_32 M_X2_reaches q_601 (by decide) rfl rfl sh_1 rfl (Nat.le_of_ble_eq_true rfl) (k_X2_reaches_1 h) ?_
        rintro _ _ ⟨rfl, r_9, rfl, h⟩
        refine Ev_if_eq (tgt := 61) dX7_stand_35 (by decide) (fun hc => ?_) (fun hc => ?_)
        · replace h := h.1 hc
          exact hK_7 _ h
        · replace h := h.2 hc
          refine Ev_aload_n dX7_stand_38 0 rfl ?_
          refine Ev_getr 35 (37) dX7_stand_39 f_RX7_15 rfl sh_35 rfl ?_
          refine Ev_iload dX7_stand_42 4 rfl ?_
          refine Ev_aload_n dX7_stand_44 1 rfl ?_
          refine Ev_iload dX7_stand_45 4 rfl ?_
          refine Ev_lload_n dX7_stand_47 2 rfl ?_
          refine Ev_lload dX7_stand_48 3 rfl ?_
          refine Ev_invV (d' := 0) [(0, v6_2), (1, v2), (1, v4)] 1 dX7_stand_50 M_X2_height q_602 (by decide) rfl rfl sh_1 rfl (Nat.le_of_ble_eq_true rfl) (k_X2_height h) ?_
          rintro _ _ ⟨rfl, r_10, rfl, h⟩
          obtain ⟨hb_11, h⟩ := h
          obtain ⟨s_12, es_12⟩ : ∃ z : Sg, z = (up s_3 37 (v6_2.toNat) r_10) := ⟨_, rfl⟩
          replace h := h s_12 es_12
          refine Ev_last (37) dX7_stand_53 rfl sh_37 hb_11 ?_
          rw [← es_12]
          refine Ev_aload_n dX7_stand_54 0 rfl ?_
          refine Ev_aload_n dX7_stand_55 1 rfl ?_
          refine Ev_iload dX7_stand_56 4 rfl ?_
          refine Ev_invV (d' := 2) [(2, 1), (0, v6_2)] 35 dX7_stand_58 M_X7_let q_606 (by decide) rfl rfl sh_35 rfl (Nat.le_of_ble_eq_true rfl) (k_X7_let h) ?_
          rintro _ s_13 ⟨rfl, h⟩
          exact hK_7 _ h
theorem k_X6_cut {s : Sg} {post : Sg → Prop} (h : w_X6_cut s post) : EvM mX6_cut 4 [(2, 38), (2, 1), (2, 16), (2, 35)] s (poV post) := by
  refine EvM_of rfl (by decide +kernel) (Nat.le_of_ble_eq_true rfl) ?_
  unfold w_X6_cut at h
  show Ev mX6_cut 4 0 [(0, (2, 38)), (1, (2, 1)), (2, (2, 16)), (3, (2, 35))] [] s (poV post)
  refine Ev_aload_n dX6_cut_0 0 rfl ?_
  refine Ev_aload_n dX6_cut_1 2 rfl ?_
  refine Ev_invV (d' := 1) [(2, 16)] 38 dX6_cut_2 M_X6_findXs q_629 (by decide) rfl rfl sh_38 rfl (Nat.le_of_ble_eq_true rfl) (k_X6_findXs h) ?_
  rintro _ s_1 ⟨rfl, h⟩
  refine Ev_aload_n dX6_cut_5 0 rfl ?_
  refine Ev_iconst (v := 0) dX6_cut_6 rfl ⟨by decide, by decide⟩ ?_
  obtain ⟨s_2, es_2⟩ : ∃ z : Sg, z = (up s_1 38 1 0) := ⟨_, rfl⟩
  replace h := h s_2 es_2
  refine Ev_puti 38 dX6_cut_7 fp_RX6_35 rfl sh_38 ?_
  rw [← es_2]
  refine Ev_iconst (v := 0) dX6_cut_10 rfl ⟨by decide, by decide⟩ ?_
  refine Ev_istore dX6_cut_11 (by decide) rfl ?_
  refine Ev_sub [1, 2, 4, 0] rfl ?_
  refine li_1s (P := fun (v4_3 : Int) (s_4 : Sg) => Ev mX6_cut 4 13 [(0, (2, 38)), (1, (2, 1)), (3, (2, 35)), (4, (0, v4_3))] [] s_4 (poV post)) ?_ h
  intro again_5 v4_3 s_4 hagain_5 h
  refine Ev_iload dX6_cut_13 3 rfl ?_
  refine Ev_aload_n dX6_cut_15 0 rfl ?_
  refine Ev_geti 38 dX6_cut_16 f_RX6_39 rfl sh_38 ?_
  refine Ev_icmp_gt (tgt := 95) dX6_cut_19 (by decide) (fun hc => ?_) (fun hc => ?_)
  · replace h := h.1 hc
    refine Ev_aload_n dX6_cut_95 0 rfl ?_
    refine Ev_getr 38 (41) dX6_cut_96 f_RX6_18 rfl sh_38 rfl ?_
    refine Ev_aload_n dX6_cut_99 0 rfl ?_
    refine Ev_geti 38 dX6_cut_100 f_RX6_39 rfl sh_38 ?_
    refine Ev_iconst (v := 1) dX6_cut_103 rfl ⟨by decide, by decide⟩ ?_
    refine Ev_iadd dX6_cut_104 ?_
    refine Ev_aload_n dX6_cut_105 0 rfl ?_
    refine Ev_geti 38 dX6_cut_106 f_RX6_35 rfl sh_38 ?_
    obtain ⟨hb_6, h⟩ := h
    obtain ⟨s_7, es_7⟩ : ∃ z : Sg, z = (up s_4 41 ((w32 ((s_4 38 0) + 1)).toNat) (s_4 38 1)) := ⟨_, rfl⟩
    replace h := h s_7 es_7
    refine Ev_iast (41) dX6_cut_109 rfl sh_41 hb_6 ?_
    rw [← es_7]
    exact Ev_retv dX6_cut_110 rfl (poV_mk h)
  · replace h := h.2 hc
    refine Ev_aload_n dX6_cut_22 0 rfl ?_
    refine Ev_getr 38 (41) dX6_cut_23 f_RX6_18 rfl sh_38 rfl ?_
    refine Ev_iload dX6_cut_26 3 rfl ?_
    refine Ev_aload_n dX6_cut_28 0 rfl ?_
    refine Ev_geti 38 dX6_cut_29 f_RX6_35 rfl sh_38 ?_
    obtain ⟨hb_8, h⟩ := h
    obtain ⟨s_9, es_9⟩ : ∃ z : Sg, z = (up s_4 41 (v4_3.toNat) (s_4 38 1)) := ⟨_, rfl⟩
    replace h := h s_9 es_9
    refine Ev_iast (41) dX6_cut_32 rfl sh_41 hb_8 ?_
    rw [← es_9]
    refine Ev_iload dX6_cut_33 3 rfl ?_
    refine jc_0s (P := fun (s_10 : Sg) => Ev mX6_cut 4 89 [(0, (2, 38)), (1, (2, 1)), (3, (2, 35)), (4, (0, v4_3))] [] s_10 (poV post)) h ?_ ?_
    · intro s_10 h
      obtain ⟨v4_12, ev4_12⟩ : ∃ z : Int, z = w32 (v4_3 + 1) := ⟨_, rfl⟩
      replace h := h v4_12 ev4_12
      refine Ev_iinc (v := v4_12) dX6_cut_89 3 rfl ev4_12.symm (by decide) rfl ?_
      refine Ev_goto (tgt := 13) dX6_cut_92 (by decide) ?_
      refine Ev_sub [1, 2, 3, 0] rfl ?_
      exact hagain_5 _ _ h
    · intro K_11 hK_11 h
      refine jc_0 (P := Ev mX6_cut 4 47 [(0, (2, 38)), (1, (2, 1)), (3, (2, 35)), (4, (0, v4_3))] [] s_9 (poV post)) h ?_ ?_
      · intro  h
        refine Ev_aload_n dX6_cut_47 0 rfl ?_
        refine Ev_iload dX6_cut_48 3 rfl ?_
        refine Ev_iconst (v := 0) dX6_cut_50 rfl ⟨by decide, by decide⟩ ?_
        refine Ev_iconst (v := 0) dX6_cut_51 rfl ⟨by decide, by decide⟩ ?_
        refine Ev_invV (d' := 0) [(0, v4_3), (0, 0), (0, 0)] 38 dX6_cut_52 M_X6_addCell q_634 (by decide) rfl rfl sh_38 rfl (Nat.le_of_ble_eq_true rfl) (k_X6_addCell h) ?_
        rintro _ s_14 ⟨rfl, h⟩
        refine Ev_goto (tgt := 89) dX6_cut_55 (by decide) ?_
        exact hK_11 _ h
      · intro K_13 hK_13 h
        refine Ev_if_eq (tgt := 47) dX6_cut_35 (by decide) (fun hc => ?_) (fun hc => ?_)
        · replace h := h.1 hc
          exact hK_13 h
        · replace h := h.2 hc
          refine Ev_iload dX6_cut_38 3 rfl ?_
          refine Ev_aload_n dX6_cut_40 0 rfl ?_
          refine Ev_geti 38 dX6_cut_41 f_RX6_39 rfl sh_38 ?_
          refine Ev_icmp_ne (tgt := 58) dX6_cut_44 (by decide) (fun hc => ?_) (fun hc => ?_)
          · replace h := h.1 hc
            refine Ev_aload_n dX6_cut_58 2 rfl ?_
            refine Ev_aload_n dX6_cut_59 1 rfl ?_
            refine Ev_aload_n dX6_cut_60 0 rfl ?_
            refine Ev_getr 38 (39) dX6_cut_61 f_RX6_9 rfl sh_38 rfl ?_
            refine Ev_iload dX6_cut_64 3 rfl ?_
            refine Ev_iconst (v := 1) dX6_cut_66 rfl ⟨by decide, by decide⟩ ?_
            refine Ev_isub dX6_cut_67 ?_
            obtain ⟨hb_15, h⟩ := h
            refine Ev_lald (39) dX6_cut_68 rfl sh_39 hb_15 ?_
            refine Ev_aload_n dX6_cut_69 0 rfl ?_
            refine Ev_getr 38 (40) dX6_cut_70 f_RX6_15 rfl sh_38 rfl ?_
            refine Ev_iload dX6_cut_73 3 rfl ?_
            refine Ev_iconst (v := 1) dX6_cut_75 rfl ⟨by decide, by decide⟩ ?_
            refine Ev_isub dX6_cut_76 ?_
            obtain ⟨hb_16, h⟩ := h
            refine Ev_lald (40) dX6_cut_77 rfl sh_40 hb_16 ?_
            refine Ev_invV (d' := 3) [(2, 1), (1, s_9 39 (w32 (v4_3 - 1)).toNat), (1, s_9 40 (w32 (v4_3 - 1)).toNat)] 35 dX6_cut_78 M_X7_stand q_638 (by decide) rfl rfl sh_35 rfl (Nat.le_of_ble_eq_true rfl) (k_X7_stand h) ?_
            rintro _ s_17 ⟨rfl, h⟩
            refine Ev_aload_n dX6_cut_81 0 rfl ?_
            refine Ev_aload_n dX6_cut_82 1 rfl ?_
            refine Ev_aload_n dX6_cut_83 2 rfl ?_
            refine Ev_iload dX6_cut_84 3 rfl ?_
            refine Ev_invV (d' := 2) [(2, 1), (2, 35), (0, v4_3)] 38 dX6_cut_86 M_X6_addCells q_639 (by decide) rfl rfl sh_38 rfl (Nat.le_of_ble_eq_true rfl) (k_X6_addCells h) ?_
            rintro _ s_18 ⟨rfl, h⟩
            exact hK_11 _ h
          · replace h := h.2 hc
            exact hK_13 h
theorem k_X8_add {s : Sg} {v1 v2 v3 : Int} {post : Sg → Prop} (h : w_X8_add s v1 v2 v3 post) : EvM mX8_add 0 [(2, 45), (0, v1), (0, v2), (0, v3)] s (poV post) := by
  refine EvM_of rfl (by decide +kernel) (Nat.le_of_ble_eq_true rfl) ?_
  unfold w_X8_add at h
  show Ev mX8_add 0 0 [(0, (2, 45)), (1, (0, v1)), (2, (0, v2)), (3, (0, v3))] [] s (poV post)
  refine Ev_aload_n dX8_add_0 0 rfl ?_
  refine Ev_geti 45 dX8_add_1 f_RX8_34 rfl sh_45 ?_
  refine Ev_sipush (v := 725) dX8_add_4 (by decide +kernel) ?_
  refine jc_0s (P := fun (s_1 : Sg) => Ev mX8_add 0 50 [] [] s_1 (poV post)) h ?_ ?_
  · intro s_1 h
    exact Ev_retv dX8_add_50 rfl (poV_mk h)
  · intro K_2 hK_2 h
    refine Ev_icmp_ge (tgt := 50) dX8_add_7 (by decide) (fun hc => ?_) (fun hc => ?_)
    · replace h := h.1 hc
      refine Ev_sub [] rfl ?_
      exact hK_2 _ h
    · replace h := h.2 hc
      refine Ev_aload_n dX8_add_10 0 rfl ?_
      refine Ev_getr 45 (46) dX8_add_11 f_RX8_9 rfl sh_45 rfl ?_
      refine Ev_aload_n dX8_add_14 0 rfl ?_
      refine Ev_geti 45 dX8_add_15 f_RX8_34 rfl sh_45 ?_
      refine Ev_iload_n dX8_add_18 1 rfl ?_
      obtain ⟨hb_3, h⟩ := h
      obtain ⟨s_4, es_4⟩ : ∃ z : Sg, z = (up s 46 ((s 45 0).toNat) v1) := ⟨_, rfl⟩
      replace h := h s_4 es_4
      refine Ev_iast (46) dX8_add_19 rfl sh_46 hb_3 ?_
      rw [← es_4]
      refine Ev_aload_n dX8_add_20 0 rfl ?_
      refine Ev_getr 45 (47) dX8_add_21 f_RX8_15 rfl sh_45 rfl ?_
      refine Ev_aload_n dX8_add_24 0 rfl ?_
      refine Ev_geti 45 dX8_add_25 f_RX8_34 rfl sh_45 ?_
      refine Ev_iload_n dX8_add_28 2 rfl ?_
      obtain ⟨hb_5, h⟩ := h
      obtain ⟨s_6, es_6⟩ : ∃ z : Sg, z = (up s_4 47 ((s_4 45 0).toNat) v2) := ⟨_, rfl⟩
      replace h := h s_6 es_6
      refine Ev_iast (47) dX8_add_29 rfl sh_47 hb_5 ?_
      rw [← es_6]
      refine Ev_aload_n dX8_add_30 0 rfl ?_
      refine Ev_getr 45 (48) dX8_add_31 f_RX8_18 rfl sh_45 rfl ?_
      refine Ev_aload_n dX8_add_34 0 rfl ?_
      refine Ev_geti 45 dX8_add_35 f_RX8_34 rfl sh_45 ?_
      refine Ev_iload_n dX8_add_38 3 rfl ?_
      obtain ⟨hb_7, h⟩ := h
      obtain ⟨s_8, es_8⟩ : ∃ z : Sg, z = (up s_6 48 ((s_6 45 0).toNat) v3) := ⟨_, rfl⟩
      replace h := h s_8 es_8
      refine Ev_iast (48) dX8_add_39 rfl sh_48 hb_7 ?_
      rw [← es_8]
      refine Ev_aload_n dX8_add_40 0 rfl ?_
      refine Ev_dup dX8_add_41 (show ¬ (2 : Nat) = 1 by decide) ?_
      refine Ev_geti 45 dX8_add_42 f_RX8_34 rfl sh_45 ?_
      refine Ev_iconst (v := 1) dX8_add_45 rfl ⟨by decide, by decide⟩ ?_
      refine Ev_iadd dX8_add_46 ?_
      obtain ⟨s_9, es_9⟩ : ∃ z : Sg, z = (up s_8 45 0 (w32 ((s_8 45 0) + 1))) := ⟨_, rfl⟩
      replace h := h s_9 es_9
      refine Ev_puti 45 dX8_add_47 fp_RX8_34 rfl sh_45 ?_
      rw [← es_9]
      refine Ev_sub [] rfl ?_
      exact hK_2 _ h
theorem k_X8_stepsUnder {s : Sg} {v1 v3 : Int} {post : Int → Prop} (h : w_X8_stepsUnder s v1 v3 post) : EvM mX8_stepsUnder 1 [(2, 45), (1, v1), (1, v3)] s (poI 0 s post) := by
  refine EvM_of rfl (by decide +kernel) (Nat.le_of_ble_eq_true rfl) ?_
  unfold w_X8_stepsUnder at h
  show Ev mX8_stepsUnder 1 0 [(0, (2, 45)), (1, (1, v1)), (3, (1, v3))] [] s (poI 0 s post)
  refine Ev_iconst (v := 0) dX8_stepsUnder_0 rfl ⟨by decide, by decide⟩ ?_
  refine Ev_istore dX8_stepsUnder_1 (by decide) rfl ?_
  refine Ev_iconst (v := 0) dX8_stepsUnder_3 rfl ⟨by decide, by decide⟩ ?_
  refine Ev_istore dX8_stepsUnder_4 (by decide) rfl ?_
  refine Ev_sub [2, 3, 4, 1, 0] rfl ?_
  refine li_2 (P := fun (v5_1 v6_2 : Int) => Ev mX8_stepsUnder 1 6 [(0, (2, 45)), (1, (1, v1)), (3, (1, v3)), (5, (0, v5_1)), (6, (0, v6_2))] [] s (poI 0 s post)) ?_ h
  intro again_3 v5_1 v6_2 hagain_3 h
  refine Ev_iload dX8_stepsUnder_6 4 rfl ?_
  refine Ev_aload_n dX8_stepsUnder_8 0 rfl ?_
  refine Ev_geti 45 dX8_stepsUnder_9 f_RX8_56 rfl sh_45 ?_
  refine jc_0 (P := Ev mX8_stepsUnder 1 46 [(5, (0, v5_1))] [] s (poI 0 s post)) h ?_ ?_
  · intro  h
    refine Ev_iload dX8_stepsUnder_46 0 rfl ?_
    exact Ev_ret dX8_stepsUnder_48 trivial (poI_mk h)
  · intro K_4 hK_4 h
    refine Ev_icmp_ge (tgt := 46) dX8_stepsUnder_12 (by decide) (fun hc => ?_) (fun hc => ?_)
    · replace h := h.1 hc
      refine Ev_sub [3] rfl ?_
      exact hK_4 h
    · replace h := h.2 hc
      refine Ev_aload_n dX8_stepsUnder_15 0 rfl ?_
      refine Ev_getr 45 (49) dX8_stepsUnder_16 f_RX8_21 rfl sh_45 rfl ?_
      refine Ev_iload dX8_stepsUnder_19 4 rfl ?_
      obtain ⟨hb_5, h⟩ := h
      refine Ev_lald (49) dX8_stepsUnder_21 rfl sh_49 hb_5 ?_
      refine Ev_aload_n dX8_stepsUnder_22 0 rfl ?_
      refine Ev_getr 45 (50) dX8_stepsUnder_23 f_RX8_25 rfl sh_45 rfl ?_
      refine Ev_iload dX8_stepsUnder_26 4 rfl ?_
      obtain ⟨hb_6, h⟩ := h
      refine Ev_lald (50) dX8_stepsUnder_28 rfl sh_50 hb_6 ?_
      refine Ev_lload_n dX8_stepsUnder_29 1 rfl ?_
      refine Ev_lload_n dX8_stepsUnder_30 2 rfl ?_
      refine Ev_invS (d' := 0) [(1, s 49 v6_2.toNat), (1, s 50 v6_2.toNat), (1, v1), (1, v3)] dX8_stepsUnder_31 M_X9_compareFractions (Or.inr ⟨_, q_663⟩) (by decide) rfl (Nat.le_of_ble_eq_true rfl) (k_X9_compareFractions h) ?_
      rintro _ _ ⟨rfl, r_7, rfl, h⟩
      refine Ev_if_ge (tgt := 46) dX8_stepsUnder_34 (by decide) (fun hc => ?_) (fun hc => ?_)
      · replace h := h.1 hc
        refine Ev_sub [3] rfl ?_
        exact hK_4 h
      · replace h := h.2 hc
        obtain ⟨v5_8, ev5_8⟩ : ∃ z : Int, z = w32 (v5_1 + 1) := ⟨_, rfl⟩
        replace h := h v5_8 ev5_8
        refine Ev_iinc (v := v5_8) dX8_stepsUnder_37 3 rfl ev5_8.symm (by decide) rfl ?_
        obtain ⟨v6_9, ev6_9⟩ : ∃ z : Int, z = w32 (v6_2 + 1) := ⟨_, rfl⟩
        replace h := h v6_9 ev6_9
        refine Ev_iinc (v := v6_9) dX8_stepsUnder_40 4 rfl ev6_9.symm (by decide) rfl ?_
        refine Ev_goto (tgt := 6) dX8_stepsUnder_43 (by decide) ?_
        refine Ev_sub [2, 3, 4, 1, 0] rfl ?_
        exact hagain_3 _ _ h
theorem k_X8_addStep {s : Sg} {v1 v3 : Int} {post : Sg → Prop} (h : w_X8_addStep s v1 v3 post) : EvM mX8_addStep 2 [(2, 45), (1, v1), (1, v3)] s (poV post) := by
  refine EvM_of rfl (by decide +kernel) (Nat.le_of_ble_eq_true rfl) ?_
  unfold w_X8_addStep at h
  show Ev mX8_addStep 2 0 [(0, (2, 45)), (1, (1, v1)), (3, (1, v3))] [] s (poV post)
  refine Ev_aload_n dX8_addStep_0 0 rfl ?_
  refine Ev_lload_n dX8_addStep_1 1 rfl ?_
  refine Ev_lload_n dX8_addStep_2 2 rfl ?_
  refine Ev_invV (d' := 1) [(1, v1), (1, v3)] 45 dX8_addStep_3 M_X8_stepsUnder q_659 (by decide) rfl rfl sh_45 rfl (Nat.le_of_ble_eq_true rfl) (k_X8_stepsUnder h) ?_
  rintro _ _ ⟨rfl, r_1, rfl, h⟩
  refine Ev_istore dX8_addStep_6 (by decide) rfl ?_
  refine Ev_iload dX8_addStep_8 0 rfl ?_
  refine Ev_aload_n dX8_addStep_10 1 rfl ?_
  refine Ev_geti 45 dX8_addStep_11 f_RX8_56 rfl sh_45 ?_
  refine jc_0 (P := Ev mX8_addStep 2 48 [] [] s (poV post)) h ?_ ?_
  · intro  h
    exact Ev_retv dX8_addStep_48 rfl (poV_mk h)
  · intro K_2 hK_2 h
    refine jc_0 (P := Ev mX8_addStep 2 39 [(0, (2, 45)), (1, (1, v1)), (3, (1, v3)), (5, (0, r_1))] [] s (poV post)) h ?_ ?_
    · intro  h
      refine Ev_aload_n dX8_addStep_39 0 rfl ?_
      refine Ev_geti 45 dX8_addStep_40 f_RX8_56 rfl sh_45 ?_
      refine Ev_bipush (v := 20) dX8_addStep_43 (by decide +kernel) ?_
      refine Ev_icmp_lt (tgt := 49) dX8_addStep_45 (by decide) (fun hc => ?_) (fun hc => ?_)
      · replace h := h.1 hc
        refine Ev_aload_n dX8_addStep_49 0 rfl ?_
        refine Ev_geti 45 dX8_addStep_50 f_RX8_56 rfl sh_45 ?_
        obtain ⟨v6_4, ev6_4⟩ : ∃ z : Int, z = s 45 4 := ⟨_, rfl⟩
        replace h := h v6_4 ev6_4
        rw [← ev6_4]
        refine Ev_istore dX8_addStep_53 (by decide) rfl ?_
        refine Ev_sub [1, 2, 3, 4, 0] rfl ?_
        refine li_1s (P := fun (v6_5 : Int) (s_6 : Sg) => Ev mX8_addStep 2 55 [(0, (2, 45)), (1, (1, v1)), (3, (1, v3)), (5, (0, r_1)), (6, (0, v6_5))] [] s_6 (poV post)) ?_ h
        intro again_7 v6_5 s_6 hagain_7 h
        refine Ev_iload dX8_addStep_55 4 rfl ?_
        refine Ev_iload dX8_addStep_57 3 rfl ?_
        refine Ev_icmp_le (tgt := 100) dX8_addStep_59 (by decide) (fun hc => ?_) (fun hc => ?_)
        · replace h := h.1 hc
          refine Ev_aload_n dX8_addStep_100 0 rfl ?_
          refine Ev_getr 45 (49) dX8_addStep_101 f_RX8_21 rfl sh_45 rfl ?_
          refine Ev_iload dX8_addStep_104 3 rfl ?_
          refine Ev_lload_n dX8_addStep_106 1 rfl ?_
          obtain ⟨hb_8, h⟩ := h
          obtain ⟨s_9, es_9⟩ : ∃ z : Sg, z = (up s_6 49 (r_1.toNat) v1) := ⟨_, rfl⟩
          replace h := h s_9 es_9
          refine Ev_last (49) dX8_addStep_107 rfl sh_49 hb_8 ?_
          rw [← es_9]
          refine Ev_aload_n dX8_addStep_108 0 rfl ?_
          refine Ev_getr 45 (50) dX8_addStep_109 f_RX8_25 rfl sh_45 rfl ?_
          refine Ev_iload dX8_addStep_112 3 rfl ?_
          refine Ev_lload_n dX8_addStep_114 2 rfl ?_
          obtain ⟨hb_10, h⟩ := h
          obtain ⟨s_11, es_11⟩ : ∃ z : Sg, z = (up s_9 50 (r_1.toNat) v3) := ⟨_, rfl⟩
          replace h := h s_11 es_11
          refine Ev_last (50) dX8_addStep_115 rfl sh_50 hb_10 ?_
          rw [← es_11]
          refine Ev_aload_n dX8_addStep_116 0 rfl ?_
          refine Ev_dup dX8_addStep_117 (show ¬ (2 : Nat) = 1 by decide) ?_
          refine Ev_geti 45 dX8_addStep_118 f_RX8_56 rfl sh_45 ?_
          refine Ev_iconst (v := 1) dX8_addStep_121 rfl ⟨by decide, by decide⟩ ?_
          refine Ev_iadd dX8_addStep_122 ?_
          obtain ⟨s_12, es_12⟩ : ∃ z : Sg, z = (up s_11 45 4 (w32 ((s_11 45 4) + 1))) := ⟨_, rfl⟩
          replace h := h s_12 es_12
          refine Ev_puti 45 dX8_addStep_123 fp_RX8_56 rfl sh_45 ?_
          rw [← es_12]
          exact Ev_retv dX8_addStep_126 rfl (poV_mk h)
        · replace h := h.2 hc
          refine Ev_aload_n dX8_addStep_62 0 rfl ?_
          refine Ev_getr 45 (49) dX8_addStep_63 f_RX8_21 rfl sh_45 rfl ?_
          refine Ev_iload dX8_addStep_66 4 rfl ?_
          refine Ev_aload_n dX8_addStep_68 0 rfl ?_
          refine Ev_getr 45 (49) dX8_addStep_69 f_RX8_21 rfl sh_45 rfl ?_
          refine Ev_iload dX8_addStep_72 4 rfl ?_
          refine Ev_iconst (v := 1) dX8_addStep_74 rfl ⟨by decide, by decide⟩ ?_
          refine Ev_isub dX8_addStep_75 ?_
          obtain ⟨hb_13, h⟩ := h
          refine Ev_lald (49) dX8_addStep_76 rfl sh_49 hb_13 ?_
          obtain ⟨hb_14, h⟩ := h
          obtain ⟨s_15, es_15⟩ : ∃ z : Sg, z = (up s_6 49 (v6_5.toNat) (s_6 49 (w32 (v6_5 - 1)).toNat)) := ⟨_, rfl⟩
          replace h := h s_15 es_15
          refine Ev_last (49) dX8_addStep_77 rfl sh_49 hb_14 ?_
          rw [← es_15]
          refine Ev_aload_n dX8_addStep_78 0 rfl ?_
          refine Ev_getr 45 (50) dX8_addStep_79 f_RX8_25 rfl sh_45 rfl ?_
          refine Ev_iload dX8_addStep_82 4 rfl ?_
          refine Ev_aload_n dX8_addStep_84 0 rfl ?_
          refine Ev_getr 45 (50) dX8_addStep_85 f_RX8_25 rfl sh_45 rfl ?_
          refine Ev_iload dX8_addStep_88 4 rfl ?_
          refine Ev_iconst (v := 1) dX8_addStep_90 rfl ⟨by decide, by decide⟩ ?_
          refine Ev_isub dX8_addStep_91 ?_
          obtain ⟨hb_16, h⟩ := h
          refine Ev_lald (50) dX8_addStep_92 rfl sh_50 hb_16 ?_
          obtain ⟨hb_17, h⟩ := h
          obtain ⟨s_18, es_18⟩ : ∃ z : Sg, z = (up s_15 50 (v6_5.toNat) (s_15 50 (w32 (v6_5 - 1)).toNat)) := ⟨_, rfl⟩
          replace h := h s_18 es_18
          refine Ev_last (50) dX8_addStep_93 rfl sh_50 hb_17 ?_
          rw [← es_18]
          obtain ⟨v6_19, ev6_19⟩ : ∃ z : Int, z = w32 (v6_5 + (-1)) := ⟨_, rfl⟩
          replace h := h v6_19 ev6_19
          refine Ev_iinc (v := v6_19) dX8_addStep_94 4 rfl ev6_19.symm (by decide) rfl ?_
          refine Ev_goto (tgt := 55) dX8_addStep_97 (by decide) ?_
          refine Ev_sub [1, 2, 3, 4, 0] rfl ?_
          exact hagain_7 _ _ h
      · replace h := h.2 hc
        refine Ev_sub [] rfl ?_
        exact hK_2 h
    · intro K_3 hK_3 h
      refine Ev_icmp_ge (tgt := 39) dX8_addStep_14 (by decide) (fun hc => ?_) (fun hc => ?_)
      · replace h := h.1 hc
        refine Ev_sub [1, 2, 3, 0] rfl ?_
        exact hK_3 h
      · replace h := h.2 hc
        refine Ev_aload_n dX8_addStep_17 1 rfl ?_
        refine Ev_getr 45 (49) dX8_addStep_18 f_RX8_21 rfl sh_45 rfl ?_
        refine Ev_iload dX8_addStep_21 0 rfl ?_
        obtain ⟨hb_20, h⟩ := h
        refine Ev_lald (49) dX8_addStep_23 rfl sh_49 hb_20 ?_
        refine Ev_aload_n dX8_addStep_24 1 rfl ?_
        refine Ev_getr 45 (50) dX8_addStep_25 f_RX8_25 rfl sh_45 rfl ?_
        refine Ev_iload dX8_addStep_28 0 rfl ?_
        obtain ⟨hb_21, h⟩ := h
        refine Ev_lald (50) dX8_addStep_30 rfl sh_50 hb_21 ?_
        refine Ev_lload_n dX8_addStep_31 2 rfl ?_
        refine Ev_lload_n dX8_addStep_32 3 rfl ?_
        refine Ev_invS (d' := 0) [(1, s 49 r_1.toNat), (1, s 50 r_1.toNat), (1, v1), (1, v3)] dX8_addStep_33 M_X9_compareFractions (Or.inr ⟨_, q_663⟩) (by decide) rfl (Nat.le_of_ble_eq_true rfl) (k_X9_compareFractions h) ?_
        rintro _ _ ⟨rfl, r_22, rfl, h⟩
        refine Ev_if_eq (tgt := 48) dX8_addStep_36 (by decide) (fun hc => ?_) (fun hc => ?_)
        · replace h := h.1 hc
          refine Ev_sub [] rfl ?_
          exact hK_2 h
        · replace h := h.2 hc
          refine Ev_sub [1, 2, 3, 0] rfl ?_
          exact hK_3 h
theorem k_X8_cellAt {s : Sg} {v2 v3 v4 : Int} {post : Int → Prop} (h : w_X8_cellAt s v2 v3 v4 post) : EvM mX8_cellAt 1 [(2, 45), (2, 38), (0, v2), (0, v3), (0, v4)] s (poI 0 s post) := by
  refine EvM_of rfl (by decide +kernel) (Nat.le_of_ble_eq_true rfl) ?_
  unfold w_X8_cellAt at h
  show Ev mX8_cellAt 1 0 [(0, (2, 45)), (1, (2, 38)), (2, (0, v2)), (3, (0, v3)), (4, (0, v4))] [] s (poI 0 s post)
  refine Ev_iload_n dX8_cellAt_0 2 rfl ?_
  refine Ev_istore dX8_cellAt_1 (by decide) rfl ?_
  refine Ev_iload_n dX8_cellAt_3 3 rfl ?_
  refine Ev_istore dX8_cellAt_4 (by decide) rfl ?_
  refine Ev_sub [2, 3, 5, 6, 1, 0] rfl ?_
  refine li_2 (P := fun (v5_1 v6_2 : Int) => Ev mX8_cellAt 1 6 [(0, (2, 45)), (1, (2, 38)), (3, (0, v3)), (4, (0, v4)), (5, (0, v5_1)), (6, (0, v6_2))] [] s (poI 0 s post)) ?_ h
  intro again_3 v5_1 v6_2 hagain_3 h
  refine Ev_iload dX8_cellAt_6 5 rfl ?_
  refine Ev_iconst (v := 1) dX8_cellAt_8 rfl ⟨by decide, by decide⟩ ?_
  refine Ev_iadd dX8_cellAt_9 ?_
  refine Ev_iload_n dX8_cellAt_10 2 rfl ?_
  refine jc_0 (P := Ev mX8_cellAt 1 59 [(5, (0, v5_1))] [] s (poI 0 s post)) h ?_ ?_
  · intro  h
    refine Ev_iload dX8_cellAt_59 0 rfl ?_
    exact Ev_ret dX8_cellAt_61 trivial (poI_mk h)
  · intro K_4 hK_4 h
    refine Ev_icmp_ge (tgt := 59) dX8_cellAt_11 (by decide) (fun hc => ?_) (fun hc => ?_)
    · replace h := h.1 hc
      refine Ev_sub [4] rfl ?_
      exact hK_4 h
    · replace h := h.2 hc
      refine Ev_aload_n dX8_cellAt_14 1 rfl ?_
      refine Ev_getr 38 (44) dX8_cellAt_15 f_RX8_108 rfl sh_38 rfl ?_
      refine Ev_iload dX8_cellAt_18 5 rfl ?_
      obtain ⟨hb_5, h⟩ := h
      refine Ev_iald (44) dX8_cellAt_20 rfl sh_44 hb_5 ?_
      refine Ev_invS (d' := 0) [(0, s 44 v6_2.toNat)] dX8_cellAt_21 M_X9_leastOf (Or.inr ⟨_, q_670⟩) (by decide) rfl (Nat.le_of_ble_eq_true rfl) (k_X9_leastOf h) ?_
      rintro _ _ ⟨rfl, r_6, rfl, h⟩
      refine Ev_istore dX8_cellAt_24 (by decide) rfl ?_
      refine Ev_iload dX8_cellAt_26 0 rfl ?_
      refine Ev_iconst (v := -1) dX8_cellAt_28 rfl ⟨by decide, by decide⟩ ?_
      refine Ev_icmp_eq (tgt := 59) dX8_cellAt_29 (by decide) (fun hc => ?_) (fun hc => ?_)
      · replace h := h.1 hc
        refine Ev_sub [5] rfl ?_
        exact hK_4 h
      · replace h := h.2 hc
        refine Ev_aload_n dX8_cellAt_32 1 rfl ?_
        refine Ev_getr 45 (52) dX8_cellAt_33 f_RX8_31 rfl sh_45 rfl ?_
        refine Ev_iload dX8_cellAt_36 0 rfl ?_
        obtain ⟨hb_7, h⟩ := h
        refine Ev_iald (52) dX8_cellAt_38 rfl sh_52 hb_7 ?_
        refine Ev_iload dX8_cellAt_39 4 rfl ?_
        refine Ev_icmp_lt (tgt := 47) dX8_cellAt_41 (by decide) (fun hc => ?_) (fun hc => ?_)
        · replace h := h.1 hc
          refine Ev_iload dX8_cellAt_47 6 rfl ?_
          refine Ev_iconst (v := 1) dX8_cellAt_49 rfl ⟨by decide, by decide⟩ ?_
          refine Ev_iadd dX8_cellAt_50 ?_
          obtain ⟨v5_8, ev5_8⟩ : ∃ z : Int, z = w32 (v6_2 + 1) := ⟨_, rfl⟩
          replace h := h v5_8 ev5_8
          rw [← ev5_8]
          refine Ev_istore dX8_cellAt_51 (by decide) rfl ?_
          obtain ⟨v6_9, ev6_9⟩ : ∃ z : Int, z = w32 (v6_2 + 1) := ⟨_, rfl⟩
          replace h := h v6_9 ev6_9
          refine Ev_iinc (v := v6_9) dX8_cellAt_53 6 rfl ev6_9.symm (by decide) rfl ?_
          refine Ev_goto (tgt := 6) dX8_cellAt_56 (by decide) ?_
          refine Ev_sub [3, 4, 5, 6, 1, 0] rfl ?_
          exact hagain_3 _ _ h
        · replace h := h.2 hc
          refine Ev_goto (tgt := 59) dX8_cellAt_44 (by decide) ?_
          refine Ev_sub [5] rfl ?_
          exact hK_4 h
theorem k_X8_findSteps {s : Sg} {v2 v4 : Int} {post : Sg → Prop} (h : w_X8_findSteps s v2 v4 post) : EvM mX8_findSteps 3 [(2, 45), (2, 1), (1, v2), (1, v4)] s (poV post) := by
  refine EvM_of rfl (by decide +kernel) (Nat.le_of_ble_eq_true rfl) ?_
  unfold w_X8_findSteps at h
  show Ev mX8_findSteps 3 0 [(0, (2, 45)), (1, (2, 1)), (2, (1, v2)), (4, (1, v4))] [] s (poV post)
  refine Ev_aload_n dX8_findSteps_0 0 rfl ?_
  refine Ev_iconst (v := 0) dX8_findSteps_1 rfl ⟨by decide, by decide⟩ ?_
  obtain ⟨s_1, es_1⟩ : ∃ z : Sg, z = (up s 45 4 0) := ⟨_, rfl⟩
  replace h := h s_1 es_1
  refine Ev_puti 45 dX8_findSteps_2 fp_RX8_56 rfl sh_45 ?_
  rw [← es_1]
  refine Ev_iconst (v := 0) dX8_findSteps_5 rfl ⟨by decide, by decide⟩ ?_
  refine Ev_istore dX8_findSteps_6 (by decide) rfl ?_
  refine Ev_sub [1, 2, 3, 4, 0] rfl ?_
  refine li_1s (P := fun (v6_2 : Int) (s_3 : Sg) => Ev mX8_findSteps 3 8 [(0, (2, 45)), (1, (2, 1)), (2, (1, v2)), (4, (1, v4)), (6, (0, v6_2))] [] s_3 (poV post)) ?_ h
  intro again_4 v6_2 s_3 hagain_4 h
  refine Ev_iload dX8_findSteps_8 4 rfl ?_
  refine Ev_aload_n dX8_findSteps_10 1 rfl ?_
  refine Ev_geti 1 dX8_findSteps_11 f_RX8_71 rfl sh_1 ?_
  refine Ev_icmp_ge (tgt := 98) dX8_findSteps_14 (by decide) (fun hc => ?_) (fun hc => ?_)
  · replace h := h.1 hc
    refine Ev_iconst (v := 0) dX8_findSteps_98 rfl ⟨by decide, by decide⟩ ?_
    refine Ev_istore dX8_findSteps_99 (by decide) rfl ?_
    refine Ev_sub [1, 2, 3, 4, 0] rfl ?_
    refine li_1s (P := fun (v6_5 : Int) (s_6 : Sg) => Ev mX8_findSteps 3 101 [(0, (2, 45)), (1, (2, 1)), (2, (1, v2)), (4, (1, v4)), (6, (0, v6_5))] [] s_6 (poV post)) ?_ h
    intro again_7 v6_5 s_6 hagain_7 h
    refine Ev_iload dX8_findSteps_101 4 rfl ?_
    refine Ev_aload_n dX8_findSteps_103 1 rfl ?_
    refine Ev_geti 1 dX8_findSteps_104 f_RX8_71 rfl sh_1 ?_
    refine Ev_icmp_ge (tgt := 226) dX8_findSteps_107 (by decide) (fun hc => ?_) (fun hc => ?_)
    · replace h := h.1 hc
      exact Ev_retv dX8_findSteps_226 rfl (poV_mk h)
    · replace h := h.2 hc
      refine Ev_aload_n dX8_findSteps_110 1 rfl ?_
      refine Ev_iload dX8_findSteps_111 4 rfl ?_
      refine Ev_lload_n dX8_findSteps_113 2 rfl ?_
      refine Ev_lload dX8_findSteps_114 3 rfl ?_
      refine Ev_invV (d' := 0) [(0, v6_5), (1, v2), (1, v4)] 1 dX8_findSteps_116 M_X2_reaches q_653 (by decide) rfl rfl sh_1 rfl (Nat.le_of_ble_eq_true rfl) (k_X2_reaches_1 h) ?_
      rintro _ _ ⟨rfl, r_8, rfl, h⟩
      refine jc_0s (P := fun (s_9 : Sg) => Ev mX8_findSteps 3 220 [(0, (2, 45)), (1, (2, 1)), (2, (1, v2)), (4, (1, v4)), (6, (0, v6_5))] [] s_9 (poV post)) h ?_ ?_
      · intro s_9 h
        obtain ⟨v6_11, ev6_11⟩ : ∃ z : Int, z = w32 (v6_5 + 1) := ⟨_, rfl⟩
        replace h := h v6_11 ev6_11
        refine Ev_iinc (v := v6_11) dX8_findSteps_220 4 rfl ev6_11.symm (by decide) rfl ?_
        refine Ev_goto (tgt := 101) dX8_findSteps_223 (by decide) ?_
        refine Ev_sub [1, 2, 3, 4, 0] rfl ?_
        exact hagain_7 _ _ h
      · intro K_10 hK_10 h
        refine Ev_if_ne (tgt := 125) dX8_findSteps_119 (by decide) (fun hc => ?_) (fun hc => ?_)
        · replace h := h.1 hc
          refine Ev_aload_n dX8_findSteps_125 1 rfl ?_
          refine Ev_iload dX8_findSteps_126 4 rfl ?_
          refine Ev_invV (d' := 0) [(0, v6_5)] 1 dX8_findSteps_128 M_X2_isUpright q_654 (by decide) rfl rfl sh_1 rfl (Nat.le_of_ble_eq_true rfl) (k_X2_isUpright h) ?_
          rintro _ _ ⟨rfl, r_12, rfl, h⟩
          refine Ev_if_eq (tgt := 177) dX8_findSteps_131 (by decide) (fun hc => ?_) (fun hc => ?_)
          · replace h := h.1 hc
            refine Ev_aload_n dX8_findSteps_177 0 rfl ?_
            refine Ev_getr 45 (51) dX8_findSteps_178 f_RX8_28 rfl sh_45 rfl ?_
            refine Ev_iload dX8_findSteps_181 4 rfl ?_
            refine Ev_aload_n dX8_findSteps_183 0 rfl ?_
            refine Ev_aload_n dX8_findSteps_184 1 rfl ?_
            refine Ev_iload dX8_findSteps_185 4 rfl ?_
            refine Ev_lload_n dX8_findSteps_187 2 rfl ?_
            refine Ev_lload dX8_findSteps_188 3 rfl ?_
            refine Ev_invV (d' := 0) [(0, v6_5), (1, v2), (1, v4)] 1 dX8_findSteps_190 M_X2_height q_664 (by decide) rfl rfl sh_1 rfl (Nat.le_of_ble_eq_true rfl) (k_X2_height h) ?_
            rintro _ _ ⟨rfl, r_13, rfl, h⟩
            refine Ev_aload_n dX8_findSteps_193 1 rfl ?_
            refine Ev_iload dX8_findSteps_194 4 rfl ?_
            refine Ev_invV (d' := 0) [(0, v6_5)] 1 dX8_findSteps_196 M_X2_run q_665 (by decide) rfl rfl sh_1 rfl (Nat.le_of_ble_eq_true rfl) (k_X2_run_1 h) ?_
            rintro _ _ ⟨rfl, r_14, rfl, h⟩
            refine Ev_lload dX8_findSteps_199 3 rfl ?_
            refine Ev_lmul dX8_findSteps_201 ?_
            refine Ev_invV (d' := 1) [(1, r_13), (1, w64 (r_14 * v4))] 45 dX8_findSteps_202 M_X8_stepsUnder q_659 (by decide) rfl rfl sh_45 rfl (Nat.le_of_ble_eq_true rfl) (k_X8_stepsUnder h) ?_
            rintro _ _ ⟨rfl, r_15, rfl, h⟩
            obtain ⟨hb_16, h⟩ := h
            obtain ⟨s_17, es_17⟩ : ∃ z : Sg, z = (up s_6 51 (v6_5.toNat) r_15) := ⟨_, rfl⟩
            replace h := h s_17 es_17
            refine Ev_iast (51) dX8_findSteps_205 rfl sh_51 hb_16 ?_
            rw [← es_17]
            refine Ev_aload_n dX8_findSteps_206 0 rfl ?_
            refine Ev_getr 45 (52) dX8_findSteps_207 f_RX8_31 rfl sh_45 rfl ?_
            refine Ev_iload dX8_findSteps_210 4 rfl ?_
            refine Ev_aload_n dX8_findSteps_212 0 rfl ?_
            refine Ev_getr 45 (51) dX8_findSteps_213 f_RX8_28 rfl sh_45 rfl ?_
            refine Ev_iload dX8_findSteps_216 4 rfl ?_
            obtain ⟨hb_18, h⟩ := h
            refine Ev_iald (51) dX8_findSteps_218 rfl sh_51 hb_18 ?_
            obtain ⟨hb_19, h⟩ := h
            obtain ⟨s_20, es_20⟩ : ∃ z : Sg, z = (up s_17 52 (v6_5.toNat) (s_17 51 v6_5.toNat)) := ⟨_, rfl⟩
            replace h := h s_20 es_20
            refine Ev_iast (52) dX8_findSteps_219 rfl sh_52 hb_19 ?_
            rw [← es_20]
            exact hK_10 _ h
          · replace h := h.2 hc
            refine Ev_aload_n dX8_findSteps_134 0 rfl ?_
            refine Ev_getr 45 (51) dX8_findSteps_135 f_RX8_28 rfl sh_45 rfl ?_
            refine Ev_iload dX8_findSteps_138 4 rfl ?_
            refine Ev_aload_n dX8_findSteps_140 0 rfl ?_
            refine Ev_aload_n dX8_findSteps_141 1 rfl ?_
            refine Ev_getr 1 (3) dX8_findSteps_142 f_RX8_82 rfl sh_1 rfl ?_
            refine Ev_iload dX8_findSteps_145 4 rfl ?_
            obtain ⟨hb_21, h⟩ := h
            refine Ev_iald (3) dX8_findSteps_147 rfl sh_3 hb_21 ?_
            refine Ev_i2l dX8_findSteps_148 ?_
            refine Ev_lconst (v := 1) dX8_findSteps_149 (by decide +kernel) ?_
            refine Ev_invV (d' := 1) [(1, s_6 3 v6_5.toNat), (1, 1)] 45 dX8_findSteps_150 M_X8_stepsUnder q_659 (by decide) rfl rfl sh_45 rfl (Nat.le_of_ble_eq_true rfl) (k_X8_stepsUnder h) ?_
            rintro _ _ ⟨rfl, r_22, rfl, h⟩
            obtain ⟨hb_23, h⟩ := h
            obtain ⟨s_24, es_24⟩ : ∃ z : Sg, z = (up s_6 51 (v6_5.toNat) r_22) := ⟨_, rfl⟩
            replace h := h s_24 es_24
            refine Ev_iast (51) dX8_findSteps_153 rfl sh_51 hb_23 ?_
            rw [← es_24]
            refine Ev_aload_n dX8_findSteps_154 0 rfl ?_
            refine Ev_getr 45 (52) dX8_findSteps_155 f_RX8_31 rfl sh_45 rfl ?_
            refine Ev_iload dX8_findSteps_158 4 rfl ?_
            refine Ev_aload_n dX8_findSteps_160 0 rfl ?_
            refine Ev_aload_n dX8_findSteps_161 1 rfl ?_
            refine Ev_getr 1 (5) dX8_findSteps_162 f_RX8_89 rfl sh_1 rfl ?_
            refine Ev_iload dX8_findSteps_165 4 rfl ?_
            obtain ⟨hb_25, h⟩ := h
            refine Ev_iald (5) dX8_findSteps_167 rfl sh_5 hb_25 ?_
            refine Ev_i2l dX8_findSteps_168 ?_
            refine Ev_lconst (v := 1) dX8_findSteps_169 (by decide +kernel) ?_
            refine Ev_invV (d' := 1) [(1, s_24 5 v6_5.toNat), (1, 1)] 45 dX8_findSteps_170 M_X8_stepsUnder q_659 (by decide) rfl rfl sh_45 rfl (Nat.le_of_ble_eq_true rfl) (k_X8_stepsUnder h) ?_
            rintro _ _ ⟨rfl, r_26, rfl, h⟩
            obtain ⟨hb_27, h⟩ := h
            obtain ⟨s_28, es_28⟩ : ∃ z : Sg, z = (up s_24 52 (v6_5.toNat) r_26) := ⟨_, rfl⟩
            replace h := h s_28 es_28
            refine Ev_iast (52) dX8_findSteps_173 rfl sh_52 hb_27 ?_
            rw [← es_28]
            refine Ev_goto (tgt := 220) dX8_findSteps_174 (by decide) ?_
            exact hK_10 _ h
        · replace h := h.2 hc
          refine Ev_goto (tgt := 220) dX8_findSteps_122 (by decide) ?_
          exact hK_10 _ h
  · replace h := h.2 hc
    refine Ev_aload_n dX8_findSteps_17 1 rfl ?_
    refine Ev_iload dX8_findSteps_18 4 rfl ?_
    refine Ev_lload_n dX8_findSteps_20 2 rfl ?_
    refine Ev_lload dX8_findSteps_21 3 rfl ?_
    refine Ev_invV (d' := 0) [(0, v6_2), (1, v2), (1, v4)] 1 dX8_findSteps_23 M_X2_reaches q_653 (by decide) rfl rfl sh_1 rfl (Nat.le_of_ble_eq_true rfl) (k_X2_reaches_1 h) ?_
    rintro _ _ ⟨rfl, r_29, rfl, h⟩
    refine jc_0s (P := fun (s_30 : Sg) => Ev mX8_findSteps 3 92 [(0, (2, 45)), (1, (2, 1)), (2, (1, v2)), (4, (1, v4)), (6, (0, v6_2))] [] s_30 (poV post)) h ?_ ?_
    · intro s_30 h
      obtain ⟨v6_32, ev6_32⟩ : ∃ z : Int, z = w32 (v6_2 + 1) := ⟨_, rfl⟩
      replace h := h v6_32 ev6_32
      refine Ev_iinc (v := v6_32) dX8_findSteps_92 4 rfl ev6_32.symm (by decide) rfl ?_
      refine Ev_goto (tgt := 8) dX8_findSteps_95 (by decide) ?_
      refine Ev_sub [1, 2, 3, 4, 0] rfl ?_
      exact hagain_4 _ _ h
    · intro K_31 hK_31 h
      refine Ev_if_ne (tgt := 32) dX8_findSteps_26 (by decide) (fun hc => ?_) (fun hc => ?_)
      · replace h := h.1 hc
        refine Ev_aload_n dX8_findSteps_32 1 rfl ?_
        refine Ev_iload dX8_findSteps_33 4 rfl ?_
        refine Ev_invV (d' := 0) [(0, v6_2)] 1 dX8_findSteps_35 M_X2_isUpright q_654 (by decide) rfl rfl sh_1 rfl (Nat.le_of_ble_eq_true rfl) (k_X2_isUpright h) ?_
        rintro _ _ ⟨rfl, r_33, rfl, h⟩
        refine Ev_if_eq (tgt := 70) dX8_findSteps_38 (by decide) (fun hc => ?_) (fun hc => ?_)
        · replace h := h.1 hc
          refine Ev_aload_n dX8_findSteps_70 0 rfl ?_
          refine Ev_aload_n dX8_findSteps_71 1 rfl ?_
          refine Ev_iload dX8_findSteps_72 4 rfl ?_
          refine Ev_lload_n dX8_findSteps_74 2 rfl ?_
          refine Ev_lload dX8_findSteps_75 3 rfl ?_
          refine Ev_invV (d' := 0) [(0, v6_2), (1, v2), (1, v4)] 1 dX8_findSteps_77 M_X2_height q_664 (by decide) rfl rfl sh_1 rfl (Nat.le_of_ble_eq_true rfl) (k_X2_height h) ?_
          rintro _ _ ⟨rfl, r_34, rfl, h⟩
          refine Ev_aload_n dX8_findSteps_80 1 rfl ?_
          refine Ev_iload dX8_findSteps_81 4 rfl ?_
          refine Ev_invV (d' := 0) [(0, v6_2)] 1 dX8_findSteps_83 M_X2_run q_665 (by decide) rfl rfl sh_1 rfl (Nat.le_of_ble_eq_true rfl) (k_X2_run_1 h) ?_
          rintro _ _ ⟨rfl, r_35, rfl, h⟩
          refine Ev_lload dX8_findSteps_86 3 rfl ?_
          refine Ev_lmul dX8_findSteps_88 ?_
          refine Ev_invV (d' := 2) [(1, r_34), (1, w64 (r_35 * v4))] 45 dX8_findSteps_89 M_X8_addStep q_655 (by decide) rfl rfl sh_45 rfl (Nat.le_of_ble_eq_true rfl) (k_X8_addStep h) ?_
          rintro _ s_36 ⟨rfl, h⟩
          exact hK_31 _ h
        · replace h := h.2 hc
          refine Ev_aload_n dX8_findSteps_41 0 rfl ?_
          refine Ev_aload_n dX8_findSteps_42 1 rfl ?_
          refine Ev_getr 1 (3) dX8_findSteps_43 f_RX8_82 rfl sh_1 rfl ?_
          refine Ev_iload dX8_findSteps_46 4 rfl ?_
          obtain ⟨hb_37, h⟩ := h
          refine Ev_iald (3) dX8_findSteps_48 rfl sh_3 hb_37 ?_
          refine Ev_i2l dX8_findSteps_49 ?_
          refine Ev_lconst (v := 1) dX8_findSteps_50 (by decide +kernel) ?_
          refine Ev_invV (d' := 2) [(1, s_3 3 v6_2.toNat), (1, 1)] 45 dX8_findSteps_51 M_X8_addStep q_655 (by decide) rfl rfl sh_45 rfl (Nat.le_of_ble_eq_true rfl) (k_X8_addStep h) ?_
          rintro _ s_38 ⟨rfl, h⟩
          refine Ev_aload_n dX8_findSteps_54 0 rfl ?_
          refine Ev_aload_n dX8_findSteps_55 1 rfl ?_
          refine Ev_getr 1 (5) dX8_findSteps_56 f_RX8_89 rfl sh_1 rfl ?_
          refine Ev_iload dX8_findSteps_59 4 rfl ?_
          obtain ⟨hb_39, h⟩ := h
          refine Ev_iald (5) dX8_findSteps_61 rfl sh_5 hb_39 ?_
          refine Ev_i2l dX8_findSteps_62 ?_
          refine Ev_lconst (v := 1) dX8_findSteps_63 (by decide +kernel) ?_
          refine Ev_invV (d' := 2) [(1, s_38 5 v6_2.toNat), (1, 1)] 45 dX8_findSteps_64 M_X8_addStep q_655 (by decide) rfl rfl sh_45 rfl (Nat.le_of_ble_eq_true rfl) (k_X8_addStep h) ?_
          rintro _ s_40 ⟨rfl, h⟩
          refine Ev_goto (tgt := 92) dX8_findSteps_67 (by decide) ?_
          exact hK_31 _ h
      · replace h := h.2 hc
        refine Ev_goto (tgt := 92) dX8_findSteps_29 (by decide) ?_
        exact hK_31 _ h
theorem k_X8_uprightsAt {s : Sg} {v2 v4 v6 : Int} {post : Int → Prop} (h : w_X8_uprightsAt s v2 v4 v6 post) : EvM mX8_uprightsAt 1 [(2, 45), (2, 1), (1, v2), (1, v4), (0, v6)] s (poI 0 s post) := by
  refine EvM_of rfl (by decide +kernel) (Nat.le_of_ble_eq_true rfl) ?_
  unfold w_X8_uprightsAt at h
  show Ev mX8_uprightsAt 1 0 [(0, (2, 45)), (1, (2, 1)), (2, (1, v2)), (4, (1, v4)), (6, (0, v6))] [] s (poI 0 s post)
  refine Ev_iconst (v := 0) dX8_uprightsAt_0 rfl ⟨by decide, by decide⟩ ?_
  refine Ev_istore dX8_uprightsAt_1 (by decide) rfl ?_
  refine Ev_iconst (v := 0) dX8_uprightsAt_3 rfl ⟨by decide, by decide⟩ ?_
  refine Ev_istore dX8_uprightsAt_4 (by decide) rfl ?_
  refine Ev_sub [2, 3, 4, 5, 6, 1, 0] rfl ?_
  refine li_2 (P := fun (v7_1 v8_2 : Int) => Ev mX8_uprightsAt 1 6 [(0, (2, 45)), (1, (2, 1)), (2, (1, v2)), (4, (1, v4)), (6, (0, v6)), (7, (0, v7_1)), (8, (0, v8_2))] [] s (poI 0 s post)) ?_ h
  intro again_3 v7_1 v8_2 hagain_3 h
  refine Ev_iload dX8_uprightsAt_6 6 rfl ?_
  refine Ev_aload_n dX8_uprightsAt_8 1 rfl ?_
  refine Ev_geti 1 dX8_uprightsAt_9 f_RX8_71 rfl sh_1 ?_
  refine Ev_icmp_ge (tgt := 75) dX8_uprightsAt_12 (by decide) (fun hc => ?_) (fun hc => ?_)
  · replace h := h.1 hc
    refine Ev_iload dX8_uprightsAt_75 5 rfl ?_
    exact Ev_ret dX8_uprightsAt_77 trivial (poI_mk h)
  · replace h := h.2 hc
    refine Ev_aload_n dX8_uprightsAt_15 1 rfl ?_
    refine Ev_iload dX8_uprightsAt_16 6 rfl ?_
    refine Ev_invV (d' := 0) [(0, v8_2)] 1 dX8_uprightsAt_18 M_X2_isUpright q_654 (by decide) rfl rfl sh_1 rfl (Nat.le_of_ble_eq_true rfl) (k_X2_isUpright h) ?_
    rintro _ _ ⟨rfl, r_4, rfl, h⟩
    refine jc_1 (P := fun (v7_5 : Int) => Ev mX8_uprightsAt 1 69 [(0, (2, 45)), (1, (2, 1)), (2, (1, v2)), (4, (1, v4)), (6, (0, v6)), (7, (0, v7_5)), (8, (0, v8_2))] [] s (poI 0 s post)) h ?_ ?_
    · intro v7_5 h
      obtain ⟨v8_7, ev8_7⟩ : ∃ z : Int, z = w32 (v8_2 + 1) := ⟨_, rfl⟩
      replace h := h v8_7 ev8_7
      refine Ev_iinc (v := v8_7) dX8_uprightsAt_69 6 rfl ev8_7.symm (by decide) rfl ?_
      refine Ev_goto (tgt := 6) dX8_uprightsAt_72 (by decide) ?_
      refine Ev_sub [1, 2, 3, 4, 5, 6, 0] rfl ?_
      exact hagain_3 _ _ h
    · intro K_6 hK_6 h
      refine Ev_if_eq (tgt := 69) dX8_uprightsAt_21 (by decide) (fun hc => ?_) (fun hc => ?_)
      · replace h := h.1 hc
        exact hK_6 _ h
      · replace h := h.2 hc
        refine Ev_aload_n dX8_uprightsAt_24 1 rfl ?_
        refine Ev_iload dX8_uprightsAt_25 6 rfl ?_
        refine Ev_lload_n dX8_uprightsAt_27 2 rfl ?_
        refine Ev_lload dX8_uprightsAt_28 3 rfl ?_
        refine Ev_invV (d' := 0) [(0, v8_2), (1, v2), (1, v4)] 1 dX8_uprightsAt_30 M_X2_reaches q_653 (by decide) rfl rfl sh_1 rfl (Nat.le_of_ble_eq_true rfl) (k_X2_reaches_1 h) ?_
        rintro _ _ ⟨rfl, r_8, rfl, h⟩
        refine Ev_if_eq (tgt := 69) dX8_uprightsAt_33 (by decide) (fun hc => ?_) (fun hc => ?_)
        · replace h := h.1 hc
          exact hK_6 _ h
        · replace h := h.2 hc
          refine Ev_aload_n dX8_uprightsAt_36 0 rfl ?_
          refine Ev_getr 45 (51) dX8_uprightsAt_37 f_RX8_28 rfl sh_45 rfl ?_
          refine Ev_iload dX8_uprightsAt_40 6 rfl ?_
          obtain ⟨hb_9, h⟩ := h
          refine Ev_iald (51) dX8_uprightsAt_42 rfl sh_51 hb_9 ?_
          refine Ev_iload dX8_uprightsAt_43 4 rfl ?_
          refine Ev_icmp_ge (tgt := 69) dX8_uprightsAt_45 (by decide) (fun hc => ?_) (fun hc => ?_)
          · replace h := h.1 hc
            exact hK_6 _ h
          · replace h := h.2 hc
            refine Ev_iload dX8_uprightsAt_48 4 rfl ?_
            refine Ev_aload_n dX8_uprightsAt_50 0 rfl ?_
            refine Ev_getr 45 (52) dX8_uprightsAt_51 f_RX8_31 rfl sh_45 rfl ?_
            refine Ev_iload dX8_uprightsAt_54 6 rfl ?_
            obtain ⟨hb_10, h⟩ := h
            refine Ev_iald (52) dX8_uprightsAt_56 rfl sh_52 hb_10 ?_
            refine Ev_icmp_gt (tgt := 69) dX8_uprightsAt_57 (by decide) (fun hc => ?_) (fun hc => ?_)
            · replace h := h.1 hc
              exact hK_6 _ h
            · replace h := h.2 hc
              refine Ev_iload dX8_uprightsAt_60 5 rfl ?_
              refine Ev_iconst (v := 1) dX8_uprightsAt_62 rfl ⟨by decide, by decide⟩ ?_
              refine Ev_iload dX8_uprightsAt_63 6 rfl ?_
              refine Ev_ishl dX8_uprightsAt_65 ?_
              refine Ev_ior dX8_uprightsAt_66 ?_
              obtain ⟨v7_11, ev7_11⟩ : ∃ z : Int, z = ior v7_1 (ishl 1 v8_2) := ⟨_, rfl⟩
              replace h := h v7_11 ev7_11
              rw [← ev7_11]
              refine Ev_istore dX8_uprightsAt_67 (by decide) rfl ?_
              refine Ev_sub [1, 2, 3, 4, 5, 0, 6] rfl ?_
              exact hK_6 _ h
theorem k_X8_find {s : Sg} {post : Sg → Prop} (h : w_X8_find s post) : EvM mX8_find 4 [(2, 45), (2, 1), (2, 38)] s (poV post) := by
  refine EvM_of rfl (by decide +kernel) (Nat.le_of_ble_eq_true rfl) ?_
  unfold w_X8_find at h
  show Ev mX8_find 4 0 [(0, (2, 45)), (1, (2, 1)), (2, (2, 38))] [] s (poV post)
  refine Ev_aload_n dX8_find_0 0 rfl ?_
  refine Ev_iconst (v := 0) dX8_find_1 rfl ⟨by decide, by decide⟩ ?_
  obtain ⟨s_1, es_1⟩ : ∃ z : Sg, z = (up s 45 0 0) := ⟨_, rfl⟩
  replace h := h s_1 es_1
  refine Ev_puti 45 dX8_find_2 fp_RX8_34 rfl sh_45 ?_
  rw [← es_1]
  refine Ev_iconst (v := 0) dX8_find_5 rfl ⟨by decide, by decide⟩ ?_
  refine Ev_istore_n dX8_find_6 (by decide) rfl ?_
  refine Ev_sub [1, 2, 3, 0] rfl ?_
  refine li_1s (P := fun (v3_2 : Int) (s_3 : Sg) => Ev mX8_find 4 7 [(0, (2, 45)), (1, (2, 1)), (2, (2, 38)), (3, (0, v3_2))] [] s_3 (poV post)) ?_ h
  intro again_4 v3_2 s_3 hagain_4 h
  refine Ev_iload_n dX8_find_7 3 rfl ?_
  refine Ev_aload_n dX8_find_8 2 rfl ?_
  refine Ev_geti 38 dX8_find_9 f_RX8_38 rfl sh_38 ?_
  refine Ev_icmp_ge (tgt := 139) dX8_find_12 (by decide) (fun hc => ?_) (fun hc => ?_)
  · replace h := h.1 hc
    exact Ev_retv dX8_find_139 rfl (poV_mk h)
  · replace h := h.2 hc
    refine Ev_aload_n dX8_find_15 0 rfl ?_
    refine Ev_aload_n dX8_find_16 1 rfl ?_
    refine Ev_aload_n dX8_find_17 2 rfl ?_
    refine Ev_getr 38 (39) dX8_find_18 f_RX8_43 rfl sh_38 rfl ?_
    refine Ev_iload_n dX8_find_21 3 rfl ?_
    obtain ⟨hb_5, h⟩ := h
    refine Ev_lald (39) dX8_find_22 rfl sh_39 hb_5 ?_
    refine Ev_aload_n dX8_find_23 2 rfl ?_
    refine Ev_getr 38 (40) dX8_find_24 f_RX8_46 rfl sh_38 rfl ?_
    refine Ev_iload_n dX8_find_27 3 rfl ?_
    obtain ⟨hb_6, h⟩ := h
    refine Ev_lald (40) dX8_find_28 rfl sh_40 hb_6 ?_
    refine Ev_invV (d' := 3) [(2, 1), (1, s_3 39 v3_2.toNat), (1, s_3 40 v3_2.toNat)] 45 dX8_find_29 M_X8_findSteps q_649 (by decide) rfl rfl sh_45 rfl (Nat.le_of_ble_eq_true rfl) (k_X8_findSteps h) ?_
    rintro _ s_7 ⟨rfl, h⟩
    refine Ev_aload_n dX8_find_32 2 rfl ?_
    refine Ev_getr 38 (41) dX8_find_33 f_RX8_53 rfl sh_38 rfl ?_
    refine Ev_iload_n dX8_find_36 3 rfl ?_
    obtain ⟨hb_8, h⟩ := h
    refine Ev_iald (41) dX8_find_37 rfl sh_41 hb_8 ?_
    obtain ⟨v4_9, ev4_9⟩ : ∃ z : Int, z = s_7 41 v3_2.toNat := ⟨_, rfl⟩
    replace h := h v4_9 ev4_9
    rw [← ev4_9]
    refine Ev_istore dX8_find_38 (by decide) rfl ?_
    refine Ev_aload_n dX8_find_40 3 rfl ?_
    refine Ev_getr 38 (41) dX8_find_41 f_RX8_53 rfl sh_38 rfl ?_
    refine Ev_iload_n dX8_find_44 4 rfl ?_
    refine Ev_iconst (v := 1) dX8_find_45 rfl ⟨by decide, by decide⟩ ?_
    refine Ev_iadd dX8_find_46 ?_
    obtain ⟨hb_10, h⟩ := h
    refine Ev_iald (41) dX8_find_47 rfl sh_41 hb_10 ?_
    obtain ⟨v5_11, ev5_11⟩ : ∃ z : Int, z = s_7 41 (w32 (v3_2 + 1)).toNat := ⟨_, rfl⟩
    replace h := h v5_11 ev5_11
    rw [← ev5_11]
    refine Ev_istore dX8_find_48 (by decide) rfl ?_
    refine Ev_iconst (v := 0) dX8_find_50 rfl ⟨by decide, by decide⟩ ?_
    refine Ev_istore dX8_find_51 (by decide) rfl ?_
    refine Ev_sub [3, 4, 5, 6, 2, 1, 0] rfl ?_
    refine li_3s (P := fun (v4_12 v5_13 v6_14 : Int) (s_15 : Sg) => Ev mX8_find 4 53 [(0, (2, 45)), (1, (2, 1)), (2, (2, 38)), (3, (0, v3_2)), (4, (0, v4_12)), (5, (0, v5_13)), (6, (0, v6_14))] [] s_15 (poV post)) ?_ h
    intro again_16 v4_12 v5_13 v6_14 s_15 hagain_16 h
    refine Ev_iload dX8_find_53 6 rfl ?_
    refine Ev_aload_n dX8_find_55 0 rfl ?_
    refine Ev_geti 45 dX8_find_56 f_RX8_56 rfl sh_45 ?_
    refine Ev_icmp_gt (tgt := 133) dX8_find_59 (by decide) (fun hc => ?_) (fun hc => ?_)
    · replace h := h.1 hc
      obtain ⟨v3_17, ev3_17⟩ : ∃ z : Int, z = w32 (v3_2 + 1) := ⟨_, rfl⟩
      replace h := h v3_17 ev3_17
      refine Ev_iinc (v := v3_17) dX8_find_133 3 rfl ev3_17.symm (by decide) rfl ?_
      refine Ev_goto (tgt := 7) dX8_find_136 (by decide) ?_
      refine Ev_sub [1, 2, 3, 0] rfl ?_
      exact hagain_4 _ _ h
    · replace h := h.2 hc
      refine Ev_aload_n dX8_find_62 0 rfl ?_
      refine Ev_aload_n dX8_find_63 2 rfl ?_
      refine Ev_iload dX8_find_64 4 rfl ?_
      refine Ev_aload_n dX8_find_66 2 rfl ?_
      refine Ev_getr 38 (41) dX8_find_67 f_RX8_53 rfl sh_38 rfl ?_
      refine Ev_iload_n dX8_find_70 3 rfl ?_
      refine Ev_iconst (v := 1) dX8_find_71 rfl ⟨by decide, by decide⟩ ?_
      refine Ev_iadd dX8_find_72 ?_
      obtain ⟨hb_18, h⟩ := h
      refine Ev_iald (41) dX8_find_73 rfl sh_41 hb_18 ?_
      refine Ev_iload dX8_find_74 6 rfl ?_
      refine Ev_invV (d' := 1) [(2, 38), (0, v4_12), (0, s_15 41 (w32 (v3_2 + 1)).toNat), (0, v6_14)] 45 dX8_find_76 M_X8_cellAt q_666 (by decide) rfl rfl sh_45 rfl (Nat.le_of_ble_eq_true rfl) (k_X8_cellAt h) ?_
      rintro _ _ ⟨rfl, r_19, rfl, h⟩
      refine Ev_istore dX8_find_79 (by decide) rfl ?_
      refine Ev_aload_n dX8_find_81 1 rfl ?_
      refine Ev_aload_n dX8_find_82 3 rfl ?_
      refine Ev_iload dX8_find_83 5 rfl ?_
      refine Ev_aload_n dX8_find_85 3 rfl ?_
      refine Ev_getr 38 (41) dX8_find_86 f_RX8_53 rfl sh_38 rfl ?_
      refine Ev_iload_n dX8_find_89 4 rfl ?_
      refine Ev_iconst (v := 2) dX8_find_90 rfl ⟨by decide, by decide⟩ ?_
      refine Ev_iadd dX8_find_91 ?_
      obtain ⟨hb_20, h⟩ := h
      refine Ev_iald (41) dX8_find_92 rfl sh_41 hb_20 ?_
      refine Ev_iload dX8_find_93 6 rfl ?_
      refine Ev_invV (d' := 1) [(2, 38), (0, v5_13), (0, s_15 41 (w32 (v3_2 + 2)).toNat), (0, v6_14)] 45 dX8_find_95 M_X8_cellAt q_666 (by decide) rfl rfl sh_45 rfl (Nat.le_of_ble_eq_true rfl) (k_X8_cellAt h) ?_
      rintro _ _ ⟨rfl, r_21, rfl, h⟩
      refine Ev_istore dX8_find_98 (by decide) rfl ?_
      refine Ev_aload_n dX8_find_100 2 rfl ?_
      refine Ev_iload dX8_find_101 1 rfl ?_
      refine Ev_iload dX8_find_103 0 rfl ?_
      refine Ev_aload_n dX8_find_105 2 rfl ?_
      refine Ev_aload_n dX8_find_106 3 rfl ?_
      refine Ev_aload_n dX8_find_107 4 rfl ?_
      refine Ev_getr 38 (39) dX8_find_108 f_RX8_43 rfl sh_38 rfl ?_
      refine Ev_iload_n dX8_find_111 5 rfl ?_
      obtain ⟨hb_22, h⟩ := h
      refine Ev_lald (39) dX8_find_112 rfl sh_39 hb_22 ?_
      refine Ev_aload_n dX8_find_113 4 rfl ?_
      refine Ev_getr 38 (40) dX8_find_114 f_RX8_46 rfl sh_38 rfl ?_
      refine Ev_iload_n dX8_find_117 5 rfl ?_
      obtain ⟨hb_23, h⟩ := h
      refine Ev_lald (40) dX8_find_118 rfl sh_40 hb_23 ?_
      refine Ev_iload dX8_find_119 6 rfl ?_
      refine Ev_invV (d' := 1) [(2, 1), (1, s_15 39 v3_2.toNat), (1, s_15 40 v3_2.toNat), (0, v6_14)] 45 dX8_find_121 M_X8_uprightsAt q_671 (by decide) rfl rfl sh_45 rfl (Nat.le_of_ble_eq_true rfl) (k_X8_uprightsAt h) ?_
      rintro _ _ ⟨rfl, r_24, rfl, h⟩
      refine Ev_invV (d' := 0) [(0, r_19), (0, r_21), (0, r_24)] 45 dX8_find_124 M_X8_add q_675 (by decide) rfl rfl sh_45 rfl (Nat.le_of_ble_eq_true rfl) (k_X8_add h) ?_
      rintro _ s_25 ⟨rfl, h⟩
      obtain ⟨v6_26, ev6_26⟩ : ∃ z : Int, z = w32 (v6_14 + 1) := ⟨_, rfl⟩
      replace h := h v6_26 ev6_26
      refine Ev_iinc (v := v6_26) dX8_find_127 6 rfl ev6_26.symm (by decide) rfl ?_
      refine Ev_goto (tgt := 53) dX8_find_130 (by decide) ?_
      refine Ev_sub [3, 4, 5, 6, 2, 1, 0] rfl ?_
      exact hagain_16 _ _ _ _ h
theorem k_X9_anew {s : Sg} {v0 : Int} {post : Int → Prop} (h : w_X9_anew v0 post) : EvM mX9_anew 0 [(0, v0)] s (poI 0 s post) := by
  refine EvM_of rfl (by decide +kernel) (Nat.le_of_ble_eq_true rfl) ?_
  unfold w_X9_anew at h
  show Ev mX9_anew 0 0 [(0, (0, v0))] [] s (poI 0 s post)
  refine Ev_iload_n dX9_anew_0 0 rfl ?_
  refine Ev_ldcw (v := 1103515245) dX9_anew_1 q_790 (by decide +kernel) ?_
  refine Ev_imul dX9_anew_4 ?_
  refine Ev_sipush (v := 12345) dX9_anew_5 (by decide +kernel) ?_
  refine Ev_iadd dX9_anew_8 ?_
  exact Ev_ret dX9_anew_9 trivial (poI_mk h)
theorem k_X9_forgetWhatFollows {s : Sg} {post : Sg → Prop} (h : w_X9_forgetWhatFollows s post) : EvM mX9_forgetWhatFollows 0 [(2, 0)] s (poV post) := by
  refine EvM_of rfl (by decide +kernel) (Nat.le_of_ble_eq_true rfl) ?_
  unfold w_X9_forgetWhatFollows at h
  show Ev mX9_forgetWhatFollows 0 0 [(0, (2, 0))] [] s (poV post)
  refine Ev_aload_n dX9_forgetWhatFollows_0 0 rfl ?_
  refine Ev_iconst (v := 0) dX9_forgetWhatFollows_1 rfl ⟨by decide, by decide⟩ ?_
  obtain ⟨s_1, es_1⟩ : ∃ z : Sg, z = (up s 0 13 0) := ⟨_, rfl⟩
  replace h := h s_1 es_1
  refine Ev_putz 0 dX9_forgetWhatFollows_2 fp_RX9_340 (by decide) rfl sh_0 ?_
  rw [← es_1]
  refine Ev_aload_n dX9_forgetWhatFollows_5 0 rfl ?_
  refine Ev_iconst (v := 0) dX9_forgetWhatFollows_6 rfl ⟨by decide, by decide⟩ ?_
  obtain ⟨s_2, es_2⟩ : ∃ z : Sg, z = (up s_1 0 14 0) := ⟨_, rfl⟩
  replace h := h s_2 es_2
  refine Ev_putz 0 dX9_forgetWhatFollows_7 fp_RX9_343 (by decide) rfl sh_0 ?_
  rw [← es_2]
  refine Ev_aload_n dX9_forgetWhatFollows_10 0 rfl ?_
  refine Ev_iconst (v := 0) dX9_forgetWhatFollows_11 rfl ⟨by decide, by decide⟩ ?_
  obtain ⟨s_3, es_3⟩ : ∃ z : Sg, z = (up s_2 0 15 0) := ⟨_, rfl⟩
  replace h := h s_3 es_3
  refine Ev_putz 0 dX9_forgetWhatFollows_12 fp_RX9_346 (by decide) rfl sh_0 ?_
  rw [← es_3]
  exact Ev_retv dX9_forgetWhatFollows_15 rfl (poV_mk h)
theorem k_X9_back {s : Sg} {post : Int → Sg → Prop} (h : w_X9_back s post) : EvM mX9_back 1 [(2, 0)] s (poIs 0 post) := by
  refine EvM_of rfl (by decide +kernel) (Nat.le_of_ble_eq_true rfl) ?_
  unfold w_X9_back at h
  show Ev mX9_back 1 0 [(0, (2, 0))] [] s (poIs 0 post)
  refine Ev_aload_n dX9_back_0 0 rfl ?_
  refine Ev_geti 0 dX9_back_1 f_RX9_312 rfl sh_0 ?_
  refine Ev_if_ne (tgt := 10) dX9_back_4 (by decide) (fun hc => ?_) (fun hc => ?_)
  · replace h := h.1 hc
    refine Ev_aload_n dX9_back_10 0 rfl ?_
    refine Ev_invV (d' := 0) [] 0 dX9_back_11 M_X9_forgetWhatFollows q_404 (by decide) rfl rfl sh_0 rfl (Nat.le_of_ble_eq_true rfl) (k_X9_forgetWhatFollows h) ?_
    rintro _ s_1 ⟨rfl, h⟩
    refine Ev_aload_n dX9_back_14 0 rfl ?_
    refine Ev_getr 0 (1) dX9_back_15 f_RX9_12 rfl sh_0 rfl ?_
    refine Ev_aload_n dX9_back_18 0 rfl ?_
    refine Ev_getr 0 (6) dX9_back_19 f_RX9_16 rfl sh_0 rfl ?_
    refine Ev_invV (d' := 0) [(2, 6)] 1 dX9_back_22 M_X2_become q_767 (by decide) rfl rfl sh_1 rfl (Nat.le_of_ble_eq_true rfl) (k_X2_become_1_6 h) ?_
    rintro _ s_2 ⟨rfl, h⟩
    refine Ev_aload_n dX9_back_25 0 rfl ?_
    refine Ev_getr 0 (1) dX9_back_26 f_RX9_12 rfl sh_0 rfl ?_
    refine Ev_geti 1 dX9_back_29 f_RX9_104 rfl sh_1 ?_
    exact Ev_ret dX9_back_32 trivial (poIs_mk h)
  · replace h := h.2 hc
    refine Ev_bipush (v := -3) dX9_back_7 (by decide +kernel) ?_
    exact Ev_ret dX9_back_9 trivial (poIs_mk h)
theorem k_X9_isCoordinate {s : Sg} {v0 : Int} {post : Int → Prop} (h : w_X9_isCoordinate v0 post) : EvM mX9_isCoordinate 0 [(0, v0)] s (poI 0 s post) := by
  refine EvM_of rfl (by decide +kernel) (Nat.le_of_ble_eq_true rfl) ?_
  unfold w_X9_isCoordinate at h
  show Ev mX9_isCoordinate 0 0 [(0, (0, v0))] [] s (poI 0 s post)
  refine Ev_iload_n dX9_isCoordinate_0 0 rfl ?_
  refine jc_1 (P := fun (t_1 : Int) => Ev mX9_isCoordinate 0 15 [] [(0, t_1)] s (poI 0 s post)) h ?_ ?_
  · intro t_1 h
    obtain ⟨hz, h⟩ := h
    exact Ev_ret dX9_isCoordinate_15 hz (poI_mk h)
  · intro K_2 hK_2 h
    refine jc_0 (P := Ev mX9_isCoordinate 0 14 [] [] s (poI 0 s post)) h ?_ ?_
    · intro  h
      refine Ev_iconst (v := 0) dX9_isCoordinate_14 rfl ⟨by decide, by decide⟩ ?_
      exact hK_2 _ h
    · intro K_3 hK_3 h
      refine Ev_if_lt (tgt := 14) dX9_isCoordinate_1 (by decide) (fun hc => ?_) (fun hc => ?_)
      · replace h := h.1 hc
        refine Ev_sub [] rfl ?_
        exact hK_3 h
      · replace h := h.2 hc
        refine Ev_iload_n dX9_isCoordinate_4 0 rfl ?_
        refine Ev_bipush (v := 40) dX9_isCoordinate_5 (by decide +kernel) ?_
        refine Ev_icmp_gt (tgt := 14) dX9_isCoordinate_7 (by decide) (fun hc => ?_) (fun hc => ?_)
        · replace h := h.1 hc
          refine Ev_sub [] rfl ?_
          exact hK_3 h
        · replace h := h.2 hc
          refine Ev_iconst (v := 1) dX9_isCoordinate_10 rfl ⟨by decide, by decide⟩ ?_
          refine Ev_goto (tgt := 15) dX9_isCoordinate_11 (by decide) ?_
          refine Ev_sub [] rfl ?_
          exact hK_2 _ h
theorem k_X9_canBeEnds {s : Sg} {v0 v1 v2 v3 : Int} {post : Int → Prop} (h : w_X9_canBeEnds v0 v1 v2 v3 post) : EvM mX9_canBeEnds 1 [(0, v0), (0, v1), (0, v2), (0, v3)] s (poI 0 s post) := by
  refine EvM_of rfl (by decide +kernel) (Nat.le_of_ble_eq_true rfl) ?_
  unfold w_X9_canBeEnds at h
  show Ev mX9_canBeEnds 1 0 [(0, (0, v0)), (1, (0, v1)), (2, (0, v2)), (3, (0, v3))] [] s (poI 0 s post)
  refine Ev_iload_n dX9_canBeEnds_0 0 rfl ?_
  refine Ev_invS (d' := 0) [(0, v0)] dX9_canBeEnds_1 M_X9_isCoordinate (Or.inl q_397) (by decide) rfl (Nat.le_of_ble_eq_true rfl) (k_X9_isCoordinate h) ?_
  rintro _ _ ⟨rfl, r_1, rfl, h⟩
  refine jc_1 (P := fun (t_2 : Int) => Ev mX9_canBeEnds 1 43 [] [(0, t_2)] s (poI 0 s post)) h ?_ ?_
  · intro t_2 h
    obtain ⟨hz, h⟩ := h
    exact Ev_ret dX9_canBeEnds_43 hz (poI_mk h)
  · intro K_3 hK_3 h
    refine jc_0 (P := Ev mX9_canBeEnds 1 42 [] [] s (poI 0 s post)) h ?_ ?_
    · intro  h
      refine Ev_iconst (v := 0) dX9_canBeEnds_42 rfl ⟨by decide, by decide⟩ ?_
      exact hK_3 _ h
    · intro K_4 hK_4 h
      refine Ev_if_eq (tgt := 42) dX9_canBeEnds_4 (by decide) (fun hc => ?_) (fun hc => ?_)
      · replace h := h.1 hc
        refine Ev_sub [] rfl ?_
        exact hK_4 h
      · replace h := h.2 hc
        refine Ev_iload_n dX9_canBeEnds_7 1 rfl ?_
        refine Ev_invS (d' := 0) [(0, v1)] dX9_canBeEnds_8 M_X9_isCoordinate (Or.inl q_397) (by decide) rfl (Nat.le_of_ble_eq_true rfl) (k_X9_isCoordinate h) ?_
        rintro _ _ ⟨rfl, r_5, rfl, h⟩
        refine Ev_if_eq (tgt := 42) dX9_canBeEnds_11 (by decide) (fun hc => ?_) (fun hc => ?_)
        · replace h := h.1 hc
          refine Ev_sub [] rfl ?_
          exact hK_4 h
        · replace h := h.2 hc
          refine Ev_iload_n dX9_canBeEnds_14 2 rfl ?_
          refine Ev_invS (d' := 0) [(0, v2)] dX9_canBeEnds_15 M_X9_isCoordinate (Or.inl q_397) (by decide) rfl (Nat.le_of_ble_eq_true rfl) (k_X9_isCoordinate h) ?_
          rintro _ _ ⟨rfl, r_6, rfl, h⟩
          refine Ev_if_eq (tgt := 42) dX9_canBeEnds_18 (by decide) (fun hc => ?_) (fun hc => ?_)
          · replace h := h.1 hc
            refine Ev_sub [] rfl ?_
            exact hK_4 h
          · replace h := h.2 hc
            refine Ev_iload_n dX9_canBeEnds_21 3 rfl ?_
            refine Ev_invS (d' := 0) [(0, v3)] dX9_canBeEnds_22 M_X9_isCoordinate (Or.inl q_397) (by decide) rfl (Nat.le_of_ble_eq_true rfl) (k_X9_isCoordinate h) ?_
            rintro _ _ ⟨rfl, r_7, rfl, h⟩
            refine Ev_if_eq (tgt := 42) dX9_canBeEnds_25 (by decide) (fun hc => ?_) (fun hc => ?_)
            · replace h := h.1 hc
              refine Ev_sub [] rfl ?_
              exact hK_4 h
            · replace h := h.2 hc
              refine Ev_iload_n dX9_canBeEnds_28 0 rfl ?_
              refine Ev_iload_n dX9_canBeEnds_29 2 rfl ?_
              refine jc_0 (P := Ev mX9_canBeEnds 1 38 [] [] s (poI 0 s post)) h ?_ ?_
              · intro  h
                refine Ev_iconst (v := 1) dX9_canBeEnds_38 rfl ⟨by decide, by decide⟩ ?_
                refine Ev_goto (tgt := 43) dX9_canBeEnds_39 (by decide) ?_
                exact hK_3 _ h
              · intro K_8 hK_8 h
                refine Ev_icmp_ne (tgt := 38) dX9_canBeEnds_30 (by decide) (fun hc => ?_) (fun hc => ?_)
                · replace h := h.1 hc
                  refine Ev_sub [] rfl ?_
                  exact hK_8 h
                · replace h := h.2 hc
                  refine Ev_iload_n dX9_canBeEnds_33 1 rfl ?_
                  refine Ev_iload_n dX9_canBeEnds_34 3 rfl ?_
                  refine Ev_icmp_eq (tgt := 42) dX9_canBeEnds_35 (by decide) (fun hc => ?_) (fun hc => ?_)
                  · replace h := h.1 hc
                    refine Ev_sub [] rfl ?_
                    exact hK_4 h
                  · replace h := h.2 hc
                    refine Ev_sub [] rfl ?_
                    exact hK_8 h
theorem k_X9_canBePlace {s : Sg} {v0 v1 v2 : Int} {post : Int → Prop} (h : w_X9_canBePlace v0 v1 v2 post) : EvM mX9_canBePlace 0 [(0, v0), (0, v1), (0, v2)] s (poI 0 s post) := by
  refine EvM_of rfl (by decide +kernel) (Nat.le_of_ble_eq_true rfl) ?_
  unfold w_X9_canBePlace at h
  show Ev mX9_canBePlace 0 0 [(0, (0, v0)), (1, (0, v1)), (2, (0, v2))] [] s (poI 0 s post)
  refine Ev_iload_n dX9_canBePlace_0 0 rfl ?_
  refine Ev_sipush (v := -400) dX9_canBePlace_1 (by decide +kernel) ?_
  refine jc_1 (P := fun (t_1 : Int) => Ev mX9_canBePlace 0 44 [] [(0, t_1)] s (poI 0 s post)) h ?_ ?_
  · intro t_1 h
    obtain ⟨hz, h⟩ := h
    exact Ev_ret dX9_canBePlace_44 hz (poI_mk h)
  · intro K_2 hK_2 h
    refine jc_0 (P := Ev mX9_canBePlace 0 43 [] [] s (poI 0 s post)) h ?_ ?_
    · intro  h
      refine Ev_iconst (v := 0) dX9_canBePlace_43 rfl ⟨by decide, by decide⟩ ?_
      exact hK_2 _ h
    · intro K_3 hK_3 h
      refine Ev_icmp_lt (tgt := 43) dX9_canBePlace_4 (by decide) (fun hc => ?_) (fun hc => ?_)
      · replace h := h.1 hc
        refine Ev_sub [] rfl ?_
        exact hK_3 h
      · replace h := h.2 hc
        refine Ev_iload_n dX9_canBePlace_7 0 rfl ?_
        refine Ev_sipush (v := 800) dX9_canBePlace_8 (by decide +kernel) ?_
        refine Ev_icmp_gt (tgt := 43) dX9_canBePlace_11 (by decide) (fun hc => ?_) (fun hc => ?_)
        · replace h := h.1 hc
          refine Ev_sub [] rfl ?_
          exact hK_3 h
        · replace h := h.2 hc
          refine Ev_iload_n dX9_canBePlace_14 1 rfl ?_
          refine Ev_sipush (v := -400) dX9_canBePlace_15 (by decide +kernel) ?_
          refine Ev_icmp_lt (tgt := 43) dX9_canBePlace_18 (by decide) (fun hc => ?_) (fun hc => ?_)
          · replace h := h.1 hc
            refine Ev_sub [] rfl ?_
            exact hK_3 h
          · replace h := h.2 hc
            refine Ev_iload_n dX9_canBePlace_21 1 rfl ?_
            refine Ev_sipush (v := 800) dX9_canBePlace_22 (by decide +kernel) ?_
            refine Ev_icmp_gt (tgt := 43) dX9_canBePlace_25 (by decide) (fun hc => ?_) (fun hc => ?_)
            · replace h := h.1 hc
              refine Ev_sub [] rfl ?_
              exact hK_3 h
            · replace h := h.2 hc
              refine Ev_iload_n dX9_canBePlace_28 2 rfl ?_
              refine Ev_iconst (v := 1) dX9_canBePlace_29 rfl ⟨by decide, by decide⟩ ?_
              refine Ev_icmp_lt (tgt := 43) dX9_canBePlace_30 (by decide) (fun hc => ?_) (fun hc => ?_)
              · replace h := h.1 hc
                refine Ev_sub [] rfl ?_
                exact hK_3 h
              · replace h := h.2 hc
                refine Ev_iload_n dX9_canBePlace_33 2 rfl ?_
                refine Ev_bipush (v := 10) dX9_canBePlace_34 (by decide +kernel) ?_
                refine Ev_icmp_gt (tgt := 43) dX9_canBePlace_36 (by decide) (fun hc => ?_) (fun hc => ?_)
                · replace h := h.1 hc
                  refine Ev_sub [] rfl ?_
                  exact hK_3 h
                · replace h := h.2 hc
                  refine Ev_iconst (v := 1) dX9_canBePlace_39 rfl ⟨by decide, by decide⟩ ?_
                  refine Ev_goto (tgt := 44) dX9_canBePlace_40 (by decide) ?_
                  refine Ev_sub [] rfl ?_
                  exact hK_2 _ h
theorem k_X9_knowFaces {s : Sg} {post : Sg → Prop} (h : w_X9_knowFaces s post) : EvM mX9_knowFaces 5 [(2, 0)] s (poV post) := by
  refine EvM_of rfl (by decide +kernel) (Nat.le_of_ble_eq_true rfl) ?_
  unfold w_X9_knowFaces at h
  show Ev mX9_knowFaces 5 0 [(0, (2, 0))] [] s (poV post)
  refine Ev_aload_n dX9_knowFaces_0 0 rfl ?_
  refine Ev_geti 0 dX9_knowFaces_1 f_RX9_343 rfl sh_0 ?_
  refine Ev_if_eq (tgt := 8) dX9_knowFaces_4 (by decide) (fun hc => ?_) (fun hc => ?_)
  · replace h := h.1 hc
    refine Ev_aload_n dX9_knowFaces_8 0 rfl ?_
    refine Ev_geti 0 dX9_knowFaces_9 f_RX9_340 rfl sh_0 ?_
    refine jc_0s (P := fun (s_1 : Sg) => Ev mX9_knowFaces 5 31 [(0, (2, 0))] [] s_1 (poV post)) h ?_ ?_
    · intro s_1 h
      refine Ev_aload_n dX9_knowFaces_31 0 rfl ?_
      refine Ev_getr 0 (38) dX9_knowFaces_32 f_RX9_49 rfl sh_0 rfl ?_
      refine Ev_aload_n dX9_knowFaces_35 0 rfl ?_
      refine Ev_getr 0 (1) dX9_knowFaces_36 f_RX9_12 rfl sh_0 rfl ?_
      refine Ev_aload_n dX9_knowFaces_39 0 rfl ?_
      refine Ev_getr 0 (16) dX9_knowFaces_40 f_RX9_25 rfl sh_0 rfl ?_
      refine Ev_aload_n dX9_knowFaces_43 0 rfl ?_
      refine Ev_getr 0 (35) dX9_knowFaces_44 f_RX9_42 rfl sh_0 rfl ?_
      refine Ev_invV (d' := 4) [(2, 1), (2, 16), (2, 35)] 38 dX9_knowFaces_47 M_X6_cut q_625 (by decide) rfl rfl sh_38 rfl (Nat.le_of_ble_eq_true rfl) (k_X6_cut h) ?_
      rintro _ s_3 ⟨rfl, h⟩
      refine Ev_aload_n dX9_knowFaces_50 0 rfl ?_
      refine Ev_getr 0 (45) dX9_knowFaces_51 f_RX9_56 rfl sh_0 rfl ?_
      refine Ev_aload_n dX9_knowFaces_54 0 rfl ?_
      refine Ev_getr 0 (1) dX9_knowFaces_55 f_RX9_12 rfl sh_0 rfl ?_
      refine Ev_aload_n dX9_knowFaces_58 0 rfl ?_
      refine Ev_getr 0 (38) dX9_knowFaces_59 f_RX9_49 rfl sh_0 rfl ?_
      refine Ev_invV (d' := 4) [(2, 1), (2, 38)] 45 dX9_knowFaces_62 M_X8_find q_645 (by decide) rfl rfl sh_45 rfl (Nat.le_of_ble_eq_true rfl) (k_X8_find h) ?_
      rintro _ s_4 ⟨rfl, h⟩
      refine Ev_aload_n dX9_knowFaces_65 0 rfl ?_
      refine Ev_getr 0 (53) dX9_knowFaces_66 f_RX9_63 rfl sh_0 rfl ?_
      refine Ev_aload_n dX9_knowFaces_69 0 rfl ?_
      refine Ev_getr 0 (38) dX9_knowFaces_70 f_RX9_49 rfl sh_0 rfl ?_
      refine Ev_aload_n dX9_knowFaces_73 0 rfl ?_
      refine Ev_getr 0 (45) dX9_knowFaces_74 f_RX9_56 rfl sh_0 rfl ?_
      refine Ev_invV (d' := 2) [(2, 38), (2, 45)] 53 dX9_knowFaces_77 M_X0_join q_679 (by decide) rfl rfl sh_53 rfl (Nat.le_of_ble_eq_true rfl) (k_X0_join h) ?_
      rintro _ s_5 ⟨rfl, h⟩
      refine Ev_aload_n dX9_knowFaces_80 0 rfl ?_
      refine Ev_iconst (v := 1) dX9_knowFaces_81 rfl ⟨by decide, by decide⟩ ?_
      obtain ⟨s_6, es_6⟩ : ∃ z : Sg, z = (up s_5 0 14 1) := ⟨_, rfl⟩
      replace h := h s_6 es_6
      refine Ev_putz 0 dX9_knowFaces_82 fp_RX9_343 (by decide) rfl sh_0 ?_
      rw [← es_6]
      exact Ev_retv dX9_knowFaces_85 rfl (poV_mk h)
    · intro K_2 hK_2 h
      refine Ev_if_ne (tgt := 31) dX9_knowFaces_12 (by decide) (fun hc => ?_) (fun hc => ?_)
      · replace h := h.1 hc
        exact hK_2 _ h
      · replace h := h.2 hc
        refine Ev_aload_n dX9_knowFaces_15 0 rfl ?_
        refine Ev_getr 0 (16) dX9_knowFaces_16 f_RX9_25 rfl sh_0 rfl ?_
        refine Ev_aload_n dX9_knowFaces_19 0 rfl ?_
        refine Ev_getr 0 (1) dX9_knowFaces_20 f_RX9_12 rfl sh_0 rfl ?_
        refine Ev_invV (d' := 4) [(2, 1)] 16 dX9_knowFaces_23 M_X4_find q_447 (by decide) rfl rfl sh_16 rfl (Nat.le_of_ble_eq_true rfl) (k_X4_find_16_1 h) ?_
        rintro _ s_7 ⟨rfl, h⟩
        refine Ev_aload_n dX9_knowFaces_26 0 rfl ?_
        refine Ev_iconst (v := 1) dX9_knowFaces_27 rfl ⟨by decide, by decide⟩ ?_
        obtain ⟨s_8, es_8⟩ : ∃ z : Sg, z = (up s_7 0 13 1) := ⟨_, rfl⟩
        replace h := h s_8 es_8
        refine Ev_putz 0 dX9_knowFaces_28 fp_RX9_340 (by decide) rfl sh_0 ?_
        rw [← es_8]
        exact hK_2 _ h
  · replace h := h.2 hc
    exact Ev_retv dX9_knowFaces_7 rfl (poV_mk h)
theorem k_X9_cell {s : Sg} {v1 v2 : Int} {post : Int → Sg → Prop} (h : w_X9_cell s v1 v2 post) : EvM mX9_cell 6 [(2, 0), (0, v1), (0, v2)] s (poIs 0 post) := by
  refine EvM_of rfl (by decide +kernel) (Nat.le_of_ble_eq_true rfl) ?_
  unfold w_X9_cell at h
  show Ev mX9_cell 6 0 [(0, (2, 0)), (1, (0, v1)), (2, (0, v2))] [] s (poIs 0 post)
  refine Ev_iload_n dX9_cell_0 2 rfl ?_
  refine jc_0 (P := Ev mX9_cell 6 9 [] [] s (poIs 0 post)) h ?_ ?_
  · intro  h
    refine Ev_bipush (v := -2) dX9_cell_9 (by decide +kernel) ?_
    exact Ev_ret dX9_cell_11 trivial (poIs_mk h)
  · intro K_1 hK_1 h
    refine Ev_if_lt (tgt := 9) dX9_cell_1 (by decide) (fun hc => ?_) (fun hc => ?_)
    · replace h := h.1 hc
      refine Ev_sub [] rfl ?_
      exact hK_1 h
    · replace h := h.2 hc
      refine Ev_iload_n dX9_cell_4 2 rfl ?_
      refine Ev_iconst (v := 3) dX9_cell_5 rfl ⟨by decide, by decide⟩ ?_
      refine Ev_icmp_le (tgt := 12) dX9_cell_6 (by decide) (fun hc => ?_) (fun hc => ?_)
      · replace h := h.1 hc
        refine Ev_aload_n dX9_cell_12 0 rfl ?_
        refine Ev_invV (d' := 5) [] 0 dX9_cell_13 M_X9_knowFaces q_621 (by decide) rfl rfl sh_0 rfl (Nat.le_of_ble_eq_true rfl) (k_X9_knowFaces h) ?_
        rintro _ s_2 ⟨rfl, h⟩
        refine Ev_iload_n dX9_cell_16 1 rfl ?_
        refine jc_0 (P := Ev mX9_cell 6 31 [] [] s_2 (poIs 0 post)) h ?_ ?_
        · intro  h
          refine Ev_bipush (v := -12) dX9_cell_31 (by decide +kernel) ?_
          exact Ev_ret dX9_cell_33 trivial (poIs_mk h)
        · intro K_3 hK_3 h
          refine Ev_if_lt (tgt := 31) dX9_cell_17 (by decide) (fun hc => ?_) (fun hc => ?_)
          · replace h := h.1 hc
            refine Ev_sub [] rfl ?_
            exact hK_3 h
          · replace h := h.2 hc
            refine Ev_iload_n dX9_cell_20 1 rfl ?_
            refine Ev_aload_n dX9_cell_21 0 rfl ?_
            refine Ev_getr 0 (38) dX9_cell_22 f_RX9_49 rfl sh_0 rfl ?_
            refine Ev_geti 38 dX9_cell_25 f_RX9_208 rfl sh_38 ?_
            refine Ev_icmp_lt (tgt := 34) dX9_cell_28 (by decide) (fun hc => ?_) (fun hc => ?_)
            · replace h := h.1 hc
              refine Ev_iload_n dX9_cell_34 2 rfl ?_
              rcases (show v2 = 0 ∨ v2 = 1 ∨ v2 = 2 ∨ (v2 < 0 ∨ 2 < v2) by omega) with hc | hc | hc | hc
              · replace h := h.1 hc
                refine Ev_tabIn (tgt := 60) (off := 25) dX9_cell_35 (by omega) (by omega) (by rw [hc]; rfl) (by decide) ?_
                refine Ev_aload_n dX9_cell_60 0 rfl ?_
                refine Ev_getr 0 (38) dX9_cell_61 f_RX9_49 rfl sh_0 rfl ?_
                refine Ev_getr 38 (42) dX9_cell_64 f_RX9_211 rfl sh_38 rfl ?_
                refine Ev_iload_n dX9_cell_67 1 rfl ?_
                obtain ⟨hb_4, h⟩ := h
                refine Ev_iald (42) dX9_cell_68 rfl sh_42 hb_4 ?_
                exact Ev_ret dX9_cell_69 trivial (poIs_mk h)
              · replace h := h.2.1 hc
                refine Ev_tabIn (tgt := 70) (off := 35) dX9_cell_35 (by omega) (by omega) (by rw [hc]; rfl) (by decide) ?_
                refine Ev_aload_n dX9_cell_70 0 rfl ?_
                refine Ev_getr 0 (53) dX9_cell_71 f_RX9_63 rfl sh_0 rfl ?_
                refine Ev_getr 53 (55) dX9_cell_74 f_RX9_214 rfl sh_53 rfl ?_
                refine Ev_iload_n dX9_cell_77 1 rfl ?_
                obtain ⟨hb_5, h⟩ := h
                refine Ev_iald (55) dX9_cell_78 rfl sh_55 hb_5 ?_
                exact Ev_ret dX9_cell_79 trivial (poIs_mk h)
              · replace h := h.2.2.1 hc
                refine Ev_tabIn (tgt := 80) (off := 45) dX9_cell_35 (by omega) (by omega) (by rw [hc]; rfl) (by decide) ?_
                refine Ev_aload_n dX9_cell_80 0 rfl ?_
                refine Ev_getr 0 (38) dX9_cell_81 f_RX9_49 rfl sh_0 rfl ?_
                refine Ev_getr 38 (43) dX9_cell_84 f_RX9_217 rfl sh_38 rfl ?_
                refine Ev_iload_n dX9_cell_87 1 rfl ?_
                obtain ⟨hb_6, h⟩ := h
                refine Ev_iald (43) dX9_cell_88 rfl sh_43 hb_6 ?_
                refine Ev_invS (d' := 0) [(0, s_2 43 v1.toNat)] dX9_cell_89 M_X9_leastOf (Or.inl q_713) (by decide) rfl (Nat.le_of_ble_eq_true rfl) (k_X9_leastOf h) ?_
                rintro _ _ ⟨rfl, r_7, rfl, h⟩
                exact Ev_ret dX9_cell_92 trivial (poIs_mk h)
              · replace h := h.2.2.2 hc
                refine Ev_tabOut (tgt := 93) dX9_cell_35 hc (by decide) ?_
                refine Ev_aload_n dX9_cell_93 0 rfl ?_
                refine Ev_getr 0 (38) dX9_cell_94 f_RX9_49 rfl sh_0 rfl ?_
                refine Ev_getr 38 (44) dX9_cell_97 f_RX9_223 rfl sh_38 rfl ?_
                refine Ev_iload_n dX9_cell_100 1 rfl ?_
                obtain ⟨hb_8, h⟩ := h
                refine Ev_iald (44) dX9_cell_101 rfl sh_44 hb_8 ?_
                refine Ev_invS (d' := 0) [(0, s_2 44 v1.toNat)] dX9_cell_102 M_X9_leastOf (Or.inl q_713) (by decide) rfl (Nat.le_of_ble_eq_true rfl) (k_X9_leastOf h) ?_
                rintro _ _ ⟨rfl, r_9, rfl, h⟩
                exact Ev_ret dX9_cell_105 trivial (poIs_mk h)
            · replace h := h.2 hc
              refine Ev_sub [] rfl ?_
              exact hK_3 h
      · replace h := h.2 hc
        refine Ev_sub [] rfl ?_
        exact hK_1 h
theorem k_X9_coordinateBy {s : Sg} {v0 : Int} {post : Int → Prop} (h : w_X9_coordinateBy v0 post) : EvM mX9_coordinateBy 0 [(0, v0)] s (poI 0 s post) := by
  refine EvM_of rfl (by decide +kernel) (Nat.le_of_ble_eq_true rfl) ?_
  unfold w_X9_coordinateBy at h
  show Ev mX9_coordinateBy 0 0 [(0, (0, v0))] [] s (poI 0 s post)
  refine Ev_iload_n dX9_coordinateBy_0 0 rfl ?_
  refine Ev_bipush (v := 9) dX9_coordinateBy_1 (by decide +kernel) ?_
  refine Ev_iushr dX9_coordinateBy_3 ?_
  refine Ev_bipush (v := 41) dX9_coordinateBy_4 (by decide +kernel) ?_
  obtain ⟨hb, h⟩ := h
  refine Ev_irem dX9_coordinateBy_6 hb ?_
  exact Ev_ret dX9_coordinateBy_7 trivial (poI_mk h)
theorem k_X9_facesDrawn {s : Sg} {v1 v2 : Int} {post : Int → Sg → Prop} (h : w_X9_facesDrawn s v1 v2 post) : EvM mX9_facesDrawn 5 [(2, 0), (0, v1), (0, v2)] s (poIs 0 post) := by
  refine EvM_of rfl (by decide +kernel) (Nat.le_of_ble_eq_true rfl) ?_
  unfold w_X9_facesDrawn at h
  show Ev mX9_facesDrawn 5 0 [(0, (2, 0)), (1, (0, v1)), (2, (0, v2))] [] s (poIs 0 post)
  refine Ev_aload_n dX9_facesDrawn_0 0 rfl ?_
  refine Ev_getr 0 (11) dX9_facesDrawn_1 f_RX9_19 rfl sh_0 rfl ?_
  refine Ev_aload_n dX9_facesDrawn_4 0 rfl ?_
  refine Ev_getr 0 (1) dX9_facesDrawn_5 f_RX9_12 rfl sh_0 rfl ?_
  refine Ev_invV (d' := 0) [(2, 1)] 11 dX9_facesDrawn_8 M_X2_become q_767 (by decide) rfl rfl sh_11 rfl (Nat.le_of_ble_eq_true rfl) (k_X2_become_11_1 h) ?_
  rintro _ s_1 ⟨rfl, h⟩
  refine Ev_iload_n dX9_facesDrawn_11 1 rfl ?_
  refine Ev_istore_n dX9_facesDrawn_12 (by decide) rfl ?_
  refine Ev_iconst (v := 0) dX9_facesDrawn_13 rfl ⟨by decide, by decide⟩ ?_
  refine Ev_istore dX9_facesDrawn_14 (by decide) rfl ?_
  refine Ev_sub [2, 4, 1, 0] rfl ?_
  refine li_2s (P := fun (v3_2 v4_3 : Int) (s_4 : Sg) => Ev mX9_facesDrawn 5 16 [(0, (2, 0)), (2, (0, v2)), (3, (0, v3_2)), (4, (0, v4_3))] [] s_4 (poIs 0 post)) ?_ h
  intro again_5 v3_2 v4_3 s_4 hagain_5 h
  refine Ev_iload dX9_facesDrawn_16 3 rfl ?_
  refine Ev_iload_n dX9_facesDrawn_18 1 rfl ?_
  refine Ev_icmp_ge (tgt := 112) dX9_facesDrawn_19 (by decide) (fun hc => ?_) (fun hc => ?_)
  · replace h := h.1 hc
    refine Ev_aload_n dX9_facesDrawn_112 0 rfl ?_
    refine Ev_getr 0 (25) dX9_facesDrawn_113 f_RX9_29 rfl sh_0 rfl ?_
    refine Ev_aload_n dX9_facesDrawn_116 0 rfl ?_
    refine Ev_getr 0 (11) dX9_facesDrawn_117 f_RX9_19 rfl sh_0 rfl ?_
    refine Ev_invV (d' := 4) [(2, 11)] 25 dX9_facesDrawn_120 M_X4_find q_447 (by decide) rfl rfl sh_25 rfl (Nat.le_of_ble_eq_true rfl) (k_X4_find_25_11 h) ?_
    rintro _ s_6 ⟨rfl, h⟩
    refine Ev_aload_n dX9_facesDrawn_123 0 rfl ?_
    refine Ev_getr 0 (25) dX9_facesDrawn_124 f_RX9_29 rfl sh_0 rfl ?_
    refine Ev_invV (d' := 0) [] 25 dX9_facesDrawn_127 M_X4_facesAround q_771 (by decide) rfl rfl sh_25 rfl (Nat.le_of_ble_eq_true rfl) (k_X4_facesAround h) ?_
    rintro _ _ ⟨rfl, r_7, rfl, h⟩
    exact Ev_ret dX9_facesDrawn_130 trivial (poIs_mk h)
  · replace h := h.2 hc
    refine Ev_iload_n dX9_facesDrawn_22 2 rfl ?_
    refine Ev_invS (d' := 0) [(0, v3_2)] dX9_facesDrawn_23 M_X9_anew (Or.inl q_787) (by decide) rfl (Nat.le_of_ble_eq_true rfl) (k_X9_anew h) ?_
    rintro _ _ ⟨rfl, r_8, rfl, h⟩
    refine Ev_istore_n dX9_facesDrawn_26 (by decide) rfl ?_
    refine Ev_iload_n dX9_facesDrawn_27 0 rfl ?_
    refine Ev_invS (d' := 0) [(0, r_8)] dX9_facesDrawn_28 M_X9_coordinateBy (Or.inl q_791) (by decide) rfl (Nat.le_of_ble_eq_true rfl) (k_X9_coordinateBy h) ?_
    rintro _ _ ⟨rfl, r_9, rfl, h⟩
    refine Ev_istore dX9_facesDrawn_31 (by decide) rfl ?_
    refine Ev_iload_n dX9_facesDrawn_33 1 rfl ?_
    refine Ev_invS (d' := 0) [(0, r_8)] dX9_facesDrawn_34 M_X9_anew (Or.inl q_787) (by decide) rfl (Nat.le_of_ble_eq_true rfl) (k_X9_anew h) ?_
    rintro _ _ ⟨rfl, r_10, rfl, h⟩
    refine Ev_istore_n dX9_facesDrawn_37 (by decide) rfl ?_
    refine Ev_iload_n dX9_facesDrawn_38 0 rfl ?_
    refine Ev_invS (d' := 0) [(0, r_10)] dX9_facesDrawn_39 M_X9_coordinateBy (Or.inl q_791) (by decide) rfl (Nat.le_of_ble_eq_true rfl) (k_X9_coordinateBy h) ?_
    rintro _ _ ⟨rfl, r_11, rfl, h⟩
    refine Ev_istore dX9_facesDrawn_42 (by decide) rfl ?_
    refine Ev_iload_n dX9_facesDrawn_44 1 rfl ?_
    refine Ev_invS (d' := 0) [(0, r_10)] dX9_facesDrawn_45 M_X9_anew (Or.inl q_787) (by decide) rfl (Nat.le_of_ble_eq_true rfl) (k_X9_anew h) ?_
    rintro _ _ ⟨rfl, r_12, rfl, h⟩
    refine Ev_istore_n dX9_facesDrawn_48 (by decide) rfl ?_
    refine Ev_iload_n dX9_facesDrawn_49 0 rfl ?_
    refine Ev_invS (d' := 0) [(0, r_12)] dX9_facesDrawn_50 M_X9_coordinateBy (Or.inl q_791) (by decide) rfl (Nat.le_of_ble_eq_true rfl) (k_X9_coordinateBy h) ?_
    rintro _ _ ⟨rfl, r_13, rfl, h⟩
    refine Ev_istore dX9_facesDrawn_53 (by decide) rfl ?_
    refine Ev_iload_n dX9_facesDrawn_55 1 rfl ?_
    refine Ev_invS (d' := 0) [(0, r_12)] dX9_facesDrawn_56 M_X9_anew (Or.inl q_787) (by decide) rfl (Nat.le_of_ble_eq_true rfl) (k_X9_anew h) ?_
    rintro _ _ ⟨rfl, r_14, rfl, h⟩
    refine Ev_istore_n dX9_facesDrawn_59 (by decide) rfl ?_
    refine Ev_iload_n dX9_facesDrawn_60 0 rfl ?_
    refine Ev_invS (d' := 0) [(0, r_14)] dX9_facesDrawn_61 M_X9_coordinateBy (Or.inl q_791) (by decide) rfl (Nat.le_of_ble_eq_true rfl) (k_X9_coordinateBy h) ?_
    rintro _ _ ⟨rfl, r_15, rfl, h⟩
    refine Ev_istore dX9_facesDrawn_64 (by decide) rfl ?_
    refine Ev_iload dX9_facesDrawn_66 4 rfl ?_
    refine Ev_iload dX9_facesDrawn_68 3 rfl ?_
    refine Ev_iload dX9_facesDrawn_70 2 rfl ?_
    refine Ev_iload dX9_facesDrawn_72 0 rfl ?_
    refine Ev_invS (d' := 1) [(0, r_9), (0, r_11), (0, r_13), (0, r_15)] dX9_facesDrawn_74 M_X9_canBeEnds (Or.inl q_394) (by decide) rfl (Nat.le_of_ble_eq_true rfl) (k_X9_canBeEnds h) ?_
    rintro _ _ ⟨rfl, r_16, rfl, h⟩
    refine jc_0s (P := fun (s_17 : Sg) => Ev mX9_facesDrawn 5 106 [(0, (2, 0)), (2, (0, v2)), (3, (0, r_14)), (4, (0, v4_3))] [] s_17 (poIs 0 post)) h ?_ ?_
    · intro s_17 h
      obtain ⟨v4_19, ev4_19⟩ : ∃ z : Int, z = w32 (v4_3 + 1) := ⟨_, rfl⟩
      replace h := h v4_19 ev4_19
      refine Ev_iinc (v := v4_19) dX9_facesDrawn_106 3 rfl ev4_19.symm (by decide) rfl ?_
      refine Ev_goto (tgt := 16) dX9_facesDrawn_109 (by decide) ?_
      refine Ev_sub [1, 2, 3, 0] rfl ?_
      exact hagain_5 _ _ _ h
    · intro K_18 hK_18 h
      refine Ev_if_eq (tgt := 106) dX9_facesDrawn_77 (by decide) (fun hc => ?_) (fun hc => ?_)
      · replace h := h.1 hc
        refine Ev_sub [5, 6, 1, 7] rfl ?_
        exact hK_18 _ h
      · replace h := h.2 hc
        refine Ev_aload_n dX9_facesDrawn_80 5 rfl ?_
        refine Ev_getr 0 (11) dX9_facesDrawn_81 f_RX9_19 rfl sh_0 rfl ?_
        refine Ev_invV (d' := 0) [] 11 dX9_facesDrawn_84 M_X2_isFull q_400 (by decide) rfl rfl sh_11 rfl (Nat.le_of_ble_eq_true rfl) (k_X2_isFull_11 h) ?_
        rintro _ _ ⟨rfl, r_20, rfl, h⟩
        refine Ev_if_ne (tgt := 106) dX9_facesDrawn_87 (by decide) (fun hc => ?_) (fun hc => ?_)
        · replace h := h.1 hc
          refine Ev_sub [5, 6, 1, 7] rfl ?_
          exact hK_18 _ h
        · replace h := h.2 hc
          refine Ev_aload_n dX9_facesDrawn_90 5 rfl ?_
          refine Ev_getr 0 (11) dX9_facesDrawn_91 f_RX9_19 rfl sh_0 rfl ?_
          refine Ev_iload dX9_facesDrawn_94 4 rfl ?_
          refine Ev_iload dX9_facesDrawn_96 3 rfl ?_
          refine Ev_iload dX9_facesDrawn_98 2 rfl ?_
          refine Ev_iload dX9_facesDrawn_100 0 rfl ?_
          refine Ev_invV (d' := 2) [(0, r_9), (0, r_11), (0, r_13), (0, r_15)] 11 dX9_facesDrawn_102 M_X2_add q_408 (by decide) rfl rfl sh_11 rfl (Nat.le_of_ble_eq_true rfl) (k_X2_add_11 h) ?_
          rintro _ s_22 ⟨r_21, rfl, h⟩
          refine Ev_pop dX9_facesDrawn_105 (show ¬ (0 : Nat) = 1 by decide) ?_
          refine Ev_sub [5, 6, 1, 7] rfl ?_
          exact hK_18 _ h
theorem k_X9_chance {s : Sg} {v1 v2 v3 v4 : Int} {post : Int → Sg → Prop} (h : w_X9_chance s v1 v2 v3 v4 post) : EvM mX9_chance 6 [(2, 0), (0, v1), (0, v2), (0, v3), (0, v4)] s (poIs 0 post) := by
  refine EvM_of rfl (by decide +kernel) (Nat.le_of_ble_eq_true rfl) ?_
  unfold w_X9_chance at h
  show Ev mX9_chance 6 0 [(0, (2, 0)), (1, (0, v1)), (2, (0, v2)), (3, (0, v3)), (4, (0, v4))] [] s (poIs 0 post)
  refine Ev_iload_n dX9_chance_0 2 rfl ?_
  refine Ev_iconst (v := 1) dX9_chance_1 rfl ⟨by decide, by decide⟩ ?_
  refine jc_0 (P := Ev mX9_chance 6 31 [] [] s (poIs 0 post)) h ?_ ?_
  · intro  h
    refine Ev_bipush (v := -2) dX9_chance_31 (by decide +kernel) ?_
    exact Ev_ret dX9_chance_33 trivial (poIs_mk h)
  · intro K_1 hK_1 h
    refine Ev_icmp_lt (tgt := 31) dX9_chance_2 (by decide) (fun hc => ?_) (fun hc => ?_)
    · replace h := h.1 hc
      refine Ev_sub [] rfl ?_
      exact hK_1 h
    · replace h := h.2 hc
      refine Ev_iload_n dX9_chance_5 2 rfl ?_
      refine Ev_iconst (v := 5) dX9_chance_6 rfl ⟨by decide, by decide⟩ ?_
      refine Ev_icmp_gt (tgt := 31) dX9_chance_7 (by decide) (fun hc => ?_) (fun hc => ?_)
      · replace h := h.1 hc
        refine Ev_sub [] rfl ?_
        exact hK_1 h
      · replace h := h.2 hc
        refine Ev_iload_n dX9_chance_10 3 rfl ?_
        refine Ev_if_lt (tgt := 31) dX9_chance_11 (by decide) (fun hc => ?_) (fun hc => ?_)
        · replace h := h.1 hc
          refine Ev_sub [] rfl ?_
          exact hK_1 h
        · replace h := h.2 hc
          refine Ev_iload_n dX9_chance_14 3 rfl ?_
          refine Ev_bipush (v := 99) dX9_chance_15 (by decide +kernel) ?_
          refine Ev_icmp_gt (tgt := 31) dX9_chance_17 (by decide) (fun hc => ?_) (fun hc => ?_)
          · replace h := h.1 hc
            refine Ev_sub [] rfl ?_
            exact hK_1 h
          · replace h := h.2 hc
            refine Ev_iload dX9_chance_20 4 rfl ?_
            refine Ev_if_lt (tgt := 31) dX9_chance_22 (by decide) (fun hc => ?_) (fun hc => ?_)
            · replace h := h.1 hc
              refine Ev_sub [] rfl ?_
              exact hK_1 h
            · replace h := h.2 hc
              refine Ev_iload dX9_chance_25 4 rfl ?_
              refine Ev_iconst (v := 1) dX9_chance_27 rfl ⟨by decide, by decide⟩ ?_
              refine Ev_icmp_le (tgt := 34) dX9_chance_28 (by decide) (fun hc => ?_) (fun hc => ?_)
              · replace h := h.1 hc
                refine Ev_iconst (v := 0) dX9_chance_34 rfl ⟨by decide, by decide⟩ ?_
                refine Ev_istore dX9_chance_35 (by decide) rfl ?_
                refine Ev_iconst (v := 0) dX9_chance_37 rfl ⟨by decide, by decide⟩ ?_
                refine Ev_istore dX9_chance_38 (by decide) rfl ?_
                refine Ev_sub [2, 3, 4, 5, 6, 1, 0] rfl ?_
                refine li_2s (P := fun (v5_2 v6_3 : Int) (s_4 : Sg) => Ev mX9_chance 6 40 [(0, (2, 0)), (1, (0, v1)), (2, (0, v2)), (3, (0, v3)), (4, (0, v4)), (5, (0, v5_2)), (6, (0, v6_3))] [] s_4 (poIs 0 post)) ?_ h
                intro again_5 v5_2 v6_3 s_4 hagain_5 h
                refine Ev_iload dX9_chance_40 6 rfl ?_
                refine Ev_iload_n dX9_chance_42 2 rfl ?_
                refine Ev_icmp_ge (tgt := 68) dX9_chance_43 (by decide) (fun hc => ?_) (fun hc => ?_)
                · replace h := h.1 hc
                  refine Ev_iload dX9_chance_68 4 rfl ?_
                  refine jc_1 (P := fun (t_6 : Int) => Ev mX9_chance 6 79 [(2, (0, v2)), (5, (0, v5_2))] [(0, t_6)] s_4 (poIs 0 post)) h ?_ ?_
                  · intro t_6 h
                    refine Ev_iload dX9_chance_79 1 rfl ?_
                    refine Ev_i2l dX9_chance_81 ?_
                    refine Ev_iload_n dX9_chance_82 0 rfl ?_
                    refine Ev_i2l dX9_chance_83 ?_
                    refine Ev_invS (d' := 0) [(1, v5_2), (1, v2)] dX9_chance_84 M_X9_commonDivisor (Or.inl q_798) (by decide) rfl (Nat.le_of_ble_eq_true rfl) (k_X9_commonDivisor h) ?_
                    rintro _ _ ⟨rfl, r_8, rfl, h⟩
                    refine Ev_l2i dX9_chance_87 ?_
                    obtain ⟨hb, h⟩ := h
                    refine Ev_idiv dX9_chance_88 hb ?_
                    exact Ev_ret dX9_chance_89 trivial (poIs_mk h)
                  · intro K_7 hK_7 h
                    refine Ev_if_ne (tgt := 78) dX9_chance_70 (by decide) (fun hc => ?_) (fun hc => ?_)
                    · replace h := h.1 hc
                      refine Ev_iload_n dX9_chance_78 2 rfl ?_
                      refine Ev_sub [2, 5] rfl ?_
                      exact hK_7 _ h
                    · replace h := h.2 hc
                      refine Ev_iload dX9_chance_73 5 rfl ?_
                      refine Ev_goto (tgt := 79) dX9_chance_75 (by decide) ?_
                      refine Ev_sub [2, 5] rfl ?_
                      exact hK_7 _ h
                · replace h := h.2 hc
                  refine Ev_aload_n dX9_chance_46 0 rfl ?_
                  refine Ev_iload_n dX9_chance_47 1 rfl ?_
                  refine Ev_iload dX9_chance_48 6 rfl ?_
                  refine Ev_iadd dX9_chance_50 ?_
                  refine Ev_iconst (v := 3) dX9_chance_51 rfl ⟨by decide, by decide⟩ ?_
                  refine Ev_invV (d' := 5) [(0, w32 (v1 + v6_3)), (0, 3)] 0 dX9_chance_52 M_X9_facesDrawn q_783 (by decide) rfl rfl sh_0 rfl (Nat.le_of_ble_eq_true rfl) (k_X9_facesDrawn h) ?_
                  rintro _ s_10 ⟨r_9, rfl, h⟩
                  refine Ev_iload_n dX9_chance_55 3 rfl ?_
                  refine jc_1 (P := fun (v5_11 : Int) => Ev mX9_chance 6 62 [(0, (2, 0)), (1, (0, v1)), (2, (0, v2)), (3, (0, v3)), (4, (0, v4)), (5, (0, v5_11)), (6, (0, v6_3))] [] s_10 (poIs 0 post)) h ?_ ?_
                  · intro v5_11 h
                    obtain ⟨v6_13, ev6_13⟩ : ∃ z : Int, z = w32 (v6_3 + 1) := ⟨_, rfl⟩
                    replace h := h v6_13 ev6_13
                    refine Ev_iinc (v := v6_13) dX9_chance_62 6 rfl ev6_13.symm (by decide) rfl ?_
                    refine Ev_goto (tgt := 40) dX9_chance_65 (by decide) ?_
                    refine Ev_sub [1, 2, 3, 4, 5, 6, 0] rfl ?_
                    exact hagain_5 _ _ _ h
                  · intro K_12 hK_12 h
                    refine Ev_icmp_lt (tgt := 62) dX9_chance_56 (by decide) (fun hc => ?_) (fun hc => ?_)
                    · replace h := h.1 hc
                      exact hK_12 _ h
                    · replace h := h.2 hc
                      obtain ⟨v5_14, ev5_14⟩ : ∃ z : Int, z = w32 (v5_2 + 1) := ⟨_, rfl⟩
                      replace h := h v5_14 ev5_14
                      refine Ev_iinc (v := v5_14) dX9_chance_59 5 rfl ev5_14.symm (by decide) rfl ?_
                      refine Ev_sub [1, 2, 3, 4, 5, 0, 6] rfl ?_
                      exact hK_12 _ h
              · replace h := h.2 hc
                refine Ev_sub [] rfl ?_
                exact hK_1 h
theorem k_X9_copy {s : Sg} {v1 v2 v3 v4 v5 : Int} {post : Int → Sg → Prop} (h : w_X9_copy s v1 v2 v3 v4 v5 post) : EvM mX9_copy 2 [(2, 0), (0, v1), (0, v2), (0, v3), (0, v4), (0, v5)] s (poIs 0 post) := by
  refine EvM_of rfl (by decide +kernel) (Nat.le_of_ble_eq_true rfl) ?_
  unfold w_X9_copy at h
  show Ev mX9_copy 2 0 [(0, (2, 0)), (1, (0, v1)), (2, (0, v2)), (3, (0, v3)), (4, (0, v4)), (5, (0, v5))] [] s (poIs 0 post)
  refine Ev_aload_n dX9_copy_0 0 rfl ?_
  refine Ev_getr 0 (64) dX9_copy_1 f_RX9_77 rfl sh_0 rfl ?_
  refine Ev_iload_n dX9_copy_4 1 rfl ?_
  refine Ev_invV (d' := 0) [(0, v1)] 64 dX9_copy_5 M_X5_isOne q_803 (by decide) rfl rfl sh_64 rfl (Nat.le_of_ble_eq_true rfl) (k_X5_isOne h) ?_
  rintro _ _ ⟨rfl, r_1, rfl, h⟩
  refine jc_0 (P := Ev mX9_copy 2 22 [] [] s (poIs 0 post)) h ?_ ?_
  · intro  h
    refine Ev_bipush (v := -2) dX9_copy_22 (by decide +kernel) ?_
    exact Ev_ret dX9_copy_24 trivial (poIs_mk h)
  · intro K_2 hK_2 h
    refine Ev_if_eq (tgt := 22) dX9_copy_8 (by decide) (fun hc => ?_) (fun hc => ?_)
    · replace h := h.1 hc
      refine Ev_sub [] rfl ?_
      exact hK_2 h
    · replace h := h.2 hc
      refine Ev_aload_n dX9_copy_11 0 rfl ?_
      refine Ev_getr 0 (64) dX9_copy_12 f_RX9_77 rfl sh_0 rfl ?_
      refine Ev_iload_n dX9_copy_15 3 rfl ?_
      refine Ev_invV (d' := 0) [(0, v3)] 64 dX9_copy_16 M_X5_isOne q_803 (by decide) rfl rfl sh_64 rfl (Nat.le_of_ble_eq_true rfl) (k_X5_isOne h) ?_
      rintro _ _ ⟨rfl, r_3, rfl, h⟩
      refine Ev_if_ne (tgt := 25) dX9_copy_19 (by decide) (fun hc => ?_) (fun hc => ?_)
      · replace h := h.1 hc
        refine Ev_aload_n dX9_copy_25 0 rfl ?_
        refine Ev_getr 0 (64) dX9_copy_26 f_RX9_77 rfl sh_0 rfl ?_
        refine Ev_iload_n dX9_copy_29 1 rfl ?_
        refine Ev_invV (d' := 0) [(0, v1)] 64 dX9_copy_30 M_X5_isMissing q_807 (by decide) rfl rfl sh_64 rfl (Nat.le_of_ble_eq_true rfl) (k_X5_isMissing h) ?_
        rintro _ _ ⟨rfl, r_4, rfl, h⟩
        refine jc_0 (P := Ev mX9_copy 2 47 [] [] s (poIs 0 post)) h ?_ ?_
        · intro  h
          refine Ev_bipush (v := -11) dX9_copy_47 (by decide +kernel) ?_
          exact Ev_ret dX9_copy_49 trivial (poIs_mk h)
        · intro K_5 hK_5 h
          refine Ev_if_ne (tgt := 47) dX9_copy_33 (by decide) (fun hc => ?_) (fun hc => ?_)
          · replace h := h.1 hc
            refine Ev_sub [] rfl ?_
            exact hK_5 h
          · replace h := h.2 hc
            refine Ev_aload_n dX9_copy_36 0 rfl ?_
            refine Ev_getr 0 (64) dX9_copy_37 f_RX9_77 rfl sh_0 rfl ?_
            refine Ev_iload_n dX9_copy_40 3 rfl ?_
            refine Ev_invV (d' := 0) [(0, v3)] 64 dX9_copy_41 M_X5_isMissing q_807 (by decide) rfl rfl sh_64 rfl (Nat.le_of_ble_eq_true rfl) (k_X5_isMissing h) ?_
            rintro _ _ ⟨rfl, r_6, rfl, h⟩
            refine Ev_if_eq (tgt := 50) dX9_copy_44 (by decide) (fun hc => ?_) (fun hc => ?_)
            · replace h := h.1 hc
              refine Ev_aload_n dX9_copy_50 0 rfl ?_
              refine Ev_getr 0 (64) dX9_copy_51 f_RX9_77 rfl sh_0 rfl ?_
              refine Ev_getr 64 (65) dX9_copy_54 f_RX9_319 rfl sh_64 rfl ?_
              refine Ev_iload_n dX9_copy_57 1 rfl ?_
              obtain ⟨hb_7, h⟩ := h
              refine Ev_iald (65) dX9_copy_58 rfl sh_65 hb_7 ?_
              refine Ev_aload_n dX9_copy_59 0 rfl ?_
              refine Ev_getr 0 (64) dX9_copy_60 f_RX9_77 rfl sh_0 rfl ?_
              refine Ev_getr 64 (65) dX9_copy_63 f_RX9_319 rfl sh_64 rfl ?_
              refine Ev_iload_n dX9_copy_66 3 rfl ?_
              obtain ⟨hb_8, h⟩ := h
              refine Ev_iald (65) dX9_copy_67 rfl sh_65 hb_8 ?_
              refine Ev_icmp_eq (tgt := 74) dX9_copy_68 (by decide) (fun hc => ?_) (fun hc => ?_)
              · replace h := h.1 hc
                refine Ev_iload dX9_copy_74 5 rfl ?_
                refine jc_0 (P := Ev mX9_copy 2 108 [] [] s (poIs 0 post)) h ?_ ?_
                · intro  h
                  refine Ev_bipush (v := -12) dX9_copy_108 (by decide +kernel) ?_
                  exact Ev_ret dX9_copy_110 trivial (poIs_mk h)
                · intro K_9 hK_9 h
                  refine Ev_if_lt (tgt := 108) dX9_copy_76 (by decide) (fun hc => ?_) (fun hc => ?_)
                  · replace h := h.1 hc
                    refine Ev_sub [] rfl ?_
                    exact hK_9 h
                  · replace h := h.2 hc
                    refine Ev_aload_n dX9_copy_79 0 rfl ?_
                    refine Ev_getr 0 (64) dX9_copy_80 f_RX9_77 rfl sh_0 rfl ?_
                    refine Ev_iload_n dX9_copy_83 1 rfl ?_
                    refine Ev_iload_n dX9_copy_84 2 rfl ?_
                    refine Ev_iload dX9_copy_85 5 rfl ?_
                    refine Ev_invV (d' := 0) [(0, v1), (0, v2), (0, v5)] 64 dX9_copy_87 M_X5_hasRow q_863 (by decide) rfl rfl sh_64 rfl (Nat.le_of_ble_eq_true rfl) (k_X5_hasRow h) ?_
                    rintro _ _ ⟨rfl, r_10, rfl, h⟩
                    refine Ev_if_eq (tgt := 108) dX9_copy_90 (by decide) (fun hc => ?_) (fun hc => ?_)
                    · replace h := h.1 hc
                      refine Ev_sub [] rfl ?_
                      exact hK_9 h
                    · replace h := h.2 hc
                      refine Ev_aload_n dX9_copy_93 0 rfl ?_
                      refine Ev_getr 0 (64) dX9_copy_94 f_RX9_77 rfl sh_0 rfl ?_
                      refine Ev_iload_n dX9_copy_97 3 rfl ?_
                      refine Ev_iload dX9_copy_98 4 rfl ?_
                      refine Ev_iload dX9_copy_100 5 rfl ?_
                      refine Ev_invV (d' := 0) [(0, v3), (0, v4), (0, v5)] 64 dX9_copy_102 M_X5_hasRow q_863 (by decide) rfl rfl sh_64 rfl (Nat.le_of_ble_eq_true rfl) (k_X5_hasRow h) ?_
                      rintro _ _ ⟨rfl, r_11, rfl, h⟩
                      refine Ev_if_ne (tgt := 111) dX9_copy_105 (by decide) (fun hc => ?_) (fun hc => ?_)
                      · replace h := h.1 hc
                        refine Ev_aload_n dX9_copy_111 0 rfl ?_
                        refine Ev_getr 0 (64) dX9_copy_112 f_RX9_77 rfl sh_0 rfl ?_
                        refine Ev_getr 64 (67) dX9_copy_115 f_RX9_325 rfl sh_64 rfl ?_
                        refine Ev_iload_n dX9_copy_118 1 rfl ?_
                        refine Ev_bipush (v := 40) dX9_copy_119 (by decide +kernel) ?_
                        refine Ev_imul dX9_copy_121 ?_
                        refine Ev_iload_n dX9_copy_122 2 rfl ?_
                        refine Ev_iadd dX9_copy_123 ?_
                        refine Ev_aload_n dX9_copy_124 0 rfl ?_
                        refine Ev_getr 0 (64) dX9_copy_125 f_RX9_77 rfl sh_0 rfl ?_
                        refine Ev_getr 64 (67) dX9_copy_128 f_RX9_325 rfl sh_64 rfl ?_
                        refine Ev_iload_n dX9_copy_131 3 rfl ?_
                        refine Ev_bipush (v := 40) dX9_copy_132 (by decide +kernel) ?_
                        refine Ev_imul dX9_copy_134 ?_
                        refine Ev_iload dX9_copy_135 4 rfl ?_
                        refine Ev_iadd dX9_copy_137 ?_
                        refine Ev_iload dX9_copy_138 5 rfl ?_
                        obtain ⟨hb_12, h⟩ := h
                        obtain ⟨s_13, es_13⟩ : ∃ z : Sg, z = (cpy s 67 (w32 ((w32 (v1 * 40)) + v2)) 67 (w32 ((w32 (v3 * 40)) + v4)) v5) := ⟨_, rfl⟩
                        replace h := h s_13 es_13
                        refine Ev_copy (67) (67) dX9_copy_140 ⟨q_867, q_869, q_868, q_15⟩ (by decide) (Nat.le_of_ble_eq_true rfl) rfl rfl sh_67 sh_67 hb_12 ?_
                        rw [← es_13]
                        refine Ev_iload dX9_copy_143 5 rfl ?_
                        exact Ev_ret dX9_copy_145 trivial (poIs_mk h)
                      · replace h := h.2 hc
                        refine Ev_sub [] rfl ?_
                        exact hK_9 h
              · replace h := h.2 hc
                refine Ev_bipush (v := -13) dX9_copy_71 (by decide +kernel) ?_
                exact Ev_ret dX9_copy_73 trivial (poIs_mk h)
            · replace h := h.2 hc
              refine Ev_sub [] rfl ?_
              exact hK_5 h
      · replace h := h.2 hc
        refine Ev_sub [] rfl ?_
        exact hK_2 h
theorem k_X9_knowHulls {s : Sg} {post : Sg → Prop} (h : w_X9_knowHulls s post) : EvM mX9_knowHulls 5 [(2, 0)] s (poV post) := by
  refine EvM_of rfl (by decide +kernel) (Nat.le_of_ble_eq_true rfl) ?_
  unfold w_X9_knowHulls at h
  show Ev mX9_knowHulls 5 0 [(0, (2, 0))] [] s (poV post)
  refine Ev_aload_n dX9_knowHulls_0 0 rfl ?_
  refine Ev_geti 0 dX9_knowHulls_1 f_RX9_346 rfl sh_0 ?_
  refine jc_0s (P := fun (s_1 : Sg) => Ev mX9_knowHulls 5 23 [] [] s_1 (poV post)) h ?_ ?_
  · intro s_1 h
    exact Ev_retv dX9_knowHulls_23 rfl (poV_mk h)
  · intro K_2 hK_2 h
    refine Ev_if_ne (tgt := 23) dX9_knowHulls_4 (by decide) (fun hc => ?_) (fun hc => ?_)
    · replace h := h.1 hc
      refine Ev_sub [] rfl ?_
      exact hK_2 _ h
    · replace h := h.2 hc
      refine Ev_aload_n dX9_knowHulls_7 0 rfl ?_
      refine Ev_getr 0 (60) dX9_knowHulls_8 f_RX9_70 rfl sh_0 rfl ?_
      refine Ev_aload_n dX9_knowHulls_11 0 rfl ?_
      refine Ev_getr 0 (1) dX9_knowHulls_12 f_RX9_12 rfl sh_0 rfl ?_
      refine Ev_invV (d' := 4) [(2, 1)] 60 dX9_knowHulls_15 M_X1_peel q_541 (by decide) rfl rfl sh_60 rfl (Nat.le_of_ble_eq_true rfl) (k_X1_peel h) ?_
      rintro _ s_3 ⟨rfl, h⟩
      refine Ev_aload_n dX9_knowHulls_18 0 rfl ?_
      refine Ev_iconst (v := 1) dX9_knowHulls_19 rfl ⟨by decide, by decide⟩ ?_
      obtain ⟨s_4, es_4⟩ : ∃ z : Sg, z = (up s_3 0 15 1) := ⟨_, rfl⟩
      replace h := h s_4 es_4
      refine Ev_putz 0 dX9_knowHulls_20 fp_RX9_346 (by decide) rfl sh_0 ?_
      rw [← es_4]
      refine Ev_sub [] rfl ?_
      exact hK_2 _ h
theorem k_X9_knowPoints {s : Sg} {post : Sg → Prop} (h : w_X9_knowPoints s post) : EvM mX9_knowPoints 5 [(2, 0)] s (poV post) := by
  refine EvM_of rfl (by decide +kernel) (Nat.le_of_ble_eq_true rfl) ?_
  unfold w_X9_knowPoints at h
  show Ev mX9_knowPoints 5 0 [(0, (2, 0))] [] s (poV post)
  refine Ev_aload_n dX9_knowPoints_0 0 rfl ?_
  refine Ev_geti 0 dX9_knowPoints_1 f_RX9_340 rfl sh_0 ?_
  refine jc_0s (P := fun (s_1 : Sg) => Ev mX9_knowPoints 5 23 [] [] s_1 (poV post)) h ?_ ?_
  · intro s_1 h
    exact Ev_retv dX9_knowPoints_23 rfl (poV_mk h)
  · intro K_2 hK_2 h
    refine Ev_if_ne (tgt := 23) dX9_knowPoints_4 (by decide) (fun hc => ?_) (fun hc => ?_)
    · replace h := h.1 hc
      refine Ev_sub [] rfl ?_
      exact hK_2 _ h
    · replace h := h.2 hc
      refine Ev_aload_n dX9_knowPoints_7 0 rfl ?_
      refine Ev_getr 0 (16) dX9_knowPoints_8 f_RX9_25 rfl sh_0 rfl ?_
      refine Ev_aload_n dX9_knowPoints_11 0 rfl ?_
      refine Ev_getr 0 (1) dX9_knowPoints_12 f_RX9_12 rfl sh_0 rfl ?_
      refine Ev_invV (d' := 4) [(2, 1)] 16 dX9_knowPoints_15 M_X4_find q_447 (by decide) rfl rfl sh_16 rfl (Nat.le_of_ble_eq_true rfl) (k_X4_find_16_1 h) ?_
      rintro _ s_3 ⟨rfl, h⟩
      refine Ev_aload_n dX9_knowPoints_18 0 rfl ?_
      refine Ev_iconst (v := 1) dX9_knowPoints_19 rfl ⟨by decide, by decide⟩ ?_
      obtain ⟨s_4, es_4⟩ : ∃ z : Sg, z = (up s_3 0 13 1) := ⟨_, rfl⟩
      replace h := h s_4 es_4
      refine Ev_putz 0 dX9_knowPoints_20 fp_RX9_340 (by decide) rfl sh_0 ?_
      rw [← es_4]
      refine Ev_sub [] rfl ?_
      exact hK_2 _ h
theorem k_X9_count {s : Sg} {v1 : Int} {post : Int → Sg → Prop} (h : w_X9_count s v1 post) : EvM mX9_count 6 [(2, 0), (0, v1)] s (poIs 0 post) := by
  refine EvM_of rfl (by decide +kernel) (Nat.le_of_ble_eq_true rfl) ?_
  unfold w_X9_count at h
  show Ev mX9_count 6 0 [(0, (2, 0)), (1, (0, v1))] [] s (poIs 0 post)
  refine Ev_iload_n dX9_count_0 1 rfl ?_
  refine jc_0 (P := Ev mX9_count 6 10 [] [] s (poIs 0 post)) h ?_ ?_
  · intro  h
    refine Ev_bipush (v := -2) dX9_count_10 (by decide +kernel) ?_
    exact Ev_ret dX9_count_12 trivial (poIs_mk h)
  · intro K_1 hK_1 h
    refine Ev_if_lt (tgt := 10) dX9_count_1 (by decide) (fun hc => ?_) (fun hc => ?_)
    · replace h := h.1 hc
      refine Ev_sub [] rfl ?_
      exact hK_1 h
    · replace h := h.2 hc
      refine Ev_iload_n dX9_count_4 1 rfl ?_
      refine Ev_bipush (v := 10) dX9_count_5 (by decide +kernel) ?_
      refine Ev_icmp_le (tgt := 13) dX9_count_7 (by decide) (fun hc => ?_) (fun hc => ?_)
      · replace h := h.1 hc
        refine Ev_iload_n dX9_count_13 1 rfl ?_
        refine Ev_iconst (v := 4) dX9_count_14 rfl ⟨by decide, by decide⟩ ?_
        refine jc_0s (P := fun (s_2 : Sg) => Ev mX9_count 6 48 [(0, (2, 0)), (1, (0, v1))] [] s_2 (poIs 0 post)) h ?_ ?_
        · intro s_2 h
          refine Ev_iload_n dX9_count_48 1 rfl ?_
          rcases (show v1 = 0 ∨ v1 = 1 ∨ v1 = 2 ∨ v1 = 3 ∨ v1 = 4 ∨ v1 = 5 ∨ v1 = 6 ∨ v1 = 7 ∨ v1 = 8 ∨ v1 = 9 ∨ (v1 < 0 ∨ 9 < v1) by omega) with hc | hc | hc | hc | hc | hc | hc | hc | hc | hc | hc
          · replace h := h.1 hc
            refine Ev_tabIn (tgt := 104) (off := 55) dX9_count_49 (by omega) (by omega) (by rw [hc]; rfl) (by decide) ?_
            refine Ev_aload_n dX9_count_104 0 rfl ?_
            refine Ev_getr 0 (1) dX9_count_105 f_RX9_12 rfl sh_0 rfl ?_
            refine Ev_geti 1 dX9_count_108 f_RX9_104 rfl sh_1 ?_
            exact Ev_ret dX9_count_111 trivial (poIs_mk h)
          · replace h := h.2.1 hc
            refine Ev_tabIn (tgt := 112) (off := 63) dX9_count_49 (by omega) (by omega) (by rw [hc]; rfl) (by decide) ?_
            refine Ev_aload_n dX9_count_112 0 rfl ?_
            refine Ev_getr 0 (16) dX9_count_113 f_RX9_25 rfl sh_0 rfl ?_
            refine Ev_geti 16 dX9_count_116 f_RX9_169 rfl sh_16 ?_
            exact Ev_ret dX9_count_119 trivial (poIs_mk h)
          · replace h := h.2.2.1 hc
            refine Ev_tabIn (tgt := 120) (off := 71) dX9_count_49 (by omega) (by omega) (by rw [hc]; rfl) (by decide) ?_
            refine Ev_aload_n dX9_count_120 0 rfl ?_
            refine Ev_getr 0 (16) dX9_count_121 f_RX9_25 rfl sh_0 rfl ?_
            refine Ev_geti 16 dX9_count_124 f_RX9_259 rfl sh_16 ?_
            exact Ev_ret dX9_count_127 trivial (poIs_mk h)
          · replace h := h.2.2.2.1 hc
            refine Ev_tabIn (tgt := 128) (off := 79) dX9_count_49 (by omega) (by omega) (by rw [hc]; rfl) (by decide) ?_
            refine Ev_aload_n dX9_count_128 0 rfl ?_
            refine Ev_getr 0 (16) dX9_count_129 f_RX9_25 rfl sh_0 rfl ?_
            refine Ev_geti 16 dX9_count_132 f_RX9_262 rfl sh_16 ?_
            exact Ev_ret dX9_count_135 trivial (poIs_mk h)
          · replace h := h.2.2.2.2.1 hc
            refine Ev_tabIn (tgt := 136) (off := 87) dX9_count_49 (by omega) (by omega) (by rw [hc]; rfl) (by decide) ?_
            refine Ev_aload_n dX9_count_136 0 rfl ?_
            refine Ev_getr 0 (38) dX9_count_137 f_RX9_49 rfl sh_0 rfl ?_
            refine Ev_geti 38 dX9_count_140 f_RX9_200 rfl sh_38 ?_
            refine Ev_iconst (v := 1) dX9_count_143 rfl ⟨by decide, by decide⟩ ?_
            refine Ev_iadd dX9_count_144 ?_
            exact Ev_ret dX9_count_145 trivial (poIs_mk h)
          · replace h := h.2.2.2.2.2.1 hc
            refine Ev_tabIn (tgt := 146) (off := 97) dX9_count_49 (by omega) (by omega) (by rw [hc]; rfl) (by decide) ?_
            refine Ev_aload_n dX9_count_146 0 rfl ?_
            refine Ev_getr 0 (38) dX9_count_147 f_RX9_49 rfl sh_0 rfl ?_
            refine Ev_geti 38 dX9_count_150 f_RX9_208 rfl sh_38 ?_
            exact Ev_ret dX9_count_153 trivial (poIs_mk h)
          · replace h := h.2.2.2.2.2.2.1 hc
            refine Ev_tabIn (tgt := 154) (off := 105) dX9_count_49 (by omega) (by omega) (by rw [hc]; rfl) (by decide) ?_
            refine Ev_aload_n dX9_count_154 0 rfl ?_
            refine Ev_getr 0 (53) dX9_count_155 f_RX9_63 rfl sh_0 rfl ?_
            refine Ev_geti 53 dX9_count_158 f_RX9_226 rfl sh_53 ?_
            exact Ev_ret dX9_count_161 trivial (poIs_mk h)
          · replace h := h.2.2.2.2.2.2.2.1 hc
            refine Ev_tabIn (tgt := 162) (off := 113) dX9_count_49 (by omega) (by omega) (by rw [hc]; rfl) (by decide) ?_
            refine Ev_aload_n dX9_count_162 0 rfl ?_
            refine Ev_getr 0 (60) dX9_count_163 f_RX9_70 rfl sh_0 rfl ?_
            refine Ev_geti 60 dX9_count_166 f_RX9_265 rfl sh_60 ?_
            exact Ev_ret dX9_count_169 trivial (poIs_mk h)
          · replace h := h.2.2.2.2.2.2.2.2.1 hc
            refine Ev_tabIn (tgt := 170) (off := 121) dX9_count_49 (by omega) (by omega) (by rw [hc]; rfl) (by decide) ?_
            refine Ev_aload_n dX9_count_170 0 rfl ?_
            refine Ev_getr 0 (16) dX9_count_171 f_RX9_25 rfl sh_0 rfl ?_
            refine Ev_getr 16 (23) dX9_count_174 f_RX9_266 rfl sh_16 rfl ?_
            refine Ev_iconst (v := 1) dX9_count_177 rfl ⟨by decide, by decide⟩ ?_
            obtain ⟨hb_4, h⟩ := h
            refine Ev_iald (23) dX9_count_178 rfl sh_23 hb_4 ?_
            exact Ev_ret dX9_count_179 trivial (poIs_mk h)
          · replace h := h.2.2.2.2.2.2.2.2.2.1 hc
            refine Ev_tabIn (tgt := 180) (off := 131) dX9_count_49 (by omega) (by omega) (by rw [hc]; rfl) (by decide) ?_
            refine Ev_aload_n dX9_count_180 0 rfl ?_
            refine Ev_getr 0 (16) dX9_count_181 f_RX9_25 rfl sh_0 rfl ?_
            refine Ev_getr 16 (23) dX9_count_184 f_RX9_266 rfl sh_16 rfl ?_
            refine Ev_iconst (v := 2) dX9_count_187 rfl ⟨by decide, by decide⟩ ?_
            obtain ⟨hb_5, h⟩ := h
            refine Ev_iald (23) dX9_count_188 rfl sh_23 hb_5 ?_
            exact Ev_ret dX9_count_189 trivial (poIs_mk h)
          · replace h := h.2.2.2.2.2.2.2.2.2.2 hc
            refine Ev_tabOut (tgt := 190) dX9_count_49 hc (by decide) ?_
            refine Ev_aload_n dX9_count_190 0 rfl ?_
            refine Ev_getr 0 (16) dX9_count_191 f_RX9_25 rfl sh_0 rfl ?_
            refine Ev_getr 16 (23) dX9_count_194 f_RX9_266 rfl sh_16 rfl ?_
            refine Ev_iconst (v := 3) dX9_count_197 rfl ⟨by decide, by decide⟩ ?_
            obtain ⟨hb_6, h⟩ := h
            refine Ev_iald (23) dX9_count_198 rfl sh_23 hb_6 ?_
            exact Ev_ret dX9_count_199 trivial (poIs_mk h)
        · intro K_3 hK_3 h
          refine jc_0 (P := Ev mX9_count 6 31 [(0, (2, 0)), (1, (0, v1))] [] s (poIs 0 post)) h ?_ ?_
          · intro  h
            refine Ev_iload_n dX9_count_31 1 rfl ?_
            refine Ev_bipush (v := 7) dX9_count_32 (by decide +kernel) ?_
            refine Ev_icmp_ne (tgt := 44) dX9_count_34 (by decide) (fun hc => ?_) (fun hc => ?_)
            · replace h := h.1 hc
              refine Ev_aload_n dX9_count_44 0 rfl ?_
              refine Ev_invV (d' := 5) [] 0 dX9_count_45 M_X9_knowPoints q_443 (by decide) rfl rfl sh_0 rfl (Nat.le_of_ble_eq_true rfl) (k_X9_knowPoints h) ?_
              rintro _ s_8 ⟨rfl, h⟩
              exact hK_3 _ h
            · replace h := h.2 hc
              refine Ev_aload_n dX9_count_37 0 rfl ?_
              refine Ev_invV (d' := 5) [] 0 dX9_count_38 M_X9_knowHulls q_537 (by decide) rfl rfl sh_0 rfl (Nat.le_of_ble_eq_true rfl) (k_X9_knowHulls h) ?_
              rintro _ s_9 ⟨rfl, h⟩
              refine Ev_goto (tgt := 48) dX9_count_41 (by decide) ?_
              exact hK_3 _ h
          · intro K_7 hK_7 h
            refine Ev_icmp_lt (tgt := 31) dX9_count_15 (by decide) (fun hc => ?_) (fun hc => ?_)
            · replace h := h.1 hc
              exact hK_7 h
            · replace h := h.2 hc
              refine Ev_iload_n dX9_count_18 1 rfl ?_
              refine Ev_bipush (v := 6) dX9_count_19 (by decide +kernel) ?_
              refine Ev_icmp_gt (tgt := 31) dX9_count_21 (by decide) (fun hc => ?_) (fun hc => ?_)
              · replace h := h.1 hc
                exact hK_7 h
              · replace h := h.2 hc
                refine Ev_aload_n dX9_count_24 0 rfl ?_
                refine Ev_invV (d' := 5) [] 0 dX9_count_25 M_X9_knowFaces q_621 (by decide) rfl rfl sh_0 rfl (Nat.le_of_ble_eq_true rfl) (k_X9_knowFaces h) ?_
                rintro _ s_10 ⟨rfl, h⟩
                refine Ev_goto (tgt := 48) dX9_count_28 (by decide) ?_
                exact hK_3 _ h
      · replace h := h.2 hc
        refine Ev_sub [] rfl ?_
        exact hK_1 h
theorem k_X9_cross {s : Sg} {v1 v2 v3 : Int} {post : Int → Sg → Prop} (h : w_X9_cross s v1 v2 v3 post) : EvM mX9_cross 3 [(2, 0), (0, v1), (0, v2), (0, v3)] s (poIs 0 post) := by
  refine EvM_of rfl (by decide +kernel) (Nat.le_of_ble_eq_true rfl) ?_
  unfold w_X9_cross at h
  show Ev mX9_cross 3 0 [(0, (2, 0)), (1, (0, v1)), (2, (0, v2)), (3, (0, v3))] [] s (poIs 0 post)
  refine Ev_aload_n dX9_cross_0 0 rfl ?_
  refine Ev_getr 0 (1) dX9_cross_1 f_RX9_12 rfl sh_0 rfl ?_
  refine Ev_iload_n dX9_cross_4 1 rfl ?_
  refine Ev_invV (d' := 0) [(0, v1)] 1 dX9_cross_5 M_X2_has q_425 (by decide) rfl rfl sh_1 rfl (Nat.le_of_ble_eq_true rfl) (k_X2_has_1 h) ?_
  rintro _ _ ⟨rfl, r_1, rfl, h⟩
  refine jc_0 (P := Ev mX9_cross 3 36 [] [] s (poIs 0 post)) h ?_ ?_
  · intro  h
    refine Ev_bipush (v := -2) dX9_cross_36 (by decide +kernel) ?_
    exact Ev_ret dX9_cross_38 trivial (poIs_mk h)
  · intro K_2 hK_2 h
    refine Ev_if_eq (tgt := 36) dX9_cross_8 (by decide) (fun hc => ?_) (fun hc => ?_)
    · replace h := h.1 hc
      refine Ev_sub [] rfl ?_
      exact hK_2 h
    · replace h := h.2 hc
      refine Ev_aload_n dX9_cross_11 0 rfl ?_
      refine Ev_getr 0 (1) dX9_cross_12 f_RX9_12 rfl sh_0 rfl ?_
      refine Ev_iload_n dX9_cross_15 2 rfl ?_
      refine Ev_invV (d' := 0) [(0, v2)] 1 dX9_cross_16 M_X2_has q_425 (by decide) rfl rfl sh_1 rfl (Nat.le_of_ble_eq_true rfl) (k_X2_has_1 h) ?_
      rintro _ _ ⟨rfl, r_3, rfl, h⟩
      refine Ev_if_eq (tgt := 36) dX9_cross_19 (by decide) (fun hc => ?_) (fun hc => ?_)
      · replace h := h.1 hc
        refine Ev_sub [] rfl ?_
        exact hK_2 h
      · replace h := h.2 hc
        refine Ev_iload_n dX9_cross_22 1 rfl ?_
        refine Ev_iload_n dX9_cross_23 2 rfl ?_
        refine Ev_icmp_eq (tgt := 36) dX9_cross_24 (by decide) (fun hc => ?_) (fun hc => ?_)
        · replace h := h.1 hc
          refine Ev_sub [] rfl ?_
          exact hK_2 h
        · replace h := h.2 hc
          refine Ev_iload_n dX9_cross_27 3 rfl ?_
          refine Ev_if_lt (tgt := 36) dX9_cross_28 (by decide) (fun hc => ?_) (fun hc => ?_)
          · replace h := h.1 hc
            refine Ev_sub [] rfl ?_
            exact hK_2 h
          · replace h := h.2 hc
            refine Ev_iload_n dX9_cross_31 3 rfl ?_
            refine Ev_iconst (v := 4) dX9_cross_32 rfl ⟨by decide, by decide⟩ ?_
            refine Ev_icmp_le (tgt := 39) dX9_cross_33 (by decide) (fun hc => ?_) (fun hc => ?_)
            · replace h := h.1 hc
              refine Ev_aload_n dX9_cross_39 0 rfl ?_
              refine Ev_getr 0 (34) dX9_cross_40 f_RX9_35 rfl sh_0 rfl ?_
              refine Ev_aload_n dX9_cross_43 0 rfl ?_
              refine Ev_getr 0 (1) dX9_cross_44 f_RX9_12 rfl sh_0 rfl ?_
              refine Ev_iload_n dX9_cross_47 1 rfl ?_
              refine Ev_iload_n dX9_cross_48 2 rfl ?_
              refine Ev_invV (d' := 2) [(2, 1), (0, v1), (0, v2)] 34 dX9_cross_49 M_X3_find q_579 (by decide) rfl rfl sh_34 rfl (Nat.le_of_ble_eq_true rfl) (k_X3_find_34_1 h) ?_
              rintro _ s_4 ⟨rfl, h⟩
              refine Ev_iload_n dX9_cross_52 3 rfl ?_
              refine Ev_if_ne (tgt := 64) dX9_cross_53 (by decide) (fun hc => ?_) (fun hc => ?_)
              · replace h := h.1 hc
                refine Ev_aload_n dX9_cross_64 0 rfl ?_
                refine Ev_getr 0 (34) dX9_cross_65 f_RX9_35 rfl sh_0 rfl ?_
                refine Ev_invV (d' := 0) [] 34 dX9_cross_68 M_X3_isAtOnePlace q_580 (by decide) rfl rfl sh_34 rfl (Nat.le_of_ble_eq_true rfl) (k_X3_isAtOnePlace h) ?_
                rintro _ _ ⟨rfl, r_5, rfl, h⟩
                refine Ev_if_ne (tgt := 77) dX9_cross_71 (by decide) (fun hc => ?_) (fun hc => ?_)
                · replace h := h.1 hc
                  refine Ev_iload_n dX9_cross_77 3 rfl ?_
                  rcases (show v3 = 1 ∨ v3 = 2 ∨ v3 = 3 ∨ (v3 < 1 ∨ 3 < v3) by omega) with hc | hc | hc | hc
                  · replace h := h.1 hc
                    refine Ev_tabIn (tgt := 104) (off := 26) dX9_cross_78 (by omega) (by omega) (by rw [hc]; rfl) (by decide) ?_
                    refine Ev_aload_n dX9_cross_104 0 rfl ?_
                    refine Ev_getr 0 (34) dX9_cross_105 f_RX9_35 rfl sh_0 rfl ?_
                    refine Ev_getl 34 dX9_cross_108 f_RX9_156 rfl sh_34 ?_
                    refine Ev_l2i dX9_cross_111 ?_
                    exact Ev_ret dX9_cross_112 trivial (poIs_mk h)
                  · replace h := h.2.1 hc
                    refine Ev_tabIn (tgt := 113) (off := 35) dX9_cross_78 (by omega) (by omega) (by rw [hc]; rfl) (by decide) ?_
                    refine Ev_aload_n dX9_cross_113 0 rfl ?_
                    refine Ev_getr 0 (34) dX9_cross_114 f_RX9_35 rfl sh_0 rfl ?_
                    refine Ev_getl 34 dX9_cross_117 f_RX9_160 rfl sh_34 ?_
                    refine Ev_l2i dX9_cross_120 ?_
                    exact Ev_ret dX9_cross_121 trivial (poIs_mk h)
                  · replace h := h.2.2.1 hc
                    refine Ev_tabIn (tgt := 122) (off := 44) dX9_cross_78 (by omega) (by omega) (by rw [hc]; rfl) (by decide) ?_
                    refine Ev_aload_n dX9_cross_122 0 rfl ?_
                    refine Ev_getr 0 (34) dX9_cross_123 f_RX9_35 rfl sh_0 rfl ?_
                    refine Ev_getl 34 dX9_cross_126 f_RX9_163 rfl sh_34 ?_
                    refine Ev_l2i dX9_cross_129 ?_
                    exact Ev_ret dX9_cross_130 trivial (poIs_mk h)
                  · replace h := h.2.2.2 hc
                    refine Ev_tabOut (tgt := 131) dX9_cross_78 hc (by decide) ?_
                    refine Ev_aload_n dX9_cross_131 0 rfl ?_
                    refine Ev_getr 0 (34) dX9_cross_132 f_RX9_35 rfl sh_0 rfl ?_
                    refine Ev_getl 34 dX9_cross_135 f_RX9_166 rfl sh_34 ?_
                    refine Ev_l2i dX9_cross_138 ?_
                    exact Ev_ret dX9_cross_139 trivial (poIs_mk h)
                · replace h := h.2 hc
                  refine Ev_bipush (v := -3) dX9_cross_74 (by decide +kernel) ?_
                  exact Ev_ret dX9_cross_76 trivial (poIs_mk h)
              · replace h := h.2 hc
                refine Ev_aload_n dX9_cross_56 0 rfl ?_
                refine Ev_getr 0 (34) dX9_cross_57 f_RX9_35 rfl sh_0 rfl ?_
                refine Ev_geti 34 dX9_cross_60 f_RX9_150 rfl sh_34 ?_
                exact Ev_ret dX9_cross_63 trivial (poIs_mk h)
            · replace h := h.2 hc
              refine Ev_sub [] rfl ?_
              exact hK_2 h
theorem k_X9_drawn {s : Sg} {v1 v2 : Int} {post : Int → Sg → Prop} (h : w_X9_drawn s v1 v2 post) : EvM mX9_drawn 6 [(2, 0), (0, v1), (0, v2)] s (poIs 0 post) := by
  refine EvM_of rfl (by decide +kernel) (Nat.le_of_ble_eq_true rfl) ?_
  unfold w_X9_drawn at h
  show Ev mX9_drawn 6 0 [(0, (2, 0)), (1, (0, v1)), (2, (0, v2))] [] s (poIs 0 post)
  refine Ev_iload_n dX9_drawn_0 2 rfl ?_
  refine jc_1s (P := fun (t_1 : Int) (s_2 : Sg) => Ev mX9_drawn 6 20 [] [(0, t_1)] s_2 (poIs 0 post)) h ?_ ?_
  · intro t_1 s_2 h
    exact Ev_ret dX9_drawn_20 trivial (poIs_mk h)
  · intro K_3 hK_3 h
    refine jc_0 (P := Ev mX9_drawn 6 9 [] [] s (poIs 0 post)) h ?_ ?_
    · intro  h
      refine Ev_bipush (v := -2) dX9_drawn_9 (by decide +kernel) ?_
      refine Ev_goto (tgt := 20) dX9_drawn_11 (by decide) ?_
      exact hK_3 _ _ h
    · intro K_4 hK_4 h
      refine Ev_if_lt (tgt := 9) dX9_drawn_1 (by decide) (fun hc => ?_) (fun hc => ?_)
      · replace h := h.1 hc
        refine Ev_sub [] rfl ?_
        exact hK_4 h
      · replace h := h.2 hc
        refine Ev_iload_n dX9_drawn_4 2 rfl ?_
        refine Ev_iconst (v := 5) dX9_drawn_5 rfl ⟨by decide, by decide⟩ ?_
        refine Ev_icmp_le (tgt := 14) dX9_drawn_6 (by decide) (fun hc => ?_) (fun hc => ?_)
        · replace h := h.1 hc
          refine Ev_aload_n dX9_drawn_14 0 rfl ?_
          refine Ev_iload_n dX9_drawn_15 1 rfl ?_
          refine Ev_iload_n dX9_drawn_16 2 rfl ?_
          refine Ev_invV (d' := 5) [(0, v1), (0, v2)] 0 dX9_drawn_17 M_X9_facesDrawn q_783 (by decide) rfl rfl sh_0 rfl (Nat.le_of_ble_eq_true rfl) (k_X9_facesDrawn h) ?_
          rintro _ s_6 ⟨r_5, rfl, h⟩
          refine Ev_sub [] rfl ?_
          exact hK_3 _ _ h
        · replace h := h.2 hc
          refine Ev_sub [] rfl ?_
          exact hK_4 h
theorem k_X9_drop {s : Sg} {v1 : Int} {post : Int → Sg → Prop} (h : w_X9_drop s v1 post) : EvM mX9_drop 2 [(2, 0), (0, v1)] s (poIs 0 post) := by
  refine EvM_of rfl (by decide +kernel) (Nat.le_of_ble_eq_true rfl) ?_
  unfold w_X9_drop at h
  show Ev mX9_drop 2 0 [(0, (2, 0)), (1, (0, v1))] [] s (poIs 0 post)
  refine Ev_aload_n dX9_drop_0 0 rfl ?_
  refine Ev_getr 0 (1) dX9_drop_1 f_RX9_12 rfl sh_0 rfl ?_
  refine Ev_iload_n dX9_drop_4 1 rfl ?_
  refine Ev_invV (d' := 0) [(0, v1)] 1 dX9_drop_5 M_X2_has q_425 (by decide) rfl rfl sh_1 rfl (Nat.le_of_ble_eq_true rfl) (k_X2_has_1 h) ?_
  rintro _ _ ⟨rfl, r_1, rfl, h⟩
  refine Ev_if_ne (tgt := 14) dX9_drop_8 (by decide) (fun hc => ?_) (fun hc => ?_)
  · replace h := h.1 hc
    refine Ev_aload_n dX9_drop_14 0 rfl ?_
    refine Ev_invV (d' := 0) [] 0 dX9_drop_15 M_X9_forgetWhatFollows q_404 (by decide) rfl rfl sh_0 rfl (Nat.le_of_ble_eq_true rfl) (k_X9_forgetWhatFollows h) ?_
    rintro _ s_2 ⟨rfl, h⟩
    refine Ev_aload_n dX9_drop_18 0 rfl ?_
    refine Ev_getr 0 (1) dX9_drop_19 f_RX9_12 rfl sh_0 rfl ?_
    refine Ev_iload_n dX9_drop_22 1 rfl ?_
    refine Ev_invV (d' := 1) [(0, v1)] 1 dX9_drop_23 M_X2_remove q_426 (by decide) rfl rfl sh_1 rfl (Nat.le_of_ble_eq_true rfl) (k_X2_remove_1 h) ?_
    rintro _ s_3 ⟨rfl, h⟩
    refine Ev_aload_n dX9_drop_26 0 rfl ?_
    refine Ev_getr 0 (1) dX9_drop_27 f_RX9_12 rfl sh_0 rfl ?_
    refine Ev_geti 1 dX9_drop_30 f_RX9_104 rfl sh_1 ?_
    exact Ev_ret dX9_drop_33 trivial (poIs_mk h)
  · replace h := h.2 hc
    refine Ev_bipush (v := -2) dX9_drop_11 (by decide +kernel) ?_
    exact Ev_ret dX9_drop_13 trivial (poIs_mk h)
