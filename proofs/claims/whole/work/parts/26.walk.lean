theorem k_X4_addMeetings_16_1 {s : Sg} {post : Sg → Prop} (h : w_X4_addMeetings s 16 1 post) : EvM mX4_addMeetings 3 [(2, 16), (2, 1)] s (poV post) := by
  refine EvM_of rfl (by decide +kernel) (Nat.le_of_ble_eq_true rfl) ?_
  unfold w_X4_addMeetings at h
  show Ev mX4_addMeetings 3 0 [(0, (2, 16)), (1, (2, 1))] [] s (poV post)
  refine Ev_iconst (v := 0) dX4_addMeetings_0 rfl ⟨by decide, by decide⟩ ?_
  refine Ev_istore_n dX4_addMeetings_1 (by decide) rfl ?_
  refine Ev_sub [1, 2, 0] rfl ?_
  refine li_1s (P := fun (v2_1 : Int) (s_2 : Sg) => Ev mX4_addMeetings 3 2 [(0, (2, 16)), (1, (2, 1)), (2, (0, v2_1))] [] s_2 (poV post)) ?_ h
  intro again_3 v2_1 s_2 hagain_3 h
  refine Ev_iload_n dX4_addMeetings_2 2 rfl ?_
  refine Ev_iconst (v := 3) dX4_addMeetings_3 rfl ⟨by decide, by decide⟩ ?_
  refine Ev_icmp_gt (tgt := 20) dX4_addMeetings_4 (by decide) (fun hc => ?_) (fun hc => ?_)
  · replace h := h.1 hc
    refine Ev_iconst (v := 0) dX4_addMeetings_20 rfl ⟨by decide, by decide⟩ ?_
    refine Ev_istore_n dX4_addMeetings_21 (by decide) rfl ?_
    refine Ev_sub [1, 2, 0] rfl ?_
    refine li_1s (P := fun (v2_4 : Int) (s_5 : Sg) => Ev mX4_addMeetings 3 22 [(0, (2, 16)), (1, (2, 1)), (2, (0, v2_4))] [] s_5 (poV post)) ?_ h
    intro again_6 v2_4 s_5 hagain_6 h
    refine Ev_iload_n dX4_addMeetings_22 2 rfl ?_
    refine Ev_aload_n dX4_addMeetings_23 1 rfl ?_
    refine Ev_geti 1 dX4_addMeetings_24 f_RX4_45 rfl sh_1 ?_
    refine Ev_icmp_ge (tgt := 123) dX4_addMeetings_27 (by decide) (fun hc => ?_) (fun hc => ?_)
    · replace h := h.1 hc
      exact Ev_retv dX4_addMeetings_123 rfl (poV_mk h)
    · replace h := h.2 hc
      refine Ev_iload_n dX4_addMeetings_30 2 rfl ?_
      refine Ev_iconst (v := 1) dX4_addMeetings_31 rfl ⟨by decide, by decide⟩ ?_
      refine Ev_iadd dX4_addMeetings_32 ?_
      obtain ⟨v3_7, ev3_7⟩ : ∃ z : Int, z = w32 (v2_4 + 1) := ⟨_, rfl⟩
      replace h := h v3_7 ev3_7
      rw [← ev3_7]
      refine Ev_istore_n dX4_addMeetings_33 (by decide) rfl ?_
      refine Ev_sub [1, 2, 3, 0] rfl ?_
      refine li_1s (P := fun (v3_8 : Int) (s_9 : Sg) => Ev mX4_addMeetings 3 34 [(0, (2, 16)), (1, (2, 1)), (2, (0, v2_4)), (3, (0, v3_8))] [] s_9 (poV post)) ?_ h
      intro again_10 v3_8 s_9 hagain_10 h
      refine Ev_iload_n dX4_addMeetings_34 3 rfl ?_
      refine Ev_aload_n dX4_addMeetings_35 1 rfl ?_
      refine Ev_geti 1 dX4_addMeetings_36 f_RX4_45 rfl sh_1 ?_
      refine Ev_icmp_ge (tgt := 117) dX4_addMeetings_39 (by decide) (fun hc => ?_) (fun hc => ?_)
      · replace h := h.1 hc
        obtain ⟨v2_11, ev2_11⟩ : ∃ z : Int, z = w32 (v2_4 + 1) := ⟨_, rfl⟩
        replace h := h v2_11 ev2_11
        refine Ev_iinc (v := v2_11) dX4_addMeetings_117 2 rfl ev2_11.symm (by decide) rfl ?_
        refine Ev_goto (tgt := 22) dX4_addMeetings_120 (by decide) ?_
        refine Ev_sub [1, 2, 0] rfl ?_
        exact hagain_6 _ _ h
      · replace h := h.2 hc
        refine Ev_aload_n dX4_addMeetings_42 0 rfl ?_
        refine Ev_getr 16 (24) dX4_addMeetings_43 f_RX4_37 rfl sh_16 rfl ?_
        refine Ev_aload_n dX4_addMeetings_46 1 rfl ?_
        refine Ev_iload_n dX4_addMeetings_47 2 rfl ?_
        refine Ev_iload_n dX4_addMeetings_48 3 rfl ?_
        refine Ev_invV (d' := 2) [(2, 1), (0, v2_4), (0, v3_8)] 24 dX4_addMeetings_49 M_X3_find q_466 (by decide) rfl rfl sh_24 rfl (Nat.le_of_ble_eq_true rfl) (k_X3_find_24_1 h) ?_
        rintro _ s_12 ⟨rfl, h⟩
        refine Ev_aload_n dX4_addMeetings_52 0 rfl ?_
        refine Ev_getr 16 (23) dX4_addMeetings_53 f_RX4_31 rfl sh_16 rfl ?_
        refine Ev_aload_n dX4_addMeetings_56 0 rfl ?_
        refine Ev_getr 16 (24) dX4_addMeetings_57 f_RX4_37 rfl sh_16 rfl ?_
        refine Ev_geti 24 dX4_addMeetings_60 f_RX4_86 rfl sh_24 ?_
        refine Ev_dup2 dX4_addMeetings_63 (show ¬ (0 : Nat) = 1 by decide) (show ¬ (2 : Nat) = 1 by decide) ?_
        obtain ⟨hb_13, h⟩ := h
        refine Ev_iald (23) dX4_addMeetings_64 rfl sh_23 hb_13 ?_
        refine Ev_iconst (v := 1) dX4_addMeetings_65 rfl ⟨by decide, by decide⟩ ?_
        refine Ev_iadd dX4_addMeetings_66 ?_
        obtain ⟨hb_14, h⟩ := h
        obtain ⟨s_15, es_15⟩ : ∃ z : Sg, z = (up s_12 23 ((s_12 24 0).toNat) (w32 ((s_12 23 (s_12 24 0).toNat) + 1))) := ⟨_, rfl⟩
        replace h := h s_15 es_15
        refine Ev_iast (23) dX4_addMeetings_67 rfl sh_23 hb_14 ?_
        rw [← es_15]
        refine Ev_aload_n dX4_addMeetings_68 0 rfl ?_
        refine Ev_getr 16 (24) dX4_addMeetings_69 f_RX4_37 rfl sh_16 rfl ?_
        refine Ev_geti 24 dX4_addMeetings_72 f_RX4_86 rfl sh_24 ?_
        refine Ev_iconst (v := 1) dX4_addMeetings_75 rfl ⟨by decide, by decide⟩ ?_
        refine jc_0s (P := fun (s_16 : Sg) => Ev mX4_addMeetings 3 111 [(0, (2, 16)), (1, (2, 1)), (2, (0, v2_4)), (3, (0, v3_8))] [] s_16 (poV post)) h ?_ ?_
        · intro s_16 h
          obtain ⟨v3_18, ev3_18⟩ : ∃ z : Int, z = w32 (v3_8 + 1) := ⟨_, rfl⟩
          replace h := h v3_18 ev3_18
          refine Ev_iinc (v := v3_18) dX4_addMeetings_111 3 rfl ev3_18.symm (by decide) rfl ?_
          refine Ev_goto (tgt := 34) dX4_addMeetings_114 (by decide) ?_
          refine Ev_sub [1, 2, 3, 0] rfl ?_
          exact hagain_10 _ _ h
        · intro K_17 hK_17 h
          refine Ev_icmp_ne (tgt := 111) dX4_addMeetings_76 (by decide) (fun hc => ?_) (fun hc => ?_)
          · replace h := h.1 hc
            exact hK_17 _ h
          · replace h := h.2 hc
            refine Ev_aload_n dX4_addMeetings_79 0 rfl ?_
            refine Ev_aload_n dX4_addMeetings_80 0 rfl ?_
            refine Ev_getr 16 (24) dX4_addMeetings_81 f_RX4_37 rfl sh_16 rfl ?_
            refine Ev_getl 24 dX4_addMeetings_84 f_RX4_89 rfl sh_24 ?_
            refine Ev_aload_n dX4_addMeetings_87 0 rfl ?_
            refine Ev_getr 16 (24) dX4_addMeetings_88 f_RX4_37 rfl sh_16 rfl ?_
            refine Ev_getl 24 dX4_addMeetings_91 f_RX4_92 rfl sh_24 ?_
            refine Ev_aload_n dX4_addMeetings_94 0 rfl ?_
            refine Ev_getr 16 (24) dX4_addMeetings_95 f_RX4_37 rfl sh_16 rfl ?_
            refine Ev_getl 24 dX4_addMeetings_98 f_RX4_94 rfl sh_24 ?_
            refine Ev_aload_n dX4_addMeetings_101 0 rfl ?_
            refine Ev_getr 16 (24) dX4_addMeetings_102 f_RX4_37 rfl sh_16 rfl ?_
            refine Ev_getl 24 dX4_addMeetings_105 f_RX4_96 rfl sh_24 ?_
            refine Ev_invV (d' := 2) [(1, s_15 24 1), (1, s_15 24 2), (1, s_15 24 3), (1, s_15 24 4)] 16 dX4_addMeetings_108 M_X4_add q_451 (by decide) rfl rfl sh_16 rfl (Nat.le_of_ble_eq_true rfl) (k_X4_add_16 h) ?_
            rintro _ s_19 ⟨rfl, h⟩
            exact hK_17 _ h
  · replace h := h.2 hc
    refine Ev_aload_n dX4_addMeetings_7 0 rfl ?_
    refine Ev_getr 16 (23) dX4_addMeetings_8 f_RX4_31 rfl sh_16 rfl ?_
    refine Ev_iload_n dX4_addMeetings_11 2 rfl ?_
    refine Ev_iconst (v := 0) dX4_addMeetings_12 rfl ⟨by decide, by decide⟩ ?_
    obtain ⟨hb_20, h⟩ := h
    obtain ⟨s_21, es_21⟩ : ∃ z : Sg, z = (up s_2 23 (v2_1.toNat) 0) := ⟨_, rfl⟩
    replace h := h s_21 es_21
    refine Ev_iast (23) dX4_addMeetings_13 rfl sh_23 hb_20 ?_
    rw [← es_21]
    obtain ⟨v2_22, ev2_22⟩ : ∃ z : Int, z = w32 (v2_1 + 1) := ⟨_, rfl⟩
    replace h := h v2_22 ev2_22
    refine Ev_iinc (v := v2_22) dX4_addMeetings_14 2 rfl ev2_22.symm (by decide) rfl ?_
    refine Ev_goto (tgt := 2) dX4_addMeetings_17 (by decide) ?_
    refine Ev_sub [1, 2, 0] rfl ?_
    exact hagain_3 _ _ h
theorem k_X4_addMeetings_25_11 {s : Sg} {post : Sg → Prop} (h : w_X4_addMeetings s 25 11 post) : EvM mX4_addMeetings 3 [(2, 25), (2, 11)] s (poV post) := by
  refine EvM_of rfl (by decide +kernel) (Nat.le_of_ble_eq_true rfl) ?_
  unfold w_X4_addMeetings at h
  show Ev mX4_addMeetings 3 0 [(0, (2, 25)), (1, (2, 11))] [] s (poV post)
  refine Ev_iconst (v := 0) dX4_addMeetings_0 rfl ⟨by decide, by decide⟩ ?_
  refine Ev_istore_n dX4_addMeetings_1 (by decide) rfl ?_
  refine Ev_sub [1, 2, 0] rfl ?_
  refine li_1s (P := fun (v2_1 : Int) (s_2 : Sg) => Ev mX4_addMeetings 3 2 [(0, (2, 25)), (1, (2, 11)), (2, (0, v2_1))] [] s_2 (poV post)) ?_ h
  intro again_3 v2_1 s_2 hagain_3 h
  refine Ev_iload_n dX4_addMeetings_2 2 rfl ?_
  refine Ev_iconst (v := 3) dX4_addMeetings_3 rfl ⟨by decide, by decide⟩ ?_
  refine Ev_icmp_gt (tgt := 20) dX4_addMeetings_4 (by decide) (fun hc => ?_) (fun hc => ?_)
  · replace h := h.1 hc
    refine Ev_iconst (v := 0) dX4_addMeetings_20 rfl ⟨by decide, by decide⟩ ?_
    refine Ev_istore_n dX4_addMeetings_21 (by decide) rfl ?_
    refine Ev_sub [1, 2, 0] rfl ?_
    refine li_1s (P := fun (v2_4 : Int) (s_5 : Sg) => Ev mX4_addMeetings 3 22 [(0, (2, 25)), (1, (2, 11)), (2, (0, v2_4))] [] s_5 (poV post)) ?_ h
    intro again_6 v2_4 s_5 hagain_6 h
    refine Ev_iload_n dX4_addMeetings_22 2 rfl ?_
    refine Ev_aload_n dX4_addMeetings_23 1 rfl ?_
    refine Ev_geti 11 dX4_addMeetings_24 f_RX4_45 rfl sh_11 ?_
    refine Ev_icmp_ge (tgt := 123) dX4_addMeetings_27 (by decide) (fun hc => ?_) (fun hc => ?_)
    · replace h := h.1 hc
      exact Ev_retv dX4_addMeetings_123 rfl (poV_mk h)
    · replace h := h.2 hc
      refine Ev_iload_n dX4_addMeetings_30 2 rfl ?_
      refine Ev_iconst (v := 1) dX4_addMeetings_31 rfl ⟨by decide, by decide⟩ ?_
      refine Ev_iadd dX4_addMeetings_32 ?_
      obtain ⟨v3_7, ev3_7⟩ : ∃ z : Int, z = w32 (v2_4 + 1) := ⟨_, rfl⟩
      replace h := h v3_7 ev3_7
      rw [← ev3_7]
      refine Ev_istore_n dX4_addMeetings_33 (by decide) rfl ?_
      refine Ev_sub [1, 2, 3, 0] rfl ?_
      refine li_1s (P := fun (v3_8 : Int) (s_9 : Sg) => Ev mX4_addMeetings 3 34 [(0, (2, 25)), (1, (2, 11)), (2, (0, v2_4)), (3, (0, v3_8))] [] s_9 (poV post)) ?_ h
      intro again_10 v3_8 s_9 hagain_10 h
      refine Ev_iload_n dX4_addMeetings_34 3 rfl ?_
      refine Ev_aload_n dX4_addMeetings_35 1 rfl ?_
      refine Ev_geti 11 dX4_addMeetings_36 f_RX4_45 rfl sh_11 ?_
      refine Ev_icmp_ge (tgt := 117) dX4_addMeetings_39 (by decide) (fun hc => ?_) (fun hc => ?_)
      · replace h := h.1 hc
        obtain ⟨v2_11, ev2_11⟩ : ∃ z : Int, z = w32 (v2_4 + 1) := ⟨_, rfl⟩
        replace h := h v2_11 ev2_11
        refine Ev_iinc (v := v2_11) dX4_addMeetings_117 2 rfl ev2_11.symm (by decide) rfl ?_
        refine Ev_goto (tgt := 22) dX4_addMeetings_120 (by decide) ?_
        refine Ev_sub [1, 2, 0] rfl ?_
        exact hagain_6 _ _ h
      · replace h := h.2 hc
        refine Ev_aload_n dX4_addMeetings_42 0 rfl ?_
        refine Ev_getr 25 (33) dX4_addMeetings_43 f_RX4_37 rfl sh_25 rfl ?_
        refine Ev_aload_n dX4_addMeetings_46 1 rfl ?_
        refine Ev_iload_n dX4_addMeetings_47 2 rfl ?_
        refine Ev_iload_n dX4_addMeetings_48 3 rfl ?_
        refine Ev_invV (d' := 2) [(2, 11), (0, v2_4), (0, v3_8)] 33 dX4_addMeetings_49 M_X3_find q_466 (by decide) rfl rfl sh_33 rfl (Nat.le_of_ble_eq_true rfl) (k_X3_find_33_11 h) ?_
        rintro _ s_12 ⟨rfl, h⟩
        refine Ev_aload_n dX4_addMeetings_52 0 rfl ?_
        refine Ev_getr 25 (32) dX4_addMeetings_53 f_RX4_31 rfl sh_25 rfl ?_
        refine Ev_aload_n dX4_addMeetings_56 0 rfl ?_
        refine Ev_getr 25 (33) dX4_addMeetings_57 f_RX4_37 rfl sh_25 rfl ?_
        refine Ev_geti 33 dX4_addMeetings_60 f_RX4_86 rfl sh_33 ?_
        refine Ev_dup2 dX4_addMeetings_63 (show ¬ (0 : Nat) = 1 by decide) (show ¬ (2 : Nat) = 1 by decide) ?_
        obtain ⟨hb_13, h⟩ := h
        refine Ev_iald (32) dX4_addMeetings_64 rfl sh_32 hb_13 ?_
        refine Ev_iconst (v := 1) dX4_addMeetings_65 rfl ⟨by decide, by decide⟩ ?_
        refine Ev_iadd dX4_addMeetings_66 ?_
        obtain ⟨hb_14, h⟩ := h
        obtain ⟨s_15, es_15⟩ : ∃ z : Sg, z = (up s_12 32 ((s_12 33 0).toNat) (w32 ((s_12 32 (s_12 33 0).toNat) + 1))) := ⟨_, rfl⟩
        replace h := h s_15 es_15
        refine Ev_iast (32) dX4_addMeetings_67 rfl sh_32 hb_14 ?_
        rw [← es_15]
        refine Ev_aload_n dX4_addMeetings_68 0 rfl ?_
        refine Ev_getr 25 (33) dX4_addMeetings_69 f_RX4_37 rfl sh_25 rfl ?_
        refine Ev_geti 33 dX4_addMeetings_72 f_RX4_86 rfl sh_33 ?_
        refine Ev_iconst (v := 1) dX4_addMeetings_75 rfl ⟨by decide, by decide⟩ ?_
        refine jc_0s (P := fun (s_16 : Sg) => Ev mX4_addMeetings 3 111 [(0, (2, 25)), (1, (2, 11)), (2, (0, v2_4)), (3, (0, v3_8))] [] s_16 (poV post)) h ?_ ?_
        · intro s_16 h
          obtain ⟨v3_18, ev3_18⟩ : ∃ z : Int, z = w32 (v3_8 + 1) := ⟨_, rfl⟩
          replace h := h v3_18 ev3_18
          refine Ev_iinc (v := v3_18) dX4_addMeetings_111 3 rfl ev3_18.symm (by decide) rfl ?_
          refine Ev_goto (tgt := 34) dX4_addMeetings_114 (by decide) ?_
          refine Ev_sub [1, 2, 3, 0] rfl ?_
          exact hagain_10 _ _ h
        · intro K_17 hK_17 h
          refine Ev_icmp_ne (tgt := 111) dX4_addMeetings_76 (by decide) (fun hc => ?_) (fun hc => ?_)
          · replace h := h.1 hc
            exact hK_17 _ h
          · replace h := h.2 hc
            refine Ev_aload_n dX4_addMeetings_79 0 rfl ?_
            refine Ev_aload_n dX4_addMeetings_80 0 rfl ?_
            refine Ev_getr 25 (33) dX4_addMeetings_81 f_RX4_37 rfl sh_25 rfl ?_
            refine Ev_getl 33 dX4_addMeetings_84 f_RX4_89 rfl sh_33 ?_
            refine Ev_aload_n dX4_addMeetings_87 0 rfl ?_
            refine Ev_getr 25 (33) dX4_addMeetings_88 f_RX4_37 rfl sh_25 rfl ?_
            refine Ev_getl 33 dX4_addMeetings_91 f_RX4_92 rfl sh_33 ?_
            refine Ev_aload_n dX4_addMeetings_94 0 rfl ?_
            refine Ev_getr 25 (33) dX4_addMeetings_95 f_RX4_37 rfl sh_25 rfl ?_
            refine Ev_getl 33 dX4_addMeetings_98 f_RX4_94 rfl sh_33 ?_
            refine Ev_aload_n dX4_addMeetings_101 0 rfl ?_
            refine Ev_getr 25 (33) dX4_addMeetings_102 f_RX4_37 rfl sh_25 rfl ?_
            refine Ev_getl 33 dX4_addMeetings_105 f_RX4_96 rfl sh_33 ?_
            refine Ev_invV (d' := 2) [(1, s_15 33 1), (1, s_15 33 2), (1, s_15 33 3), (1, s_15 33 4)] 25 dX4_addMeetings_108 M_X4_add q_451 (by decide) rfl rfl sh_25 rfl (Nat.le_of_ble_eq_true rfl) (k_X4_add_25 h) ?_
            rintro _ s_19 ⟨rfl, h⟩
            exact hK_17 _ h
  · replace h := h.2 hc
    refine Ev_aload_n dX4_addMeetings_7 0 rfl ?_
    refine Ev_getr 25 (32) dX4_addMeetings_8 f_RX4_31 rfl sh_25 rfl ?_
    refine Ev_iload_n dX4_addMeetings_11 2 rfl ?_
    refine Ev_iconst (v := 0) dX4_addMeetings_12 rfl ⟨by decide, by decide⟩ ?_
    obtain ⟨hb_20, h⟩ := h
    obtain ⟨s_21, es_21⟩ : ∃ z : Sg, z = (up s_2 32 (v2_1.toNat) 0) := ⟨_, rfl⟩
    replace h := h s_21 es_21
    refine Ev_iast (32) dX4_addMeetings_13 rfl sh_32 hb_20 ?_
    rw [← es_21]
    obtain ⟨v2_22, ev2_22⟩ : ∃ z : Int, z = w32 (v2_1 + 1) := ⟨_, rfl⟩
    replace h := h v2_22 ev2_22
    refine Ev_iinc (v := v2_22) dX4_addMeetings_14 2 rfl ev2_22.symm (by decide) rfl ?_
    refine Ev_goto (tgt := 2) dX4_addMeetings_17 (by decide) ?_
    refine Ev_sub [1, 2, 0] rfl ?_
    exact hagain_3 _ _ h
theorem k_X4_countOn {s : Sg} {v1 : Int} {post : Int → Prop} (h : w_X4_countOn s v1 post) : EvM mX4_countOn 0 [(2, 16), (0, v1)] s (poI 0 s post) := by
  refine EvM_of rfl (by decide +kernel) (Nat.le_of_ble_eq_true rfl) ?_
  unfold w_X4_countOn at h
  show Ev mX4_countOn 0 0 [(0, (2, 16)), (1, (0, v1))] [] s (poI 0 s post)
  refine Ev_iconst (v := 0) dX4_countOn_0 rfl ⟨by decide, by decide⟩ ?_
  refine Ev_istore_n dX4_countOn_1 (by decide) rfl ?_
  refine Ev_iconst (v := 0) dX4_countOn_2 rfl ⟨by decide, by decide⟩ ?_
  refine Ev_istore_n dX4_countOn_3 (by decide) rfl ?_
  refine Ev_sub [2, 3, 1, 0] rfl ?_
  refine li_2 (P := fun (v2_1 v3_2 : Int) => Ev mX4_countOn 0 4 [(0, (2, 16)), (1, (0, v1)), (2, (0, v2_1)), (3, (0, v3_2))] [] s (poI 0 s post)) ?_ h
  intro again_3 v2_1 v3_2 hagain_3 h
  refine Ev_iload_n dX4_countOn_4 3 rfl ?_
  refine Ev_aload_n dX4_countOn_5 0 rfl ?_
  refine Ev_geti 16 dX4_countOn_6 f_RX4_41 rfl sh_16 ?_
  refine Ev_icmp_ge (tgt := 31) dX4_countOn_9 (by decide) (fun hc => ?_) (fun hc => ?_)
  · replace h := h.1 hc
    refine Ev_iload_n dX4_countOn_31 2 rfl ?_
    exact Ev_ret dX4_countOn_32 trivial (poI_mk h)
  · replace h := h.2 hc
    refine Ev_iload_n dX4_countOn_12 2 rfl ?_
    refine Ev_aload_n dX4_countOn_13 0 rfl ?_
    refine Ev_getr 16 (21) dX4_countOn_14 f_RX4_24 rfl sh_16 rfl ?_
    refine Ev_iload_n dX4_countOn_17 3 rfl ?_
    obtain ⟨hb_4, h⟩ := h
    refine Ev_iald (21) dX4_countOn_18 rfl sh_21 hb_4 ?_
    refine Ev_iload_n dX4_countOn_19 1 rfl ?_
    refine Ev_ishr dX4_countOn_20 ?_
    refine Ev_iconst (v := 1) dX4_countOn_21 rfl ⟨by decide, by decide⟩ ?_
    refine Ev_iand dX4_countOn_22 ?_
    refine Ev_iadd dX4_countOn_23 ?_
    obtain ⟨v2_5, ev2_5⟩ : ∃ z : Int, z = w32 (v2_1 + (iand (ishr (s 21 v3_2.toNat) v1) 1)) := ⟨_, rfl⟩
    replace h := h v2_5 ev2_5
    rw [← ev2_5]
    refine Ev_istore_n dX4_countOn_24 (by decide) rfl ?_
    obtain ⟨v3_6, ev3_6⟩ : ∃ z : Int, z = w32 (v3_2 + 1) := ⟨_, rfl⟩
    replace h := h v3_6 ev3_6
    refine Ev_iinc (v := v3_6) dX4_countOn_25 3 rfl ev3_6.symm (by decide) rfl ?_
    refine Ev_goto (tgt := 4) dX4_countOn_28 (by decide) ?_
    refine Ev_sub [2, 3, 1, 0] rfl ?_
    exact hagain_3 _ _ h
theorem k_X4_rootOf_16 {s : Sg} {v1 : Int} {post : Int → Prop} (h : w_X4_rootOf s 16 v1 post) : EvM mX4_rootOf 0 [(2, 16), (0, v1)] s (poI 0 s post) := by
  refine EvM_of rfl (by decide +kernel) (Nat.le_of_ble_eq_true rfl) ?_
  unfold w_X4_rootOf at h
  show Ev mX4_rootOf 0 0 [(0, (2, 16)), (1, (0, v1))] [] s (poI 0 s post)
  refine Ev_iload_n dX4_rootOf_0 1 rfl ?_
  refine Ev_istore_n dX4_rootOf_1 (by decide) rfl ?_
  refine Ev_iconst (v := 0) dX4_rootOf_2 rfl ⟨by decide, by decide⟩ ?_
  refine Ev_istore_n dX4_rootOf_3 (by decide) rfl ?_
  refine Ev_sub [2, 1, 0] rfl ?_
  refine li_2 (P := fun (v2_1 v3_2 : Int) => Ev mX4_rootOf 0 4 [(0, (2, 16)), (2, (0, v2_1)), (3, (0, v3_2))] [] s (poI 0 s post)) ?_ h
  intro again_3 v2_1 v3_2 hagain_3 h
  refine Ev_iload_n dX4_rootOf_4 2 rfl ?_
  refine Ev_aload_n dX4_rootOf_5 0 rfl ?_
  refine Ev_geti 16 dX4_rootOf_6 f_RX4_41 rfl sh_16 ?_
  refine jc_0 (P := Ev mX4_rootOf 0 35 [(2, (0, v2_1))] [] s (poI 0 s post)) h ?_ ?_
  · intro  h
    refine Ev_iload_n dX4_rootOf_35 0 rfl ?_
    exact Ev_ret dX4_rootOf_36 trivial (poI_mk h)
  · intro K_4 hK_4 h
    refine Ev_icmp_ge (tgt := 35) dX4_rootOf_9 (by decide) (fun hc => ?_) (fun hc => ?_)
    · replace h := h.1 hc
      refine Ev_sub [1] rfl ?_
      exact hK_4 h
    · replace h := h.2 hc
      refine Ev_aload_n dX4_rootOf_12 0 rfl ?_
      refine Ev_getr 16 (22) dX4_rootOf_13 f_RX4_28 rfl sh_16 rfl ?_
      refine Ev_iload_n dX4_rootOf_16 1 rfl ?_
      obtain ⟨hb_5, h⟩ := h
      refine Ev_iald (22) dX4_rootOf_17 rfl sh_22 hb_5 ?_
      refine Ev_iload_n dX4_rootOf_18 1 rfl ?_
      refine Ev_icmp_eq (tgt := 35) dX4_rootOf_19 (by decide) (fun hc => ?_) (fun hc => ?_)
      · replace h := h.1 hc
        refine Ev_sub [1] rfl ?_
        exact hK_4 h
      · replace h := h.2 hc
        refine Ev_aload_n dX4_rootOf_22 0 rfl ?_
        refine Ev_getr 16 (22) dX4_rootOf_23 f_RX4_28 rfl sh_16 rfl ?_
        refine Ev_iload_n dX4_rootOf_26 1 rfl ?_
        obtain ⟨hb_6, h⟩ := h
        refine Ev_iald (22) dX4_rootOf_27 rfl sh_22 hb_6 ?_
        obtain ⟨v2_7, ev2_7⟩ : ∃ z : Int, z = s 22 v2_1.toNat := ⟨_, rfl⟩
        replace h := h v2_7 ev2_7
        rw [← ev2_7]
        refine Ev_istore_n dX4_rootOf_28 (by decide) rfl ?_
        obtain ⟨v3_8, ev3_8⟩ : ∃ z : Int, z = w32 (v3_2 + 1) := ⟨_, rfl⟩
        replace h := h v3_8 ev3_8
        refine Ev_iinc (v := v3_8) dX4_rootOf_29 2 rfl ev3_8.symm (by decide) rfl ?_
        refine Ev_goto (tgt := 4) dX4_rootOf_32 (by decide) ?_
        refine Ev_sub [2, 1, 0] rfl ?_
        exact hagain_3 _ _ h
theorem k_X4_rootOf_25 {s : Sg} {v1 : Int} {post : Int → Prop} (h : w_X4_rootOf s 25 v1 post) : EvM mX4_rootOf 0 [(2, 25), (0, v1)] s (poI 0 s post) := by
  refine EvM_of rfl (by decide +kernel) (Nat.le_of_ble_eq_true rfl) ?_
  unfold w_X4_rootOf at h
  show Ev mX4_rootOf 0 0 [(0, (2, 25)), (1, (0, v1))] [] s (poI 0 s post)
  refine Ev_iload_n dX4_rootOf_0 1 rfl ?_
  refine Ev_istore_n dX4_rootOf_1 (by decide) rfl ?_
  refine Ev_iconst (v := 0) dX4_rootOf_2 rfl ⟨by decide, by decide⟩ ?_
  refine Ev_istore_n dX4_rootOf_3 (by decide) rfl ?_
  refine Ev_sub [2, 1, 0] rfl ?_
  refine li_2 (P := fun (v2_1 v3_2 : Int) => Ev mX4_rootOf 0 4 [(0, (2, 25)), (2, (0, v2_1)), (3, (0, v3_2))] [] s (poI 0 s post)) ?_ h
  intro again_3 v2_1 v3_2 hagain_3 h
  refine Ev_iload_n dX4_rootOf_4 2 rfl ?_
  refine Ev_aload_n dX4_rootOf_5 0 rfl ?_
  refine Ev_geti 25 dX4_rootOf_6 f_RX4_41 rfl sh_25 ?_
  refine jc_0 (P := Ev mX4_rootOf 0 35 [(2, (0, v2_1))] [] s (poI 0 s post)) h ?_ ?_
  · intro  h
    refine Ev_iload_n dX4_rootOf_35 0 rfl ?_
    exact Ev_ret dX4_rootOf_36 trivial (poI_mk h)
  · intro K_4 hK_4 h
    refine Ev_icmp_ge (tgt := 35) dX4_rootOf_9 (by decide) (fun hc => ?_) (fun hc => ?_)
    · replace h := h.1 hc
      refine Ev_sub [1] rfl ?_
      exact hK_4 h
    · replace h := h.2 hc
      refine Ev_aload_n dX4_rootOf_12 0 rfl ?_
      refine Ev_getr 25 (31) dX4_rootOf_13 f_RX4_28 rfl sh_25 rfl ?_
      refine Ev_iload_n dX4_rootOf_16 1 rfl ?_
      obtain ⟨hb_5, h⟩ := h
      refine Ev_iald (31) dX4_rootOf_17 rfl sh_31 hb_5 ?_
      refine Ev_iload_n dX4_rootOf_18 1 rfl ?_
      refine Ev_icmp_eq (tgt := 35) dX4_rootOf_19 (by decide) (fun hc => ?_) (fun hc => ?_)
      · replace h := h.1 hc
        refine Ev_sub [1] rfl ?_
        exact hK_4 h
      · replace h := h.2 hc
        refine Ev_aload_n dX4_rootOf_22 0 rfl ?_
        refine Ev_getr 25 (31) dX4_rootOf_23 f_RX4_28 rfl sh_25 rfl ?_
        refine Ev_iload_n dX4_rootOf_26 1 rfl ?_
        obtain ⟨hb_6, h⟩ := h
        refine Ev_iald (31) dX4_rootOf_27 rfl sh_31 hb_6 ?_
        obtain ⟨v2_7, ev2_7⟩ : ∃ z : Int, z = s 31 v2_1.toNat := ⟨_, rfl⟩
        replace h := h v2_7 ev2_7
        rw [← ev2_7]
        refine Ev_istore_n dX4_rootOf_28 (by decide) rfl ?_
        obtain ⟨v3_8, ev3_8⟩ : ∃ z : Int, z = w32 (v3_2 + 1) := ⟨_, rfl⟩
        replace h := h v3_8 ev3_8
        refine Ev_iinc (v := v3_8) dX4_rootOf_29 2 rfl ev3_8.symm (by decide) rfl ?_
        refine Ev_goto (tgt := 4) dX4_rootOf_32 (by decide) ?_
        refine Ev_sub [2, 1, 0] rfl ?_
        exact hagain_3 _ _ h
theorem k_X4_countParts_16 {s : Sg} {post : Sg → Prop} (h : w_X4_countParts s 16 post) : EvM mX4_countParts 1 [(2, 16)] s (poV post) := by
  refine EvM_of rfl (by decide +kernel) (Nat.le_of_ble_eq_true rfl) ?_
  unfold w_X4_countParts at h
  show Ev mX4_countParts 1 0 [(0, (2, 16))] [] s (poV post)
  refine Ev_aload_n dX4_countParts_0 0 rfl ?_
  refine Ev_iconst (v := 0) dX4_countParts_1 rfl ⟨by decide, by decide⟩ ?_
  obtain ⟨s_1, es_1⟩ : ∃ z : Sg, z = (up s 16 2 0) := ⟨_, rfl⟩
  replace h := h s_1 es_1
  refine Ev_puti 16 dX4_countParts_2 fp_RX4_130 rfl sh_16 ?_
  rw [← es_1]
  refine Ev_iconst (v := 0) dX4_countParts_5 rfl ⟨by decide, by decide⟩ ?_
  refine Ev_istore_n dX4_countParts_6 (by decide) rfl ?_
  refine Ev_sub [1, 0] rfl ?_
  refine li_1s (P := fun (v1_2 : Int) (s_3 : Sg) => Ev mX4_countParts 1 7 [(0, (2, 16)), (1, (0, v1_2))] [] s_3 (poV post)) ?_ h
  intro again_4 v1_2 s_3 hagain_4 h
  refine Ev_iload_n dX4_countParts_7 1 rfl ?_
  refine Ev_aload_n dX4_countParts_8 0 rfl ?_
  refine Ev_geti 16 dX4_countParts_9 f_RX4_41 rfl sh_16 ?_
  refine Ev_icmp_ge (tgt := 52) dX4_countParts_12 (by decide) (fun hc => ?_) (fun hc => ?_)
  · replace h := h.1 hc
    exact Ev_retv dX4_countParts_52 rfl (poV_mk h)
  · replace h := h.2 hc
    refine Ev_aload_n dX4_countParts_15 0 rfl ?_
    refine Ev_getr 16 (22) dX4_countParts_16 f_RX4_28 rfl sh_16 rfl ?_
    refine Ev_iload_n dX4_countParts_19 1 rfl ?_
    refine Ev_aload_n dX4_countParts_20 0 rfl ?_
    refine Ev_iload_n dX4_countParts_21 1 rfl ?_
    refine Ev_invV (d' := 0) [(0, v1_2)] 16 dX4_countParts_22 M_X4_rootOf q_523 (by decide) rfl rfl sh_16 rfl (Nat.le_of_ble_eq_true rfl) (k_X4_rootOf_16 h) ?_
    rintro _ _ ⟨rfl, r_5, rfl, h⟩
    obtain ⟨hb_6, h⟩ := h
    obtain ⟨s_7, es_7⟩ : ∃ z : Sg, z = (up s_3 22 (v1_2.toNat) r_5) := ⟨_, rfl⟩
    replace h := h s_7 es_7
    refine Ev_iast (22) dX4_countParts_25 rfl sh_22 hb_6 ?_
    rw [← es_7]
    refine Ev_aload_n dX4_countParts_26 0 rfl ?_
    refine Ev_getr 16 (22) dX4_countParts_27 f_RX4_28 rfl sh_16 rfl ?_
    refine Ev_iload_n dX4_countParts_30 1 rfl ?_
    obtain ⟨hb_8, h⟩ := h
    refine Ev_iald (22) dX4_countParts_31 rfl sh_22 hb_8 ?_
    refine Ev_iload_n dX4_countParts_32 1 rfl ?_
    refine jc_0s (P := fun (s_9 : Sg) => Ev mX4_countParts 1 46 [(0, (2, 16)), (1, (0, v1_2))] [] s_9 (poV post)) h ?_ ?_
    · intro s_9 h
      obtain ⟨v1_11, ev1_11⟩ : ∃ z : Int, z = w32 (v1_2 + 1) := ⟨_, rfl⟩
      replace h := h v1_11 ev1_11
      refine Ev_iinc (v := v1_11) dX4_countParts_46 1 rfl ev1_11.symm (by decide) rfl ?_
      refine Ev_goto (tgt := 7) dX4_countParts_49 (by decide) ?_
      refine Ev_sub [1, 0] rfl ?_
      exact hagain_4 _ _ h
    · intro K_10 hK_10 h
      refine Ev_icmp_ne (tgt := 46) dX4_countParts_33 (by decide) (fun hc => ?_) (fun hc => ?_)
      · replace h := h.1 hc
        exact hK_10 _ h
      · replace h := h.2 hc
        refine Ev_aload_n dX4_countParts_36 0 rfl ?_
        refine Ev_dup dX4_countParts_37 (show ¬ (2 : Nat) = 1 by decide) ?_
        refine Ev_geti 16 dX4_countParts_38 f_RX4_130 rfl sh_16 ?_
        refine Ev_iconst (v := 1) dX4_countParts_41 rfl ⟨by decide, by decide⟩ ?_
        refine Ev_iadd dX4_countParts_42 ?_
        obtain ⟨s_12, es_12⟩ : ∃ z : Sg, z = (up s_7 16 2 (w32 ((s_7 16 2) + 1))) := ⟨_, rfl⟩
        replace h := h s_12 es_12
        refine Ev_puti 16 dX4_countParts_43 fp_RX4_130 rfl sh_16 ?_
        rw [← es_12]
        exact hK_10 _ h
theorem k_X4_countParts_25 {s : Sg} {post : Sg → Prop} (h : w_X4_countParts s 25 post) : EvM mX4_countParts 1 [(2, 25)] s (poV post) := by
  refine EvM_of rfl (by decide +kernel) (Nat.le_of_ble_eq_true rfl) ?_
  unfold w_X4_countParts at h
  show Ev mX4_countParts 1 0 [(0, (2, 25))] [] s (poV post)
  refine Ev_aload_n dX4_countParts_0 0 rfl ?_
  refine Ev_iconst (v := 0) dX4_countParts_1 rfl ⟨by decide, by decide⟩ ?_
  obtain ⟨s_1, es_1⟩ : ∃ z : Sg, z = (up s 25 2 0) := ⟨_, rfl⟩
  replace h := h s_1 es_1
  refine Ev_puti 25 dX4_countParts_2 fp_RX4_130 rfl sh_25 ?_
  rw [← es_1]
  refine Ev_iconst (v := 0) dX4_countParts_5 rfl ⟨by decide, by decide⟩ ?_
  refine Ev_istore_n dX4_countParts_6 (by decide) rfl ?_
  refine Ev_sub [1, 0] rfl ?_
  refine li_1s (P := fun (v1_2 : Int) (s_3 : Sg) => Ev mX4_countParts 1 7 [(0, (2, 25)), (1, (0, v1_2))] [] s_3 (poV post)) ?_ h
  intro again_4 v1_2 s_3 hagain_4 h
  refine Ev_iload_n dX4_countParts_7 1 rfl ?_
  refine Ev_aload_n dX4_countParts_8 0 rfl ?_
  refine Ev_geti 25 dX4_countParts_9 f_RX4_41 rfl sh_25 ?_
  refine Ev_icmp_ge (tgt := 52) dX4_countParts_12 (by decide) (fun hc => ?_) (fun hc => ?_)
  · replace h := h.1 hc
    exact Ev_retv dX4_countParts_52 rfl (poV_mk h)
  · replace h := h.2 hc
    refine Ev_aload_n dX4_countParts_15 0 rfl ?_
    refine Ev_getr 25 (31) dX4_countParts_16 f_RX4_28 rfl sh_25 rfl ?_
    refine Ev_iload_n dX4_countParts_19 1 rfl ?_
    refine Ev_aload_n dX4_countParts_20 0 rfl ?_
    refine Ev_iload_n dX4_countParts_21 1 rfl ?_
    refine Ev_invV (d' := 0) [(0, v1_2)] 25 dX4_countParts_22 M_X4_rootOf q_523 (by decide) rfl rfl sh_25 rfl (Nat.le_of_ble_eq_true rfl) (k_X4_rootOf_25 h) ?_
    rintro _ _ ⟨rfl, r_5, rfl, h⟩
    obtain ⟨hb_6, h⟩ := h
    obtain ⟨s_7, es_7⟩ : ∃ z : Sg, z = (up s_3 31 (v1_2.toNat) r_5) := ⟨_, rfl⟩
    replace h := h s_7 es_7
    refine Ev_iast (31) dX4_countParts_25 rfl sh_31 hb_6 ?_
    rw [← es_7]
    refine Ev_aload_n dX4_countParts_26 0 rfl ?_
    refine Ev_getr 25 (31) dX4_countParts_27 f_RX4_28 rfl sh_25 rfl ?_
    refine Ev_iload_n dX4_countParts_30 1 rfl ?_
    obtain ⟨hb_8, h⟩ := h
    refine Ev_iald (31) dX4_countParts_31 rfl sh_31 hb_8 ?_
    refine Ev_iload_n dX4_countParts_32 1 rfl ?_
    refine jc_0s (P := fun (s_9 : Sg) => Ev mX4_countParts 1 46 [(0, (2, 25)), (1, (0, v1_2))] [] s_9 (poV post)) h ?_ ?_
    · intro s_9 h
      obtain ⟨v1_11, ev1_11⟩ : ∃ z : Int, z = w32 (v1_2 + 1) := ⟨_, rfl⟩
      replace h := h v1_11 ev1_11
      refine Ev_iinc (v := v1_11) dX4_countParts_46 1 rfl ev1_11.symm (by decide) rfl ?_
      refine Ev_goto (tgt := 7) dX4_countParts_49 (by decide) ?_
      refine Ev_sub [1, 0] rfl ?_
      exact hagain_4 _ _ h
    · intro K_10 hK_10 h
      refine Ev_icmp_ne (tgt := 46) dX4_countParts_33 (by decide) (fun hc => ?_) (fun hc => ?_)
      · replace h := h.1 hc
        exact hK_10 _ h
      · replace h := h.2 hc
        refine Ev_aload_n dX4_countParts_36 0 rfl ?_
        refine Ev_dup dX4_countParts_37 (show ¬ (2 : Nat) = 1 by decide) ?_
        refine Ev_geti 25 dX4_countParts_38 f_RX4_130 rfl sh_25 ?_
        refine Ev_iconst (v := 1) dX4_countParts_41 rfl ⟨by decide, by decide⟩ ?_
        refine Ev_iadd dX4_countParts_42 ?_
        obtain ⟨s_12, es_12⟩ : ∃ z : Sg, z = (up s_7 25 2 (w32 ((s_7 25 2) + 1))) := ⟨_, rfl⟩
        replace h := h s_12 es_12
        refine Ev_puti 25 dX4_countParts_43 fp_RX4_130 rfl sh_25 ?_
        rw [← es_12]
        exact hK_10 _ h
theorem k_X4_endsAt {s : Sg} {v2 : Int} {post : Int → Prop} (h : w_X4_endsAt s v2 post) : EvM mX4_endsAt 0 [(2, 16), (2, 1), (0, v2)] s (poI 0 s post) := by
  refine EvM_of rfl (by decide +kernel) (Nat.le_of_ble_eq_true rfl) ?_
  unfold w_X4_endsAt at h
  show Ev mX4_endsAt 0 0 [(0, (2, 16)), (1, (2, 1)), (2, (0, v2))] [] s (poI 0 s post)
  refine Ev_aload_n dX4_endsAt_0 0 rfl ?_
  refine Ev_getr 16 (18) dX4_endsAt_1 f_RX4_15 rfl sh_16 rfl ?_
  refine Ev_iload_n dX4_endsAt_4 2 rfl ?_
  obtain ⟨hb_1, h⟩ := h
  refine Ev_lald (18) dX4_endsAt_5 rfl sh_18 hb_1 ?_
  refine Ev_lconst (v := 1) dX4_endsAt_6 (by decide +kernel) ?_
  refine Ev_lcmp dX4_endsAt_7 ?_
  refine jc_0 (P := Ev mX4_endsAt 0 22 [] [] s (poI 0 s post)) h ?_ ?_
  · intro  h
    refine Ev_iconst (v := 0) dX4_endsAt_22 rfl ⟨by decide, by decide⟩ ?_
    exact Ev_ret dX4_endsAt_23 trivial (poI_mk h)
  · intro K_2 hK_2 h
    refine Ev_if_ne (tgt := 22) dX4_endsAt_8 (by decide) (fun hc => ?_) (fun hc => ?_)
    · replace h := h.1 (fun q => hc (lcmp_eq.mpr q))
      refine Ev_sub [] rfl ?_
      exact hK_2 h
    · replace h := h.2 (lcmp_eq.mp hc)
      refine Ev_aload_n dX4_endsAt_11 0 rfl ?_
      refine Ev_getr 16 (20) dX4_endsAt_12 f_RX4_21 rfl sh_16 rfl ?_
      refine Ev_iload_n dX4_endsAt_15 2 rfl ?_
      obtain ⟨hb_3, h⟩ := h
      refine Ev_lald (20) dX4_endsAt_16 rfl sh_20 hb_3 ?_
      refine Ev_lconst (v := 1) dX4_endsAt_17 (by decide +kernel) ?_
      refine Ev_lcmp dX4_endsAt_18 ?_
      refine Ev_if_eq (tgt := 24) dX4_endsAt_19 (by decide) (fun hc => ?_) (fun hc => ?_)
      · replace h := h.1 (lcmp_eq.mp hc)
        refine Ev_iconst (v := 0) dX4_endsAt_24 rfl ⟨by decide, by decide⟩ ?_
        refine Ev_istore_n dX4_endsAt_25 (by decide) rfl ?_
        refine Ev_iconst (v := 0) dX4_endsAt_26 rfl ⟨by decide, by decide⟩ ?_
        refine Ev_istore dX4_endsAt_27 (by decide) rfl ?_
        refine Ev_sub [2, 3, 4, 1, 0] rfl ?_
        refine li_2 (P := fun (v3_4 v4_5 : Int) => Ev mX4_endsAt 0 29 [(0, (2, 16)), (1, (2, 1)), (2, (0, v2)), (3, (0, v3_4)), (4, (0, v4_5))] [] s (poI 0 s post)) ?_ h
        intro again_6 v3_4 v4_5 hagain_6 h
        refine Ev_iload dX4_endsAt_29 4 rfl ?_
        refine Ev_aload_n dX4_endsAt_31 1 rfl ?_
        refine Ev_geti 1 dX4_endsAt_32 f_RX4_45 rfl sh_1 ?_
        refine Ev_icmp_ge (tgt := 122) dX4_endsAt_35 (by decide) (fun hc => ?_) (fun hc => ?_)
        · replace h := h.1 hc
          refine Ev_iload_n dX4_endsAt_122 3 rfl ?_
          exact Ev_ret dX4_endsAt_123 trivial (poI_mk h)
        · replace h := h.2 hc
          refine Ev_aload_n dX4_endsAt_38 1 rfl ?_
          refine Ev_getr 1 (2) dX4_endsAt_39 f_RX4_48 rfl sh_1 rfl ?_
          refine Ev_iload dX4_endsAt_42 4 rfl ?_
          obtain ⟨hb_7, h⟩ := h
          refine Ev_iald (2) dX4_endsAt_44 rfl sh_2 hb_7 ?_
          refine Ev_i2l dX4_endsAt_45 ?_
          refine Ev_aload_n dX4_endsAt_46 0 rfl ?_
          refine Ev_getr 16 (17) dX4_endsAt_47 f_RX4_9 rfl sh_16 rfl ?_
          refine Ev_iload_n dX4_endsAt_50 2 rfl ?_
          obtain ⟨hb_8, h⟩ := h
          refine Ev_lald (17) dX4_endsAt_51 rfl sh_17 hb_8 ?_
          refine Ev_lcmp dX4_endsAt_52 ?_
          refine jc_1 (P := fun (v3_9 : Int) => Ev mX4_endsAt 0 77 [(0, (2, 16)), (1, (2, 1)), (2, (0, v2)), (3, (0, v3_9)), (4, (0, v4_5))] [] s (poI 0 s post)) h ?_ ?_
          · intro v3_9 h
            refine Ev_aload_n dX4_endsAt_77 1 rfl ?_
            refine Ev_getr 1 (4) dX4_endsAt_78 f_RX4_58 rfl sh_1 rfl ?_
            refine Ev_iload dX4_endsAt_81 4 rfl ?_
            obtain ⟨hb_11, h⟩ := h
            refine Ev_iald (4) dX4_endsAt_83 rfl sh_4 hb_11 ?_
            refine Ev_i2l dX4_endsAt_84 ?_
            refine Ev_aload_n dX4_endsAt_85 0 rfl ?_
            refine Ev_getr 16 (17) dX4_endsAt_86 f_RX4_9 rfl sh_16 rfl ?_
            refine Ev_iload_n dX4_endsAt_89 2 rfl ?_
            obtain ⟨hb_12, h⟩ := h
            refine Ev_lald (17) dX4_endsAt_90 rfl sh_17 hb_12 ?_
            refine Ev_lcmp dX4_endsAt_91 ?_
            refine jc_1 (P := fun (v3_13 : Int) => Ev mX4_endsAt 0 116 [(0, (2, 16)), (1, (2, 1)), (2, (0, v2)), (3, (0, v3_13)), (4, (0, v4_5))] [] s (poI 0 s post)) h ?_ ?_
            · intro v3_13 h
              obtain ⟨v4_15, ev4_15⟩ : ∃ z : Int, z = w32 (v4_5 + 1) := ⟨_, rfl⟩
              replace h := h v4_15 ev4_15
              refine Ev_iinc (v := v4_15) dX4_endsAt_116 4 rfl ev4_15.symm (by decide) rfl ?_
              refine Ev_goto (tgt := 29) dX4_endsAt_119 (by decide) ?_
              refine Ev_sub [1, 2, 3, 4, 0] rfl ?_
              exact hagain_6 _ _ h
            · intro K_14 hK_14 h
              refine Ev_if_ne (tgt := 116) dX4_endsAt_92 (by decide) (fun hc => ?_) (fun hc => ?_)
              · replace h := h.1 (fun q => hc (lcmp_eq.mpr q))
                exact hK_14 _ h
              · replace h := h.2 (lcmp_eq.mp hc)
                refine Ev_aload_n dX4_endsAt_95 1 rfl ?_
                refine Ev_getr 1 (5) dX4_endsAt_96 f_RX4_61 rfl sh_1 rfl ?_
                refine Ev_iload dX4_endsAt_99 4 rfl ?_
                obtain ⟨hb_16, h⟩ := h
                refine Ev_iald (5) dX4_endsAt_101 rfl sh_5 hb_16 ?_
                refine Ev_i2l dX4_endsAt_102 ?_
                refine Ev_aload_n dX4_endsAt_103 0 rfl ?_
                refine Ev_getr 16 (19) dX4_endsAt_104 f_RX4_18 rfl sh_16 rfl ?_
                refine Ev_iload_n dX4_endsAt_107 2 rfl ?_
                obtain ⟨hb_17, h⟩ := h
                refine Ev_lald (19) dX4_endsAt_108 rfl sh_19 hb_17 ?_
                refine Ev_lcmp dX4_endsAt_109 ?_
                refine Ev_if_ne (tgt := 116) dX4_endsAt_110 (by decide) (fun hc => ?_) (fun hc => ?_)
                · replace h := h.1 (fun q => hc (lcmp_eq.mpr q))
                  exact hK_14 _ h
                · replace h := h.2 (lcmp_eq.mp hc)
                  obtain ⟨v3_18, ev3_18⟩ : ∃ z : Int, z = w32 (v3_9 + 1) := ⟨_, rfl⟩
                  replace h := h v3_18 ev3_18
                  refine Ev_iinc (v := v3_18) dX4_endsAt_113 3 rfl ev3_18.symm (by decide) rfl ?_
                  refine Ev_sub [1, 2, 3, 0, 4] rfl ?_
                  exact hK_14 _ h
          · intro K_10 hK_10 h
            refine Ev_if_ne (tgt := 77) dX4_endsAt_53 (by decide) (fun hc => ?_) (fun hc => ?_)
            · replace h := h.1 (fun q => hc (lcmp_eq.mpr q))
              exact hK_10 _ h
            · replace h := h.2 (lcmp_eq.mp hc)
              refine Ev_aload_n dX4_endsAt_56 1 rfl ?_
              refine Ev_getr 1 (3) dX4_endsAt_57 f_RX4_51 rfl sh_1 rfl ?_
              refine Ev_iload dX4_endsAt_60 4 rfl ?_
              obtain ⟨hb_19, h⟩ := h
              refine Ev_iald (3) dX4_endsAt_62 rfl sh_3 hb_19 ?_
              refine Ev_i2l dX4_endsAt_63 ?_
              refine Ev_aload_n dX4_endsAt_64 0 rfl ?_
              refine Ev_getr 16 (19) dX4_endsAt_65 f_RX4_18 rfl sh_16 rfl ?_
              refine Ev_iload_n dX4_endsAt_68 2 rfl ?_
              obtain ⟨hb_20, h⟩ := h
              refine Ev_lald (19) dX4_endsAt_69 rfl sh_19 hb_20 ?_
              refine Ev_lcmp dX4_endsAt_70 ?_
              refine Ev_if_ne (tgt := 77) dX4_endsAt_71 (by decide) (fun hc => ?_) (fun hc => ?_)
              · replace h := h.1 (fun q => hc (lcmp_eq.mpr q))
                exact hK_10 _ h
              · replace h := h.2 (lcmp_eq.mp hc)
                obtain ⟨v3_21, ev3_21⟩ : ∃ z : Int, z = w32 (v3_4 + 1) := ⟨_, rfl⟩
                replace h := h v3_21 ev3_21
                refine Ev_iinc (v := v3_21) dX4_endsAt_74 3 rfl ev3_21.symm (by decide) rfl ?_
                refine Ev_sub [1, 2, 3, 0, 4] rfl ?_
                exact hK_10 _ h
      · replace h := h.2 (fun q => hc (lcmp_eq.mpr q))
        refine Ev_sub [] rfl ?_
        exact hK_2 h
theorem k_X4_facesAround {s : Sg} {post : Int → Prop} (h : w_X4_facesAround s post) : EvM mX4_facesAround 0 [(2, 25)] s (poI 0 s post) := by
  refine EvM_of rfl (by decide +kernel) (Nat.le_of_ble_eq_true rfl) ?_
  unfold w_X4_facesAround at h
  show Ev mX4_facesAround 0 0 [(0, (2, 25))] [] s (poI 0 s post)
  refine Ev_aload_n dX4_facesAround_0 0 rfl ?_
  refine Ev_geti 25 dX4_facesAround_1 f_RX4_72 rfl sh_25 ?_
  refine Ev_aload_n dX4_facesAround_4 0 rfl ?_
  refine Ev_geti 25 dX4_facesAround_5 f_RX4_41 rfl sh_25 ?_
  refine Ev_isub dX4_facesAround_8 ?_
  refine Ev_aload_n dX4_facesAround_9 0 rfl ?_
  refine Ev_geti 25 dX4_facesAround_10 f_RX4_130 rfl sh_25 ?_
  refine Ev_iadd dX4_facesAround_13 ?_
  refine Ev_iconst (v := 1) dX4_facesAround_14 rfl ⟨by decide, by decide⟩ ?_
  refine Ev_iadd dX4_facesAround_15 ?_
  exact Ev_ret dX4_facesAround_16 trivial (poI_mk h)
theorem k_X4_linesThrough_16_1 {s : Sg} {v2 : Int} {post : Int → Prop} (h : w_X4_linesThrough s 16 1 v2 post) : EvM mX4_linesThrough 2 [(2, 16), (2, 1), (0, v2)] s (poI 0 s post) := by
  refine EvM_of rfl (by decide +kernel) (Nat.le_of_ble_eq_true rfl) ?_
  unfold w_X4_linesThrough at h
  show Ev mX4_linesThrough 2 0 [(0, (2, 16)), (1, (2, 1)), (2, (0, v2))] [] s (poI 0 s post)
  refine Ev_iconst (v := 0) dX4_linesThrough_0 rfl ⟨by decide, by decide⟩ ?_
  refine Ev_istore_n dX4_linesThrough_1 (by decide) rfl ?_
  refine Ev_iconst (v := 0) dX4_linesThrough_2 rfl ⟨by decide, by decide⟩ ?_
  refine Ev_istore dX4_linesThrough_3 (by decide) rfl ?_
  refine Ev_sub [2, 3, 4, 1, 0] rfl ?_
  refine li_2 (P := fun (v3_1 v4_2 : Int) => Ev mX4_linesThrough 2 5 [(0, (2, 16)), (1, (2, 1)), (2, (0, v2)), (3, (0, v3_1)), (4, (0, v4_2))] [] s (poI 0 s post)) ?_ h
  intro again_3 v3_1 v4_2 hagain_3 h
  refine Ev_iload dX4_linesThrough_5 4 rfl ?_
  refine Ev_aload_n dX4_linesThrough_7 1 rfl ?_
  refine Ev_geti 1 dX4_linesThrough_8 f_RX4_45 rfl sh_1 ?_
  refine Ev_icmp_ge (tgt := 60) dX4_linesThrough_11 (by decide) (fun hc => ?_) (fun hc => ?_)
  · replace h := h.1 hc
    refine Ev_iload_n dX4_linesThrough_60 3 rfl ?_
    exact Ev_ret dX4_linesThrough_61 trivial (poI_mk h)
  · replace h := h.2 hc
    refine Ev_aload_n dX4_linesThrough_14 1 rfl ?_
    refine Ev_iload dX4_linesThrough_15 4 rfl ?_
    refine Ev_aload_n dX4_linesThrough_17 0 rfl ?_
    refine Ev_getr 16 (17) dX4_linesThrough_18 f_RX4_9 rfl sh_16 rfl ?_
    refine Ev_iload_n dX4_linesThrough_21 2 rfl ?_
    obtain ⟨hb_4, h⟩ := h
    refine Ev_lald (17) dX4_linesThrough_22 rfl sh_17 hb_4 ?_
    refine Ev_aload_n dX4_linesThrough_23 0 rfl ?_
    refine Ev_getr 16 (18) dX4_linesThrough_24 f_RX4_15 rfl sh_16 rfl ?_
    refine Ev_iload_n dX4_linesThrough_27 2 rfl ?_
    obtain ⟨hb_5, h⟩ := h
    refine Ev_lald (18) dX4_linesThrough_28 rfl sh_18 hb_5 ?_
    refine Ev_aload_n dX4_linesThrough_29 0 rfl ?_
    refine Ev_getr 16 (19) dX4_linesThrough_30 f_RX4_18 rfl sh_16 rfl ?_
    refine Ev_iload_n dX4_linesThrough_33 2 rfl ?_
    obtain ⟨hb_6, h⟩ := h
    refine Ev_lald (19) dX4_linesThrough_34 rfl sh_19 hb_6 ?_
    refine Ev_aload_n dX4_linesThrough_35 0 rfl ?_
    refine Ev_getr 16 (20) dX4_linesThrough_36 f_RX4_21 rfl sh_16 rfl ?_
    refine Ev_iload_n dX4_linesThrough_39 2 rfl ?_
    obtain ⟨hb_7, h⟩ := h
    refine Ev_lald (20) dX4_linesThrough_40 rfl sh_20 hb_7 ?_
    refine Ev_invV (d' := 1) [(0, v4_2), (1, s 17 v2.toNat), (1, s 18 v2.toNat), (1, s 19 v2.toNat), (1, s 20 v2.toNat)] 1 dX4_linesThrough_41 M_X2_holds q_496 (by decide) rfl rfl sh_1 rfl (Nat.le_of_ble_eq_true rfl) (k_X2_holds_1 h) ?_
    rintro _ _ ⟨rfl, r_8, rfl, h⟩
    refine jc_1 (P := fun (v3_9 : Int) => Ev mX4_linesThrough 2 54 [(0, (2, 16)), (1, (2, 1)), (2, (0, v2)), (3, (0, v3_9)), (4, (0, v4_2))] [] s (poI 0 s post)) h ?_ ?_
    · intro v3_9 h
      obtain ⟨v4_11, ev4_11⟩ : ∃ z : Int, z = w32 (v4_2 + 1) := ⟨_, rfl⟩
      replace h := h v4_11 ev4_11
      refine Ev_iinc (v := v4_11) dX4_linesThrough_54 4 rfl ev4_11.symm (by decide) rfl ?_
      refine Ev_goto (tgt := 5) dX4_linesThrough_57 (by decide) ?_
      refine Ev_sub [1, 2, 3, 4, 0] rfl ?_
      exact hagain_3 _ _ h
    · intro K_10 hK_10 h
      refine Ev_if_eq (tgt := 54) dX4_linesThrough_44 (by decide) (fun hc => ?_) (fun hc => ?_)
      · replace h := h.1 hc
        exact hK_10 _ h
      · replace h := h.2 hc
        refine Ev_iload_n dX4_linesThrough_47 3 rfl ?_
        refine Ev_iconst (v := 1) dX4_linesThrough_48 rfl ⟨by decide, by decide⟩ ?_
        refine Ev_iload dX4_linesThrough_49 4 rfl ?_
        refine Ev_ishl dX4_linesThrough_51 ?_
        refine Ev_ior dX4_linesThrough_52 ?_
        obtain ⟨v3_12, ev3_12⟩ : ∃ z : Int, z = ior v3_1 (ishl 1 v4_2) := ⟨_, rfl⟩
        replace h := h v3_12 ev3_12
        rw [← ev3_12]
        refine Ev_istore_n dX4_linesThrough_53 (by decide) rfl ?_
        refine Ev_sub [1, 2, 3, 0, 4] rfl ?_
        exact hK_10 _ h
theorem k_X4_linesThrough_25_11 {s : Sg} {v2 : Int} {post : Int → Prop} (h : w_X4_linesThrough s 25 11 v2 post) : EvM mX4_linesThrough 2 [(2, 25), (2, 11), (0, v2)] s (poI 0 s post) := by
  refine EvM_of rfl (by decide +kernel) (Nat.le_of_ble_eq_true rfl) ?_
  unfold w_X4_linesThrough at h
  show Ev mX4_linesThrough 2 0 [(0, (2, 25)), (1, (2, 11)), (2, (0, v2))] [] s (poI 0 s post)
  refine Ev_iconst (v := 0) dX4_linesThrough_0 rfl ⟨by decide, by decide⟩ ?_
  refine Ev_istore_n dX4_linesThrough_1 (by decide) rfl ?_
  refine Ev_iconst (v := 0) dX4_linesThrough_2 rfl ⟨by decide, by decide⟩ ?_
  refine Ev_istore dX4_linesThrough_3 (by decide) rfl ?_
  refine Ev_sub [2, 3, 4, 1, 0] rfl ?_
  refine li_2 (P := fun (v3_1 v4_2 : Int) => Ev mX4_linesThrough 2 5 [(0, (2, 25)), (1, (2, 11)), (2, (0, v2)), (3, (0, v3_1)), (4, (0, v4_2))] [] s (poI 0 s post)) ?_ h
  intro again_3 v3_1 v4_2 hagain_3 h
  refine Ev_iload dX4_linesThrough_5 4 rfl ?_
  refine Ev_aload_n dX4_linesThrough_7 1 rfl ?_
  refine Ev_geti 11 dX4_linesThrough_8 f_RX4_45 rfl sh_11 ?_
  refine Ev_icmp_ge (tgt := 60) dX4_linesThrough_11 (by decide) (fun hc => ?_) (fun hc => ?_)
  · replace h := h.1 hc
    refine Ev_iload_n dX4_linesThrough_60 3 rfl ?_
    exact Ev_ret dX4_linesThrough_61 trivial (poI_mk h)
  · replace h := h.2 hc
    refine Ev_aload_n dX4_linesThrough_14 1 rfl ?_
    refine Ev_iload dX4_linesThrough_15 4 rfl ?_
    refine Ev_aload_n dX4_linesThrough_17 0 rfl ?_
    refine Ev_getr 25 (26) dX4_linesThrough_18 f_RX4_9 rfl sh_25 rfl ?_
    refine Ev_iload_n dX4_linesThrough_21 2 rfl ?_
    obtain ⟨hb_4, h⟩ := h
    refine Ev_lald (26) dX4_linesThrough_22 rfl sh_26 hb_4 ?_
    refine Ev_aload_n dX4_linesThrough_23 0 rfl ?_
    refine Ev_getr 25 (27) dX4_linesThrough_24 f_RX4_15 rfl sh_25 rfl ?_
    refine Ev_iload_n dX4_linesThrough_27 2 rfl ?_
    obtain ⟨hb_5, h⟩ := h
    refine Ev_lald (27) dX4_linesThrough_28 rfl sh_27 hb_5 ?_
    refine Ev_aload_n dX4_linesThrough_29 0 rfl ?_
    refine Ev_getr 25 (28) dX4_linesThrough_30 f_RX4_18 rfl sh_25 rfl ?_
    refine Ev_iload_n dX4_linesThrough_33 2 rfl ?_
    obtain ⟨hb_6, h⟩ := h
    refine Ev_lald (28) dX4_linesThrough_34 rfl sh_28 hb_6 ?_
    refine Ev_aload_n dX4_linesThrough_35 0 rfl ?_
    refine Ev_getr 25 (29) dX4_linesThrough_36 f_RX4_21 rfl sh_25 rfl ?_
    refine Ev_iload_n dX4_linesThrough_39 2 rfl ?_
    obtain ⟨hb_7, h⟩ := h
    refine Ev_lald (29) dX4_linesThrough_40 rfl sh_29 hb_7 ?_
    refine Ev_invV (d' := 1) [(0, v4_2), (1, s 26 v2.toNat), (1, s 27 v2.toNat), (1, s 28 v2.toNat), (1, s 29 v2.toNat)] 11 dX4_linesThrough_41 M_X2_holds q_496 (by decide) rfl rfl sh_11 rfl (Nat.le_of_ble_eq_true rfl) (k_X2_holds_11 h) ?_
    rintro _ _ ⟨rfl, r_8, rfl, h⟩
    refine jc_1 (P := fun (v3_9 : Int) => Ev mX4_linesThrough 2 54 [(0, (2, 25)), (1, (2, 11)), (2, (0, v2)), (3, (0, v3_9)), (4, (0, v4_2))] [] s (poI 0 s post)) h ?_ ?_
    · intro v3_9 h
      obtain ⟨v4_11, ev4_11⟩ : ∃ z : Int, z = w32 (v4_2 + 1) := ⟨_, rfl⟩
      replace h := h v4_11 ev4_11
      refine Ev_iinc (v := v4_11) dX4_linesThrough_54 4 rfl ev4_11.symm (by decide) rfl ?_
      refine Ev_goto (tgt := 5) dX4_linesThrough_57 (by decide) ?_
      refine Ev_sub [1, 2, 3, 4, 0] rfl ?_
      exact hagain_3 _ _ h
    · intro K_10 hK_10 h
      refine Ev_if_eq (tgt := 54) dX4_linesThrough_44 (by decide) (fun hc => ?_) (fun hc => ?_)
      · replace h := h.1 hc
        exact hK_10 _ h
      · replace h := h.2 hc
        refine Ev_iload_n dX4_linesThrough_47 3 rfl ?_
        refine Ev_iconst (v := 1) dX4_linesThrough_48 rfl ⟨by decide, by decide⟩ ?_
        refine Ev_iload dX4_linesThrough_49 4 rfl ?_
        refine Ev_ishl dX4_linesThrough_51 ?_
        refine Ev_ior dX4_linesThrough_52 ?_
        obtain ⟨v3_12, ev3_12⟩ : ∃ z : Int, z = ior v3_1 (ishl 1 v4_2) := ⟨_, rfl⟩
        replace h := h v3_12 ev3_12
        rw [← ev3_12]
        refine Ev_istore_n dX4_linesThrough_53 (by decide) rfl ?_
        refine Ev_sub [1, 2, 3, 0, 4] rfl ?_
        exact hK_10 _ h
theorem k_X9_leastOf {s : Sg} {v0 : Int} {post : Int → Prop} (h : w_X9_leastOf v0 post) : EvM mX9_leastOf 0 [(0, v0)] s (poI 0 s post) := by
  refine EvM_of rfl (by decide +kernel) (Nat.le_of_ble_eq_true rfl) ?_
  unfold w_X9_leastOf at h
  show Ev mX9_leastOf 0 0 [(0, (0, v0))] [] s (poI 0 s post)
  refine Ev_iconst (v := 0) dX9_leastOf_0 rfl ⟨by decide, by decide⟩ ?_
  refine Ev_istore_n dX9_leastOf_1 (by decide) rfl ?_
  refine Ev_sub [1, 0] rfl ?_
  refine li_1 (P := fun (v1_1 : Int) => Ev mX9_leastOf 0 2 [(0, (0, v0)), (1, (0, v1_1))] [] s (poI 0 s post)) ?_ h
  intro again_2 v1_1 hagain_2 h
  refine Ev_iload_n dX9_leastOf_2 1 rfl ?_
  refine Ev_bipush (v := 10) dX9_leastOf_3 (by decide +kernel) ?_
  refine Ev_icmp_ge (tgt := 24) dX9_leastOf_5 (by decide) (fun hc => ?_) (fun hc => ?_)
  · replace h := h.1 hc
    refine Ev_iconst (v := -1) dX9_leastOf_24 rfl ⟨by decide, by decide⟩ ?_
    exact Ev_ret dX9_leastOf_25 trivial (poI_mk h)
  · replace h := h.2 hc
    refine Ev_iload_n dX9_leastOf_8 0 rfl ?_
    refine Ev_iload_n dX9_leastOf_9 1 rfl ?_
    refine Ev_ishr dX9_leastOf_10 ?_
    refine Ev_iconst (v := 1) dX9_leastOf_11 rfl ⟨by decide, by decide⟩ ?_
    refine Ev_iand dX9_leastOf_12 ?_
    refine Ev_if_eq (tgt := 18) dX9_leastOf_13 (by decide) (fun hc => ?_) (fun hc => ?_)
    · replace h := h.1 hc
      obtain ⟨v1_3, ev1_3⟩ : ∃ z : Int, z = w32 (v1_1 + 1) := ⟨_, rfl⟩
      replace h := h v1_3 ev1_3
      refine Ev_iinc (v := v1_3) dX9_leastOf_18 1 rfl ev1_3.symm (by decide) rfl ?_
      refine Ev_goto (tgt := 2) dX9_leastOf_21 (by decide) ?_
      refine Ev_sub [1, 0] rfl ?_
      exact hagain_2 _ h
    · replace h := h.2 hc
      refine Ev_iload_n dX9_leastOf_16 1 rfl ?_
      exact Ev_ret dX9_leastOf_17 trivial (poI_mk h)
theorem k_X4_unite_16 {s : Sg} {v1 v2 : Int} {post : Sg → Prop} (h : w_X4_unite s 16 v1 v2 post) : EvM mX4_unite 1 [(2, 16), (0, v1), (0, v2)] s (poV post) := by
  refine EvM_of rfl (by decide +kernel) (Nat.le_of_ble_eq_true rfl) ?_
  unfold w_X4_unite at h
  show Ev mX4_unite 1 0 [(0, (2, 16)), (1, (0, v1)), (2, (0, v2))] [] s (poV post)
  refine Ev_aload_n dX4_unite_0 0 rfl ?_
  refine Ev_iload_n dX4_unite_1 1 rfl ?_
  refine Ev_invV (d' := 0) [(0, v1)] 16 dX4_unite_2 M_X4_rootOf q_523 (by decide) rfl rfl sh_16 rfl (Nat.le_of_ble_eq_true rfl) (k_X4_rootOf_16 h) ?_
  rintro _ _ ⟨rfl, r_1, rfl, h⟩
  refine Ev_istore_n dX4_unite_5 (by decide) rfl ?_
  refine Ev_aload_n dX4_unite_6 1 rfl ?_
  refine Ev_iload_n dX4_unite_7 3 rfl ?_
  refine Ev_invV (d' := 0) [(0, v2)] 16 dX4_unite_8 M_X4_rootOf q_523 (by decide) rfl rfl sh_16 rfl (Nat.le_of_ble_eq_true rfl) (k_X4_rootOf_16 h) ?_
  rintro _ _ ⟨rfl, r_2, rfl, h⟩
  refine Ev_istore dX4_unite_11 (by decide) rfl ?_
  refine Ev_aload_n dX4_unite_13 2 rfl ?_
  refine Ev_getr 16 (22) dX4_unite_14 f_RX4_28 rfl sh_16 rfl ?_
  refine Ev_iload_n dX4_unite_17 1 rfl ?_
  refine Ev_iload dX4_unite_18 0 rfl ?_
  refine Ev_max dX4_unite_20 ⟨q_527, q_508, q_12, q_509⟩ (by decide) (Nat.le_of_ble_eq_true rfl) ?_
  refine Ev_iload_n dX4_unite_23 1 rfl ?_
  refine Ev_iload dX4_unite_24 0 rfl ?_
  refine Ev_min dX4_unite_26 ⟨q_528, q_505, q_12, q_506⟩ (by decide) (Nat.le_of_ble_eq_true rfl) ?_
  obtain ⟨hb_3, h⟩ := h
  obtain ⟨s_4, es_4⟩ : ∃ z : Sg, z = (up s 22 ((if r_1 < r_2 then r_2 else r_1).toNat) (if r_2 < r_1 then r_2 else r_1)) := ⟨_, rfl⟩
  replace h := h s_4 es_4
  refine Ev_iast (22) dX4_unite_29 rfl sh_22 hb_3 ?_
  rw [← es_4]
  exact Ev_retv dX4_unite_30 rfl (poV_mk h)
theorem k_X4_unite_25 {s : Sg} {v1 v2 : Int} {post : Sg → Prop} (h : w_X4_unite s 25 v1 v2 post) : EvM mX4_unite 1 [(2, 25), (0, v1), (0, v2)] s (poV post) := by
  refine EvM_of rfl (by decide +kernel) (Nat.le_of_ble_eq_true rfl) ?_
  unfold w_X4_unite at h
  show Ev mX4_unite 1 0 [(0, (2, 25)), (1, (0, v1)), (2, (0, v2))] [] s (poV post)
  refine Ev_aload_n dX4_unite_0 0 rfl ?_
  refine Ev_iload_n dX4_unite_1 1 rfl ?_
  refine Ev_invV (d' := 0) [(0, v1)] 25 dX4_unite_2 M_X4_rootOf q_523 (by decide) rfl rfl sh_25 rfl (Nat.le_of_ble_eq_true rfl) (k_X4_rootOf_25 h) ?_
  rintro _ _ ⟨rfl, r_1, rfl, h⟩
  refine Ev_istore_n dX4_unite_5 (by decide) rfl ?_
  refine Ev_aload_n dX4_unite_6 1 rfl ?_
  refine Ev_iload_n dX4_unite_7 3 rfl ?_
  refine Ev_invV (d' := 0) [(0, v2)] 25 dX4_unite_8 M_X4_rootOf q_523 (by decide) rfl rfl sh_25 rfl (Nat.le_of_ble_eq_true rfl) (k_X4_rootOf_25 h) ?_
  rintro _ _ ⟨rfl, r_2, rfl, h⟩
  refine Ev_istore dX4_unite_11 (by decide) rfl ?_
  refine Ev_aload_n dX4_unite_13 2 rfl ?_
  refine Ev_getr 25 (31) dX4_unite_14 f_RX4_28 rfl sh_25 rfl ?_
  refine Ev_iload_n dX4_unite_17 1 rfl ?_
  refine Ev_iload dX4_unite_18 0 rfl ?_
  refine Ev_max dX4_unite_20 ⟨q_527, q_508, q_12, q_509⟩ (by decide) (Nat.le_of_ble_eq_true rfl) ?_
  refine Ev_iload_n dX4_unite_23 1 rfl ?_
  refine Ev_iload dX4_unite_24 0 rfl ?_
  refine Ev_min dX4_unite_26 ⟨q_528, q_505, q_12, q_506⟩ (by decide) (Nat.le_of_ble_eq_true rfl) ?_
  obtain ⟨hb_3, h⟩ := h
  obtain ⟨s_4, es_4⟩ : ∃ z : Sg, z = (up s 31 ((if r_1 < r_2 then r_2 else r_1).toNat) (if r_2 < r_1 then r_2 else r_1)) := ⟨_, rfl⟩
  replace h := h s_4 es_4
  refine Ev_iast (31) dX4_unite_29 rfl sh_31 hb_3 ?_
  rw [← es_4]
  exact Ev_retv dX4_unite_30 rfl (poV_mk h)
theorem k_X4_walkAlong_16 {s : Sg} {v1 : Int} {post : Sg → Prop} (h : w_X4_walkAlong s 16 v1 post) : EvM mX4_walkAlong 2 [(2, 16), (0, v1)] s (poV post) := by
  refine EvM_of rfl (by decide +kernel) (Nat.le_of_ble_eq_true rfl) ?_
  unfold w_X4_walkAlong at h
  show Ev mX4_walkAlong 2 0 [(0, (2, 16)), (1, (0, v1))] [] s (poV post)
  refine Ev_iconst (v := -1) dX4_walkAlong_0 rfl ⟨by decide, by decide⟩ ?_
  refine Ev_istore_n dX4_walkAlong_1 (by decide) rfl ?_
  refine Ev_iconst (v := 0) dX4_walkAlong_2 rfl ⟨by decide, by decide⟩ ?_
  refine Ev_istore_n dX4_walkAlong_3 (by decide) rfl ?_
  refine Ev_sub [2, 3, 1, 0] rfl ?_
  refine li_2s (P := fun (v2_1 v3_2 : Int) (s_3 : Sg) => Ev mX4_walkAlong 2 4 [(0, (2, 16)), (1, (0, v1)), (2, (0, v2_1)), (3, (0, v3_2))] [] s_3 (poV post)) ?_ h
  intro again_4 v2_1 v3_2 s_3 hagain_4 h
  refine Ev_iload_n dX4_walkAlong_4 3 rfl ?_
  refine Ev_aload_n dX4_walkAlong_5 0 rfl ?_
  refine Ev_geti 16 dX4_walkAlong_6 f_RX4_41 rfl sh_16 ?_
  refine Ev_icmp_ge (tgt := 77) dX4_walkAlong_9 (by decide) (fun hc => ?_) (fun hc => ?_)
  · replace h := h.1 hc
    exact Ev_retv dX4_walkAlong_77 rfl (poV_mk h)
  · replace h := h.2 hc
    refine Ev_aload_n dX4_walkAlong_12 0 rfl ?_
    refine Ev_getr 16 (21) dX4_walkAlong_13 f_RX4_24 rfl sh_16 rfl ?_
    refine Ev_iload_n dX4_walkAlong_16 3 rfl ?_
    obtain ⟨hb_5, h⟩ := h
    refine Ev_iald (21) dX4_walkAlong_17 rfl sh_21 hb_5 ?_
    refine Ev_iload_n dX4_walkAlong_18 1 rfl ?_
    refine Ev_ishr dX4_walkAlong_19 ?_
    refine Ev_iconst (v := 1) dX4_walkAlong_20 rfl ⟨by decide, by decide⟩ ?_
    refine Ev_iand dX4_walkAlong_21 ?_
    refine jc_1s (P := fun (v2_6 : Int) (s_7 : Sg) => Ev mX4_walkAlong 2 71 [(0, (2, 16)), (1, (0, v1)), (2, (0, v2_6)), (3, (0, v3_2))] [] s_7 (poV post)) h ?_ ?_
    · intro v2_6 s_7 h
      obtain ⟨v3_9, ev3_9⟩ : ∃ z : Int, z = w32 (v3_2 + 1) := ⟨_, rfl⟩
      replace h := h v3_9 ev3_9
      refine Ev_iinc (v := v3_9) dX4_walkAlong_71 3 rfl ev3_9.symm (by decide) rfl ?_
      refine Ev_goto (tgt := 4) dX4_walkAlong_74 (by decide) ?_
      refine Ev_sub [1, 2, 3, 0] rfl ?_
      exact hagain_4 _ _ _ h
    · intro K_8 hK_8 h
      refine Ev_if_ne (tgt := 28) dX4_walkAlong_22 (by decide) (fun hc => ?_) (fun hc => ?_)
      · replace h := h.1 hc
        refine Ev_iload_n dX4_walkAlong_28 2 rfl ?_
        refine Ev_iconst (v := -1) dX4_walkAlong_29 rfl ⟨by decide, by decide⟩ ?_
        refine jc_0s (P := fun (s_10 : Sg) => Ev mX4_walkAlong 2 69 [(0, (2, 16)), (1, (0, v1)), (3, (0, v3_2))] [] s_10 (poV post)) h ?_ ?_
        · intro s_10 h
          refine Ev_iload_n dX4_walkAlong_69 2 rfl ?_
          refine Ev_istore_n dX4_walkAlong_70 (by decide) rfl ?_
          refine Ev_sub [1, 2, 0, 3] rfl ?_
          exact hK_8 _ _ h
        · intro K_11 hK_11 h
          refine Ev_icmp_eq (tgt := 69) dX4_walkAlong_30 (by decide) (fun hc => ?_) (fun hc => ?_)
          · replace h := h.1 hc
            refine Ev_sub [0, 1, 3] rfl ?_
            exact hK_11 _ h
          · replace h := h.2 hc
            refine Ev_aload_n dX4_walkAlong_33 0 rfl ?_
            refine Ev_getr 16 (21) dX4_walkAlong_34 f_RX4_24 rfl sh_16 rfl ?_
            refine Ev_iload_n dX4_walkAlong_37 2 rfl ?_
            obtain ⟨hb_12, h⟩ := h
            refine Ev_iald (21) dX4_walkAlong_38 rfl sh_21 hb_12 ?_
            refine Ev_aload_n dX4_walkAlong_39 0 rfl ?_
            refine Ev_getr 16 (21) dX4_walkAlong_40 f_RX4_24 rfl sh_16 rfl ?_
            refine Ev_iload_n dX4_walkAlong_43 3 rfl ?_
            obtain ⟨hb_13, h⟩ := h
            refine Ev_iald (21) dX4_walkAlong_44 rfl sh_21 hb_13 ?_
            refine Ev_iand dX4_walkAlong_45 ?_
            refine Ev_invS (d' := 0) [(0, iand (s_3 21 v2_1.toNat) (s_3 21 v3_2.toNat))] dX4_walkAlong_46 M_X9_leastOf (Or.inr ⟨_, q_516⟩) (by decide) rfl (Nat.le_of_ble_eq_true rfl) (k_X9_leastOf h) ?_
            rintro _ _ ⟨rfl, r_14, rfl, h⟩
            refine Ev_iload_n dX4_walkAlong_49 1 rfl ?_
            refine jc_0s (P := fun (s_15 : Sg) => Ev mX4_walkAlong 2 63 [(0, (2, 16)), (1, (0, v1)), (2, (0, v2_1)), (3, (0, v3_2))] [] s_15 (poV post)) h ?_ ?_
            · intro s_15 h
              refine Ev_aload_n dX4_walkAlong_63 0 rfl ?_
              refine Ev_iload_n dX4_walkAlong_64 2 rfl ?_
              refine Ev_iload_n dX4_walkAlong_65 3 rfl ?_
              refine Ev_invV (d' := 1) [(0, v2_1), (0, v3_2)] 16 dX4_walkAlong_66 M_X4_unite q_519 (by decide) rfl rfl sh_16 rfl (Nat.le_of_ble_eq_true rfl) (k_X4_unite_16 h) ?_
              rintro _ s_17 ⟨rfl, h⟩
              refine Ev_sub [0, 1, 3] rfl ?_
              exact hK_11 _ h
            · intro K_16 hK_16 h
              refine Ev_icmp_ne (tgt := 63) dX4_walkAlong_50 (by decide) (fun hc => ?_) (fun hc => ?_)
              · replace h := h.1 hc
                exact hK_16 _ h
              · replace h := h.2 hc
                refine Ev_aload_n dX4_walkAlong_53 0 rfl ?_
                refine Ev_dup dX4_walkAlong_54 (show ¬ (2 : Nat) = 1 by decide) ?_
                refine Ev_geti 16 dX4_walkAlong_55 f_RX4_72 rfl sh_16 ?_
                refine Ev_iconst (v := 1) dX4_walkAlong_58 rfl ⟨by decide, by decide⟩ ?_
                refine Ev_iadd dX4_walkAlong_59 ?_
                obtain ⟨s_18, es_18⟩ : ∃ z : Sg, z = (up s_3 16 1 (w32 ((s_3 16 1) + 1))) := ⟨_, rfl⟩
                replace h := h s_18 es_18
                refine Ev_puti 16 dX4_walkAlong_60 fp_RX4_72 rfl sh_16 ?_
                rw [← es_18]
                exact hK_16 _ h
      · replace h := h.2 hc
        refine Ev_goto (tgt := 71) dX4_walkAlong_25 (by decide) ?_
        exact hK_8 _ _ h
theorem k_X4_walkAlong_25 {s : Sg} {v1 : Int} {post : Sg → Prop} (h : w_X4_walkAlong s 25 v1 post) : EvM mX4_walkAlong 2 [(2, 25), (0, v1)] s (poV post) := by
  refine EvM_of rfl (by decide +kernel) (Nat.le_of_ble_eq_true rfl) ?_
  unfold w_X4_walkAlong at h
  show Ev mX4_walkAlong 2 0 [(0, (2, 25)), (1, (0, v1))] [] s (poV post)
  refine Ev_iconst (v := -1) dX4_walkAlong_0 rfl ⟨by decide, by decide⟩ ?_
  refine Ev_istore_n dX4_walkAlong_1 (by decide) rfl ?_
  refine Ev_iconst (v := 0) dX4_walkAlong_2 rfl ⟨by decide, by decide⟩ ?_
  refine Ev_istore_n dX4_walkAlong_3 (by decide) rfl ?_
  refine Ev_sub [2, 3, 1, 0] rfl ?_
  refine li_2s (P := fun (v2_1 v3_2 : Int) (s_3 : Sg) => Ev mX4_walkAlong 2 4 [(0, (2, 25)), (1, (0, v1)), (2, (0, v2_1)), (3, (0, v3_2))] [] s_3 (poV post)) ?_ h
  intro again_4 v2_1 v3_2 s_3 hagain_4 h
  refine Ev_iload_n dX4_walkAlong_4 3 rfl ?_
  refine Ev_aload_n dX4_walkAlong_5 0 rfl ?_
  refine Ev_geti 25 dX4_walkAlong_6 f_RX4_41 rfl sh_25 ?_
  refine Ev_icmp_ge (tgt := 77) dX4_walkAlong_9 (by decide) (fun hc => ?_) (fun hc => ?_)
  · replace h := h.1 hc
    exact Ev_retv dX4_walkAlong_77 rfl (poV_mk h)
  · replace h := h.2 hc
    refine Ev_aload_n dX4_walkAlong_12 0 rfl ?_
    refine Ev_getr 25 (30) dX4_walkAlong_13 f_RX4_24 rfl sh_25 rfl ?_
    refine Ev_iload_n dX4_walkAlong_16 3 rfl ?_
    obtain ⟨hb_5, h⟩ := h
    refine Ev_iald (30) dX4_walkAlong_17 rfl sh_30 hb_5 ?_
    refine Ev_iload_n dX4_walkAlong_18 1 rfl ?_
    refine Ev_ishr dX4_walkAlong_19 ?_
    refine Ev_iconst (v := 1) dX4_walkAlong_20 rfl ⟨by decide, by decide⟩ ?_
    refine Ev_iand dX4_walkAlong_21 ?_
    refine jc_1s (P := fun (v2_6 : Int) (s_7 : Sg) => Ev mX4_walkAlong 2 71 [(0, (2, 25)), (1, (0, v1)), (2, (0, v2_6)), (3, (0, v3_2))] [] s_7 (poV post)) h ?_ ?_
    · intro v2_6 s_7 h
      obtain ⟨v3_9, ev3_9⟩ : ∃ z : Int, z = w32 (v3_2 + 1) := ⟨_, rfl⟩
      replace h := h v3_9 ev3_9
      refine Ev_iinc (v := v3_9) dX4_walkAlong_71 3 rfl ev3_9.symm (by decide) rfl ?_
      refine Ev_goto (tgt := 4) dX4_walkAlong_74 (by decide) ?_
      refine Ev_sub [1, 2, 3, 0] rfl ?_
      exact hagain_4 _ _ _ h
    · intro K_8 hK_8 h
      refine Ev_if_ne (tgt := 28) dX4_walkAlong_22 (by decide) (fun hc => ?_) (fun hc => ?_)
      · replace h := h.1 hc
        refine Ev_iload_n dX4_walkAlong_28 2 rfl ?_
        refine Ev_iconst (v := -1) dX4_walkAlong_29 rfl ⟨by decide, by decide⟩ ?_
        refine jc_0s (P := fun (s_10 : Sg) => Ev mX4_walkAlong 2 69 [(0, (2, 25)), (1, (0, v1)), (3, (0, v3_2))] [] s_10 (poV post)) h ?_ ?_
        · intro s_10 h
          refine Ev_iload_n dX4_walkAlong_69 2 rfl ?_
          refine Ev_istore_n dX4_walkAlong_70 (by decide) rfl ?_
          refine Ev_sub [1, 2, 0, 3] rfl ?_
          exact hK_8 _ _ h
        · intro K_11 hK_11 h
          refine Ev_icmp_eq (tgt := 69) dX4_walkAlong_30 (by decide) (fun hc => ?_) (fun hc => ?_)
          · replace h := h.1 hc
            refine Ev_sub [0, 1, 3] rfl ?_
            exact hK_11 _ h
          · replace h := h.2 hc
            refine Ev_aload_n dX4_walkAlong_33 0 rfl ?_
            refine Ev_getr 25 (30) dX4_walkAlong_34 f_RX4_24 rfl sh_25 rfl ?_
            refine Ev_iload_n dX4_walkAlong_37 2 rfl ?_
            obtain ⟨hb_12, h⟩ := h
            refine Ev_iald (30) dX4_walkAlong_38 rfl sh_30 hb_12 ?_
            refine Ev_aload_n dX4_walkAlong_39 0 rfl ?_
            refine Ev_getr 25 (30) dX4_walkAlong_40 f_RX4_24 rfl sh_25 rfl ?_
            refine Ev_iload_n dX4_walkAlong_43 3 rfl ?_
            obtain ⟨hb_13, h⟩ := h
            refine Ev_iald (30) dX4_walkAlong_44 rfl sh_30 hb_13 ?_
            refine Ev_iand dX4_walkAlong_45 ?_
            refine Ev_invS (d' := 0) [(0, iand (s_3 30 v2_1.toNat) (s_3 30 v3_2.toNat))] dX4_walkAlong_46 M_X9_leastOf (Or.inr ⟨_, q_516⟩) (by decide) rfl (Nat.le_of_ble_eq_true rfl) (k_X9_leastOf h) ?_
            rintro _ _ ⟨rfl, r_14, rfl, h⟩
            refine Ev_iload_n dX4_walkAlong_49 1 rfl ?_
            refine jc_0s (P := fun (s_15 : Sg) => Ev mX4_walkAlong 2 63 [(0, (2, 25)), (1, (0, v1)), (2, (0, v2_1)), (3, (0, v3_2))] [] s_15 (poV post)) h ?_ ?_
            · intro s_15 h
              refine Ev_aload_n dX4_walkAlong_63 0 rfl ?_
              refine Ev_iload_n dX4_walkAlong_64 2 rfl ?_
              refine Ev_iload_n dX4_walkAlong_65 3 rfl ?_
              refine Ev_invV (d' := 1) [(0, v2_1), (0, v3_2)] 25 dX4_walkAlong_66 M_X4_unite q_519 (by decide) rfl rfl sh_25 rfl (Nat.le_of_ble_eq_true rfl) (k_X4_unite_25 h) ?_
              rintro _ s_17 ⟨rfl, h⟩
              refine Ev_sub [0, 1, 3] rfl ?_
              exact hK_11 _ h
            · intro K_16 hK_16 h
              refine Ev_icmp_ne (tgt := 63) dX4_walkAlong_50 (by decide) (fun hc => ?_) (fun hc => ?_)
              · replace h := h.1 hc
                exact hK_16 _ h
              · replace h := h.2 hc
                refine Ev_aload_n dX4_walkAlong_53 0 rfl ?_
                refine Ev_dup dX4_walkAlong_54 (show ¬ (2 : Nat) = 1 by decide) ?_
                refine Ev_geti 25 dX4_walkAlong_55 f_RX4_72 rfl sh_25 ?_
                refine Ev_iconst (v := 1) dX4_walkAlong_58 rfl ⟨by decide, by decide⟩ ?_
                refine Ev_iadd dX4_walkAlong_59 ?_
                obtain ⟨s_18, es_18⟩ : ∃ z : Sg, z = (up s_3 25 1 (w32 ((s_3 25 1) + 1))) := ⟨_, rfl⟩
                replace h := h s_18 es_18
                refine Ev_puti 25 dX4_walkAlong_60 fp_RX4_72 rfl sh_25 ?_
                rw [← es_18]
                exact hK_16 _ h
      · replace h := h.2 hc
        refine Ev_goto (tgt := 71) dX4_walkAlong_25 (by decide) ?_
        exact hK_8 _ _ h
theorem k_X4_find_16_1 {s : Sg} {post : Sg → Prop} (h : w_X4_find s 16 1 post) : EvM mX4_find 4 [(2, 16), (2, 1)] s (poV post) := by
  refine EvM_of rfl (by decide +kernel) (Nat.le_of_ble_eq_true rfl) ?_
  unfold w_X4_find at h
  show Ev mX4_find 4 0 [(0, (2, 16)), (1, (2, 1))] [] s (poV post)
  refine Ev_aload_n dX4_find_0 0 rfl ?_
  refine Ev_iconst (v := 0) dX4_find_1 rfl ⟨by decide, by decide⟩ ?_
  obtain ⟨s_1, es_1⟩ : ∃ z : Sg, z = (up s 16 0 0) := ⟨_, rfl⟩
  replace h := h s_1 es_1
  refine Ev_puti 16 dX4_find_2 fp_RX4_41 rfl sh_16 ?_
  rw [← es_1]
  refine Ev_iconst (v := 0) dX4_find_5 rfl ⟨by decide, by decide⟩ ?_
  refine Ev_istore_n dX4_find_6 (by decide) rfl ?_
  refine Ev_sub [1, 2, 0] rfl ?_
  refine li_1s (P := fun (v2_2 : Int) (s_3 : Sg) => Ev mX4_find 4 7 [(0, (2, 16)), (1, (2, 1)), (2, (0, v2_2))] [] s_3 (poV post)) ?_ h
  intro again_4 v2_2 s_3 hagain_4 h
  refine Ev_iload_n dX4_find_7 2 rfl ?_
  refine Ev_aload_n dX4_find_8 1 rfl ?_
  refine Ev_geti 1 dX4_find_9 f_RX4_45 rfl sh_1 ?_
  refine Ev_icmp_ge (tgt := 61) dX4_find_12 (by decide) (fun hc => ?_) (fun hc => ?_)
  · replace h := h.1 hc
    refine Ev_aload_n dX4_find_61 0 rfl ?_
    refine Ev_aload_n dX4_find_62 1 rfl ?_
    refine Ev_invV (d' := 3) [(2, 1)] 16 dX4_find_63 M_X4_addMeetings q_462 (by decide) rfl rfl sh_16 rfl (Nat.le_of_ble_eq_true rfl) (k_X4_addMeetings_16_1 h) ?_
    rintro _ s_5 ⟨rfl, h⟩
    refine Ev_iconst (v := 0) dX4_find_66 rfl ⟨by decide, by decide⟩ ?_
    refine Ev_istore_n dX4_find_67 (by decide) rfl ?_
    refine Ev_sub [1, 2, 0] rfl ?_
    refine li_1s (P := fun (v2_6 : Int) (s_7 : Sg) => Ev mX4_find 4 68 [(0, (2, 16)), (1, (2, 1)), (2, (0, v2_6))] [] s_7 (poV post)) ?_ h
    intro again_8 v2_6 s_7 hagain_8 h
    refine Ev_iload_n dX4_find_68 2 rfl ?_
    refine Ev_aload_n dX4_find_69 0 rfl ?_
    refine Ev_geti 16 dX4_find_70 f_RX4_41 rfl sh_16 ?_
    refine Ev_icmp_ge (tgt := 101) dX4_find_73 (by decide) (fun hc => ?_) (fun hc => ?_)
    · replace h := h.1 hc
      refine Ev_aload_n dX4_find_101 0 rfl ?_
      refine Ev_iconst (v := 0) dX4_find_102 rfl ⟨by decide, by decide⟩ ?_
      obtain ⟨s_9, es_9⟩ : ∃ z : Sg, z = (up s_7 16 1 0) := ⟨_, rfl⟩
      replace h := h s_9 es_9
      refine Ev_puti 16 dX4_find_103 fp_RX4_72 rfl sh_16 ?_
      rw [← es_9]
      refine Ev_iconst (v := 0) dX4_find_106 rfl ⟨by decide, by decide⟩ ?_
      refine Ev_istore_n dX4_find_107 (by decide) rfl ?_
      refine Ev_sub [1, 2, 0] rfl ?_
      refine li_1s (P := fun (v2_10 : Int) (s_11 : Sg) => Ev mX4_find 4 108 [(0, (2, 16)), (1, (2, 1)), (2, (0, v2_10))] [] s_11 (poV post)) ?_ h
      intro again_12 v2_10 s_11 hagain_12 h
      refine Ev_iload_n dX4_find_108 2 rfl ?_
      refine Ev_aload_n dX4_find_109 1 rfl ?_
      refine Ev_geti 1 dX4_find_110 f_RX4_45 rfl sh_1 ?_
      refine Ev_icmp_ge (tgt := 127) dX4_find_113 (by decide) (fun hc => ?_) (fun hc => ?_)
      · replace h := h.1 hc
        refine Ev_aload_n dX4_find_127 0 rfl ?_
        refine Ev_invV (d' := 1) [] 16 dX4_find_128 M_X4_countParts q_529 (by decide) rfl rfl sh_16 rfl (Nat.le_of_ble_eq_true rfl) (k_X4_countParts_16 h) ?_
        rintro _ s_13 ⟨rfl, h⟩
        exact Ev_retv dX4_find_131 rfl (poV_mk h)
      · replace h := h.2 hc
        refine Ev_aload_n dX4_find_116 0 rfl ?_
        refine Ev_iload_n dX4_find_117 2 rfl ?_
        refine Ev_invV (d' := 2) [(0, v2_10)] 16 dX4_find_118 M_X4_walkAlong q_512 (by decide) rfl rfl sh_16 rfl (Nat.le_of_ble_eq_true rfl) (k_X4_walkAlong_16 h) ?_
        rintro _ s_14 ⟨rfl, h⟩
        obtain ⟨v2_15, ev2_15⟩ : ∃ z : Int, z = w32 (v2_10 + 1) := ⟨_, rfl⟩
        replace h := h v2_15 ev2_15
        refine Ev_iinc (v := v2_15) dX4_find_121 2 rfl ev2_15.symm (by decide) rfl ?_
        refine Ev_goto (tgt := 108) dX4_find_124 (by decide) ?_
        refine Ev_sub [1, 2, 0] rfl ?_
        exact hagain_12 _ _ h
    · replace h := h.2 hc
      refine Ev_aload_n dX4_find_76 0 rfl ?_
      refine Ev_getr 16 (21) dX4_find_77 f_RX4_24 rfl sh_16 rfl ?_
      refine Ev_iload_n dX4_find_80 2 rfl ?_
      refine Ev_aload_n dX4_find_81 0 rfl ?_
      refine Ev_aload_n dX4_find_82 1 rfl ?_
      refine Ev_iload_n dX4_find_83 2 rfl ?_
      refine Ev_invV (d' := 2) [(2, 1), (0, v2_6)] 16 dX4_find_84 M_X4_linesThrough q_492 (by decide) rfl rfl sh_16 rfl (Nat.le_of_ble_eq_true rfl) (k_X4_linesThrough_16_1 h) ?_
      rintro _ _ ⟨rfl, r_16, rfl, h⟩
      obtain ⟨hb_17, h⟩ := h
      obtain ⟨s_18, es_18⟩ : ∃ z : Sg, z = (up s_7 21 (v2_6.toNat) r_16) := ⟨_, rfl⟩
      replace h := h s_18 es_18
      refine Ev_iast (21) dX4_find_87 rfl sh_21 hb_17 ?_
      rw [← es_18]
      refine Ev_aload_n dX4_find_88 0 rfl ?_
      refine Ev_getr 16 (22) dX4_find_89 f_RX4_28 rfl sh_16 rfl ?_
      refine Ev_iload_n dX4_find_92 2 rfl ?_
      refine Ev_iload_n dX4_find_93 2 rfl ?_
      obtain ⟨hb_19, h⟩ := h
      obtain ⟨s_20, es_20⟩ : ∃ z : Sg, z = (up s_18 22 (v2_6.toNat) v2_6) := ⟨_, rfl⟩
      replace h := h s_20 es_20
      refine Ev_iast (22) dX4_find_94 rfl sh_22 hb_19 ?_
      rw [← es_20]
      obtain ⟨v2_21, ev2_21⟩ : ∃ z : Int, z = w32 (v2_6 + 1) := ⟨_, rfl⟩
      replace h := h v2_21 ev2_21
      refine Ev_iinc (v := v2_21) dX4_find_95 2 rfl ev2_21.symm (by decide) rfl ?_
      refine Ev_goto (tgt := 68) dX4_find_98 (by decide) ?_
      refine Ev_sub [1, 2, 0] rfl ?_
      exact hagain_8 _ _ h
  · replace h := h.2 hc
    refine Ev_aload_n dX4_find_15 0 rfl ?_
    refine Ev_aload_n dX4_find_16 1 rfl ?_
    refine Ev_getr 1 (2) dX4_find_17 f_RX4_48 rfl sh_1 rfl ?_
    refine Ev_iload_n dX4_find_20 2 rfl ?_
    obtain ⟨hb_22, h⟩ := h
    refine Ev_iald (2) dX4_find_21 rfl sh_2 hb_22 ?_
    refine Ev_i2l dX4_find_22 ?_
    refine Ev_lconst (v := 1) dX4_find_23 (by decide +kernel) ?_
    refine Ev_aload_n dX4_find_24 1 rfl ?_
    refine Ev_getr 1 (3) dX4_find_25 f_RX4_51 rfl sh_1 rfl ?_
    refine Ev_iload_n dX4_find_28 2 rfl ?_
    obtain ⟨hb_23, h⟩ := h
    refine Ev_iald (3) dX4_find_29 rfl sh_3 hb_23 ?_
    refine Ev_i2l dX4_find_30 ?_
    refine Ev_lconst (v := 1) dX4_find_31 (by decide +kernel) ?_
    refine Ev_invV (d' := 2) [(1, s_3 2 v2_2.toNat), (1, 1), (1, s_3 3 v2_2.toNat), (1, 1)] 16 dX4_find_32 M_X4_add q_451 (by decide) rfl rfl sh_16 rfl (Nat.le_of_ble_eq_true rfl) (k_X4_add_16 h) ?_
    rintro _ s_24 ⟨rfl, h⟩
    refine Ev_aload_n dX4_find_35 0 rfl ?_
    refine Ev_aload_n dX4_find_36 1 rfl ?_
    refine Ev_getr 1 (4) dX4_find_37 f_RX4_58 rfl sh_1 rfl ?_
    refine Ev_iload_n dX4_find_40 2 rfl ?_
    obtain ⟨hb_25, h⟩ := h
    refine Ev_iald (4) dX4_find_41 rfl sh_4 hb_25 ?_
    refine Ev_i2l dX4_find_42 ?_
    refine Ev_lconst (v := 1) dX4_find_43 (by decide +kernel) ?_
    refine Ev_aload_n dX4_find_44 1 rfl ?_
    refine Ev_getr 1 (5) dX4_find_45 f_RX4_61 rfl sh_1 rfl ?_
    refine Ev_iload_n dX4_find_48 2 rfl ?_
    obtain ⟨hb_26, h⟩ := h
    refine Ev_iald (5) dX4_find_49 rfl sh_5 hb_26 ?_
    refine Ev_i2l dX4_find_50 ?_
    refine Ev_lconst (v := 1) dX4_find_51 (by decide +kernel) ?_
    refine Ev_invV (d' := 2) [(1, s_24 4 v2_2.toNat), (1, 1), (1, s_24 5 v2_2.toNat), (1, 1)] 16 dX4_find_52 M_X4_add q_451 (by decide) rfl rfl sh_16 rfl (Nat.le_of_ble_eq_true rfl) (k_X4_add_16 h) ?_
    rintro _ s_27 ⟨rfl, h⟩
    obtain ⟨v2_28, ev2_28⟩ : ∃ z : Int, z = w32 (v2_2 + 1) := ⟨_, rfl⟩
    replace h := h v2_28 ev2_28
    refine Ev_iinc (v := v2_28) dX4_find_55 2 rfl ev2_28.symm (by decide) rfl ?_
    refine Ev_goto (tgt := 7) dX4_find_58 (by decide) ?_
    refine Ev_sub [1, 2, 0] rfl ?_
    exact hagain_4 _ _ h
theorem k_X4_find_25_11 {s : Sg} {post : Sg → Prop} (h : w_X4_find s 25 11 post) : EvM mX4_find 4 [(2, 25), (2, 11)] s (poV post) := by
  refine EvM_of rfl (by decide +kernel) (Nat.le_of_ble_eq_true rfl) ?_
  unfold w_X4_find at h
  show Ev mX4_find 4 0 [(0, (2, 25)), (1, (2, 11))] [] s (poV post)
  refine Ev_aload_n dX4_find_0 0 rfl ?_
  refine Ev_iconst (v := 0) dX4_find_1 rfl ⟨by decide, by decide⟩ ?_
  obtain ⟨s_1, es_1⟩ : ∃ z : Sg, z = (up s 25 0 0) := ⟨_, rfl⟩
  replace h := h s_1 es_1
  refine Ev_puti 25 dX4_find_2 fp_RX4_41 rfl sh_25 ?_
  rw [← es_1]
  refine Ev_iconst (v := 0) dX4_find_5 rfl ⟨by decide, by decide⟩ ?_
  refine Ev_istore_n dX4_find_6 (by decide) rfl ?_
  refine Ev_sub [1, 2, 0] rfl ?_
  refine li_1s (P := fun (v2_2 : Int) (s_3 : Sg) => Ev mX4_find 4 7 [(0, (2, 25)), (1, (2, 11)), (2, (0, v2_2))] [] s_3 (poV post)) ?_ h
  intro again_4 v2_2 s_3 hagain_4 h
  refine Ev_iload_n dX4_find_7 2 rfl ?_
  refine Ev_aload_n dX4_find_8 1 rfl ?_
  refine Ev_geti 11 dX4_find_9 f_RX4_45 rfl sh_11 ?_
  refine Ev_icmp_ge (tgt := 61) dX4_find_12 (by decide) (fun hc => ?_) (fun hc => ?_)
  · replace h := h.1 hc
    refine Ev_aload_n dX4_find_61 0 rfl ?_
    refine Ev_aload_n dX4_find_62 1 rfl ?_
    refine Ev_invV (d' := 3) [(2, 11)] 25 dX4_find_63 M_X4_addMeetings q_462 (by decide) rfl rfl sh_25 rfl (Nat.le_of_ble_eq_true rfl) (k_X4_addMeetings_25_11 h) ?_
    rintro _ s_5 ⟨rfl, h⟩
    refine Ev_iconst (v := 0) dX4_find_66 rfl ⟨by decide, by decide⟩ ?_
    refine Ev_istore_n dX4_find_67 (by decide) rfl ?_
    refine Ev_sub [1, 2, 0] rfl ?_
    refine li_1s (P := fun (v2_6 : Int) (s_7 : Sg) => Ev mX4_find 4 68 [(0, (2, 25)), (1, (2, 11)), (2, (0, v2_6))] [] s_7 (poV post)) ?_ h
    intro again_8 v2_6 s_7 hagain_8 h
    refine Ev_iload_n dX4_find_68 2 rfl ?_
    refine Ev_aload_n dX4_find_69 0 rfl ?_
    refine Ev_geti 25 dX4_find_70 f_RX4_41 rfl sh_25 ?_
    refine Ev_icmp_ge (tgt := 101) dX4_find_73 (by decide) (fun hc => ?_) (fun hc => ?_)
    · replace h := h.1 hc
      refine Ev_aload_n dX4_find_101 0 rfl ?_
      refine Ev_iconst (v := 0) dX4_find_102 rfl ⟨by decide, by decide⟩ ?_
      obtain ⟨s_9, es_9⟩ : ∃ z : Sg, z = (up s_7 25 1 0) := ⟨_, rfl⟩
      replace h := h s_9 es_9
      refine Ev_puti 25 dX4_find_103 fp_RX4_72 rfl sh_25 ?_
      rw [← es_9]
      refine Ev_iconst (v := 0) dX4_find_106 rfl ⟨by decide, by decide⟩ ?_
      refine Ev_istore_n dX4_find_107 (by decide) rfl ?_
      refine Ev_sub [1, 2, 0] rfl ?_
      refine li_1s (P := fun (v2_10 : Int) (s_11 : Sg) => Ev mX4_find 4 108 [(0, (2, 25)), (1, (2, 11)), (2, (0, v2_10))] [] s_11 (poV post)) ?_ h
      intro again_12 v2_10 s_11 hagain_12 h
      refine Ev_iload_n dX4_find_108 2 rfl ?_
      refine Ev_aload_n dX4_find_109 1 rfl ?_
      refine Ev_geti 11 dX4_find_110 f_RX4_45 rfl sh_11 ?_
      refine Ev_icmp_ge (tgt := 127) dX4_find_113 (by decide) (fun hc => ?_) (fun hc => ?_)
      · replace h := h.1 hc
        refine Ev_aload_n dX4_find_127 0 rfl ?_
        refine Ev_invV (d' := 1) [] 25 dX4_find_128 M_X4_countParts q_529 (by decide) rfl rfl sh_25 rfl (Nat.le_of_ble_eq_true rfl) (k_X4_countParts_25 h) ?_
        rintro _ s_13 ⟨rfl, h⟩
        exact Ev_retv dX4_find_131 rfl (poV_mk h)
      · replace h := h.2 hc
        refine Ev_aload_n dX4_find_116 0 rfl ?_
        refine Ev_iload_n dX4_find_117 2 rfl ?_
        refine Ev_invV (d' := 2) [(0, v2_10)] 25 dX4_find_118 M_X4_walkAlong q_512 (by decide) rfl rfl sh_25 rfl (Nat.le_of_ble_eq_true rfl) (k_X4_walkAlong_25 h) ?_
        rintro _ s_14 ⟨rfl, h⟩
        obtain ⟨v2_15, ev2_15⟩ : ∃ z : Int, z = w32 (v2_10 + 1) := ⟨_, rfl⟩
        replace h := h v2_15 ev2_15
        refine Ev_iinc (v := v2_15) dX4_find_121 2 rfl ev2_15.symm (by decide) rfl ?_
        refine Ev_goto (tgt := 108) dX4_find_124 (by decide) ?_
        refine Ev_sub [1, 2, 0] rfl ?_
        exact hagain_12 _ _ h
    · replace h := h.2 hc
      refine Ev_aload_n dX4_find_76 0 rfl ?_
      refine Ev_getr 25 (30) dX4_find_77 f_RX4_24 rfl sh_25 rfl ?_
      refine Ev_iload_n dX4_find_80 2 rfl ?_
      refine Ev_aload_n dX4_find_81 0 rfl ?_
      refine Ev_aload_n dX4_find_82 1 rfl ?_
      refine Ev_iload_n dX4_find_83 2 rfl ?_
      refine Ev_invV (d' := 2) [(2, 11), (0, v2_6)] 25 dX4_find_84 M_X4_linesThrough q_492 (by decide) rfl rfl sh_25 rfl (Nat.le_of_ble_eq_true rfl) (k_X4_linesThrough_25_11 h) ?_
      rintro _ _ ⟨rfl, r_16, rfl, h⟩
      obtain ⟨hb_17, h⟩ := h
      obtain ⟨s_18, es_18⟩ : ∃ z : Sg, z = (up s_7 30 (v2_6.toNat) r_16) := ⟨_, rfl⟩
      replace h := h s_18 es_18
      refine Ev_iast (30) dX4_find_87 rfl sh_30 hb_17 ?_
      rw [← es_18]
      refine Ev_aload_n dX4_find_88 0 rfl ?_
      refine Ev_getr 25 (31) dX4_find_89 f_RX4_28 rfl sh_25 rfl ?_
      refine Ev_iload_n dX4_find_92 2 rfl ?_
      refine Ev_iload_n dX4_find_93 2 rfl ?_
      obtain ⟨hb_19, h⟩ := h
      obtain ⟨s_20, es_20⟩ : ∃ z : Sg, z = (up s_18 31 (v2_6.toNat) v2_6) := ⟨_, rfl⟩
      replace h := h s_20 es_20
      refine Ev_iast (31) dX4_find_94 rfl sh_31 hb_19 ?_
      rw [← es_20]
      obtain ⟨v2_21, ev2_21⟩ : ∃ z : Int, z = w32 (v2_6 + 1) := ⟨_, rfl⟩
      replace h := h v2_21 ev2_21
      refine Ev_iinc (v := v2_21) dX4_find_95 2 rfl ev2_21.symm (by decide) rfl ?_
      refine Ev_goto (tgt := 68) dX4_find_98 (by decide) ?_
      refine Ev_sub [1, 2, 0] rfl ?_
      exact hagain_8 _ _ h
  · replace h := h.2 hc
    refine Ev_aload_n dX4_find_15 0 rfl ?_
    refine Ev_aload_n dX4_find_16 1 rfl ?_
    refine Ev_getr 11 (12) dX4_find_17 f_RX4_48 rfl sh_11 rfl ?_
    refine Ev_iload_n dX4_find_20 2 rfl ?_
    obtain ⟨hb_22, h⟩ := h
    refine Ev_iald (12) dX4_find_21 rfl sh_12 hb_22 ?_
    refine Ev_i2l dX4_find_22 ?_
    refine Ev_lconst (v := 1) dX4_find_23 (by decide +kernel) ?_
    refine Ev_aload_n dX4_find_24 1 rfl ?_
    refine Ev_getr 11 (13) dX4_find_25 f_RX4_51 rfl sh_11 rfl ?_
    refine Ev_iload_n dX4_find_28 2 rfl ?_
    obtain ⟨hb_23, h⟩ := h
    refine Ev_iald (13) dX4_find_29 rfl sh_13 hb_23 ?_
    refine Ev_i2l dX4_find_30 ?_
    refine Ev_lconst (v := 1) dX4_find_31 (by decide +kernel) ?_
    refine Ev_invV (d' := 2) [(1, s_3 12 v2_2.toNat), (1, 1), (1, s_3 13 v2_2.toNat), (1, 1)] 25 dX4_find_32 M_X4_add q_451 (by decide) rfl rfl sh_25 rfl (Nat.le_of_ble_eq_true rfl) (k_X4_add_25 h) ?_
    rintro _ s_24 ⟨rfl, h⟩
    refine Ev_aload_n dX4_find_35 0 rfl ?_
    refine Ev_aload_n dX4_find_36 1 rfl ?_
    refine Ev_getr 11 (14) dX4_find_37 f_RX4_58 rfl sh_11 rfl ?_
    refine Ev_iload_n dX4_find_40 2 rfl ?_
    obtain ⟨hb_25, h⟩ := h
    refine Ev_iald (14) dX4_find_41 rfl sh_14 hb_25 ?_
    refine Ev_i2l dX4_find_42 ?_
    refine Ev_lconst (v := 1) dX4_find_43 (by decide +kernel) ?_
    refine Ev_aload_n dX4_find_44 1 rfl ?_
    refine Ev_getr 11 (15) dX4_find_45 f_RX4_61 rfl sh_11 rfl ?_
    refine Ev_iload_n dX4_find_48 2 rfl ?_
    obtain ⟨hb_26, h⟩ := h
    refine Ev_iald (15) dX4_find_49 rfl sh_15 hb_26 ?_
    refine Ev_i2l dX4_find_50 ?_
    refine Ev_lconst (v := 1) dX4_find_51 (by decide +kernel) ?_
    refine Ev_invV (d' := 2) [(1, s_24 14 v2_2.toNat), (1, 1), (1, s_24 15 v2_2.toNat), (1, 1)] 25 dX4_find_52 M_X4_add q_451 (by decide) rfl rfl sh_25 rfl (Nat.le_of_ble_eq_true rfl) (k_X4_add_25 h) ?_
    rintro _ s_27 ⟨rfl, h⟩
    obtain ⟨v2_28, ev2_28⟩ : ∃ z : Int, z = w32 (v2_2 + 1) := ⟨_, rfl⟩
    replace h := h v2_28 ev2_28
    refine Ev_iinc (v := v2_28) dX4_find_55 2 rfl ev2_28.symm (by decide) rfl ?_
    refine Ev_goto (tgt := 7) dX4_find_58 (by decide) ?_
    refine Ev_sub [1, 2, 0] rfl ?_
    exact hagain_4 _ _ h
theorem k_X5_item {s : Sg} {v1 v2 : Int} {post : Int → Prop} (h : w_X5_item s v1 v2 post) : EvM mX5_item 0 [(2, 64), (0, v1), (0, v2)] s (poI 0 s post) := by
  refine EvM_of rfl (by decide +kernel) (Nat.le_of_ble_eq_true rfl) ?_
  unfold w_X5_item at h
  show Ev mX5_item 0 0 [(0, (2, 64)), (1, (0, v1)), (2, (0, v2))] [] s (poI 0 s post)
  refine Ev_aload_n dX5_item_0 0 rfl ?_
  refine Ev_getr 64 (67) dX5_item_1 f_RX5_18 rfl sh_64 rfl ?_
  refine Ev_iload_n dX5_item_4 1 rfl ?_
  refine Ev_bipush (v := 40) dX5_item_5 (by decide +kernel) ?_
  refine Ev_imul dX5_item_7 ?_
  refine Ev_iload_n dX5_item_8 2 rfl ?_
  refine Ev_iadd dX5_item_9 ?_
  obtain ⟨hb_1, h⟩ := h
  refine Ev_iald (67) dX5_item_10 rfl sh_67 hb_1 ?_
  exact Ev_ret dX5_item_11 trivial (poI_mk h)
theorem k_X5_firstOtherwise {s : Sg} {v1 v3 : Int} {post : Int → Prop} (h : w_X5_firstOtherwise s v1 v3 post) : EvM mX5_firstOtherwise 1 [(2, 64), (0, v1), (2, 35), (0, v3)] s (poI 0 s post) := by
  refine EvM_of rfl (by decide +kernel) (Nat.le_of_ble_eq_true rfl) ?_
  unfold w_X5_firstOtherwise at h
  show Ev mX5_firstOtherwise 1 0 [(0, (2, 64)), (1, (0, v1)), (2, (2, 35)), (3, (0, v3))] [] s (poI 0 s post)
  refine Ev_iconst (v := 0) dX5_firstOtherwise_0 rfl ⟨by decide, by decide⟩ ?_
  refine Ev_istore dX5_firstOtherwise_1 (by decide) rfl ?_
  refine Ev_iconst (v := 0) dX5_firstOtherwise_3 rfl ⟨by decide, by decide⟩ ?_
  refine Ev_istore dX5_firstOtherwise_4 (by decide) rfl ?_
  refine Ev_sub [2, 3, 4, 5, 1, 0] rfl ?_
  refine li_2 (P := fun (v4_1 v5_2 : Int) => Ev mX5_firstOtherwise 1 6 [(0, (2, 64)), (1, (0, v1)), (2, (2, 35)), (3, (0, v3)), (4, (0, v4_1)), (5, (0, v5_2))] [] s (poI 0 s post)) ?_ h
  intro again_3 v4_1 v5_2 hagain_3 h
  refine Ev_iload dX5_firstOtherwise_6 5 rfl ?_
  refine Ev_aload_n dX5_firstOtherwise_8 2 rfl ?_
  refine Ev_geti 35 dX5_firstOtherwise_9 f_RX5_21 rfl sh_35 ?_
  refine Ev_icmp_ge (tgt := 68) dX5_firstOtherwise_12 (by decide) (fun hc => ?_) (fun hc => ?_)
  · replace h := h.1 hc
    refine Ev_iload dX5_firstOtherwise_68 4 rfl ?_
    refine Ev_aload_n dX5_firstOtherwise_70 0 rfl ?_
    refine Ev_getr 64 (66) dX5_firstOtherwise_71 f_RX5_15 rfl sh_64 rfl ?_
    refine Ev_iload_n dX5_firstOtherwise_74 1 rfl ?_
    obtain ⟨hb_4, h⟩ := h
    refine Ev_iald (66) dX5_firstOtherwise_75 rfl sh_66 hb_4 ?_
    refine jc_1 (P := fun (t_5 : Int) => Ev mX5_firstOtherwise 1 85 [] [(0, t_5)] s (poI 0 s post)) h ?_ ?_
    · intro t_5 h
      exact Ev_ret dX5_firstOtherwise_85 trivial (poI_mk h)
    · intro K_6 hK_6 h
      refine Ev_icmp_ge (tgt := 84) dX5_firstOtherwise_76 (by decide) (fun hc => ?_) (fun hc => ?_)
      · replace h := h.1 hc
        refine Ev_iconst (v := -1) dX5_firstOtherwise_84 rfl ⟨by decide, by decide⟩ ?_
        refine Ev_sub [] rfl ?_
        exact hK_6 _ h
      · replace h := h.2 hc
        refine Ev_iload dX5_firstOtherwise_79 4 rfl ?_
        refine Ev_goto (tgt := 85) dX5_firstOtherwise_81 (by decide) ?_
        refine Ev_sub [] rfl ?_
        exact hK_6 _ h
  · replace h := h.2 hc
    refine Ev_aload_n dX5_firstOtherwise_15 2 rfl ?_
    refine Ev_getr 35 (36) dX5_firstOtherwise_16 f_RX5_26 rfl sh_35 rfl ?_
    refine Ev_iload dX5_firstOtherwise_19 5 rfl ?_
    obtain ⟨hb_7, h⟩ := h
    refine Ev_iald (36) dX5_firstOtherwise_21 rfl sh_36 hb_7 ?_
    obtain ⟨v6_8, ev6_8⟩ : ∃ z : Int, z = s 36 v5_2.toNat := ⟨_, rfl⟩
    replace h := h v6_8 ev6_8
    rw [← ev6_8]
    refine Ev_istore dX5_firstOtherwise_22 (by decide) rfl ?_
    refine Ev_iload dX5_firstOtherwise_24 0 rfl ?_
    refine Ev_iload_n dX5_firstOtherwise_26 4 rfl ?_
    refine jc_1 (P := fun (v4_9 : Int) => Ev mX5_firstOtherwise 1 62 [(0, (2, 64)), (1, (0, v1)), (2, (2, 35)), (3, (0, v3)), (4, (0, v4_9)), (5, (0, v5_2))] [] s (poI 0 s post)) h ?_ ?_
    · intro v4_9 h
      obtain ⟨v5_11, ev5_11⟩ : ∃ z : Int, z = w32 (v5_2 + 1) := ⟨_, rfl⟩
      replace h := h v5_11 ev5_11
      refine Ev_iinc (v := v5_11) dX5_firstOtherwise_62 5 rfl ev5_11.symm (by decide) rfl ?_
      refine Ev_goto (tgt := 6) dX5_firstOtherwise_65 (by decide) ?_
      refine Ev_sub [1, 2, 3, 4, 5, 0] rfl ?_
      exact hagain_3 _ _ h
    · intro K_10 hK_10 h
      refine Ev_icmp_ne (tgt := 33) dX5_firstOtherwise_27 (by decide) (fun hc => ?_) (fun hc => ?_)
      · replace h := h.1 hc
        refine Ev_iload dX5_firstOtherwise_33 5 rfl ?_
        refine Ev_aload_n dX5_firstOtherwise_35 1 rfl ?_
        refine Ev_getr 64 (66) dX5_firstOtherwise_36 f_RX5_15 rfl sh_64 rfl ?_
        refine Ev_iload_n dX5_firstOtherwise_39 2 rfl ?_
        obtain ⟨hb_12, h⟩ := h
        refine Ev_iald (66) dX5_firstOtherwise_40 rfl sh_66 hb_12 ?_
        refine jc_0 (P := Ev mX5_firstOtherwise 1 56 [(4, (0, v4_1))] [] s (poI 0 s post)) h ?_ ?_
        · intro  h
          refine Ev_iload dX5_firstOtherwise_56 0 rfl ?_
          exact Ev_ret dX5_firstOtherwise_58 trivial (poI_mk h)
        · intro K_13 hK_13 h
          refine Ev_icmp_ge (tgt := 56) dX5_firstOtherwise_41 (by decide) (fun hc => ?_) (fun hc => ?_)
          · replace h := h.1 hc
            refine Ev_sub [5] rfl ?_
            exact hK_13 h
          · replace h := h.2 hc
            refine Ev_aload_n dX5_firstOtherwise_44 1 rfl ?_
            refine Ev_iload_n dX5_firstOtherwise_45 2 rfl ?_
            refine Ev_iload dX5_firstOtherwise_46 5 rfl ?_
            refine Ev_invV (d' := 0) [(0, v1), (0, v4_1)] 64 dX5_firstOtherwise_48 M_X5_item q_815 (by decide) rfl rfl sh_64 rfl (Nat.le_of_ble_eq_true rfl) (k_X5_item h) ?_
            rintro _ _ ⟨rfl, r_14, rfl, h⟩
            refine Ev_iload dX5_firstOtherwise_51 0 rfl ?_
            refine Ev_icmp_eq (tgt := 59) dX5_firstOtherwise_53 (by decide) (fun hc => ?_) (fun hc => ?_)
            · replace h := h.1 hc
              obtain ⟨v4_15, ev4_15⟩ : ∃ z : Int, z = w32 (v4_1 + 1) := ⟨_, rfl⟩
              replace h := h v4_15 ev4_15
              refine Ev_iinc (v := v4_15) dX5_firstOtherwise_59 5 rfl ev4_15.symm (by decide) rfl ?_
              refine Ev_sub [2, 3, 4, 5, 0, 6] rfl ?_
              exact hK_10 _ h
            · replace h := h.2 hc
              refine Ev_sub [5] rfl ?_
              exact hK_13 h
      · replace h := h.2 hc
        refine Ev_goto (tgt := 62) dX5_firstOtherwise_30 (by decide) ?_
        refine Ev_sub [1, 2, 3, 4, 5, 6] rfl ?_
        exact hK_10 _ h
theorem k_X5_hasRow {s : Sg} {v1 v2 v3 : Int} {post : Int → Prop} (h : w_X5_hasRow s v1 v2 v3 post) : EvM mX5_hasRow 0 [(2, 64), (0, v1), (0, v2), (0, v3)] s (poI 0 s post) := by
  refine EvM_of rfl (by decide +kernel) (Nat.le_of_ble_eq_true rfl) ?_
  unfold w_X5_hasRow at h
  show Ev mX5_hasRow 0 0 [(0, (2, 64)), (1, (0, v1)), (2, (0, v2)), (3, (0, v3))] [] s (poI 0 s post)
  refine Ev_iload_n dX5_hasRow_0 2 rfl ?_
  refine jc_1 (P := fun (t_1 : Int) => Ev mX5_hasRow 0 21 [] [(0, t_1)] s (poI 0 s post)) h ?_ ?_
  · intro t_1 h
    obtain ⟨hz, h⟩ := h
    exact Ev_ret dX5_hasRow_21 hz (poI_mk h)
  · intro K_2 hK_2 h
    refine jc_0 (P := Ev mX5_hasRow 0 20 [] [] s (poI 0 s post)) h ?_ ?_
    · intro  h
      refine Ev_iconst (v := 0) dX5_hasRow_20 rfl ⟨by decide, by decide⟩ ?_
      exact hK_2 _ h
    · intro K_3 hK_3 h
      refine Ev_if_lt (tgt := 20) dX5_hasRow_1 (by decide) (fun hc => ?_) (fun hc => ?_)
      · replace h := h.1 hc
        refine Ev_sub [] rfl ?_
        exact hK_3 h
      · replace h := h.2 hc
        refine Ev_iload_n dX5_hasRow_4 2 rfl ?_
        refine Ev_aload_n dX5_hasRow_5 0 rfl ?_
        refine Ev_getr 64 (66) dX5_hasRow_6 f_RX5_15 rfl sh_64 rfl ?_
        refine Ev_iload_n dX5_hasRow_9 1 rfl ?_
        obtain ⟨hb_4, h⟩ := h
        refine Ev_iald (66) dX5_hasRow_10 rfl sh_66 hb_4 ?_
        refine Ev_iload_n dX5_hasRow_11 3 rfl ?_
        refine Ev_isub dX5_hasRow_12 ?_
        refine Ev_icmp_gt (tgt := 20) dX5_hasRow_13 (by decide) (fun hc => ?_) (fun hc => ?_)
        · replace h := h.1 hc
          refine Ev_sub [] rfl ?_
          exact hK_3 h
        · replace h := h.2 hc
          refine Ev_iconst (v := 1) dX5_hasRow_16 rfl ⟨by decide, by decide⟩ ?_
          refine Ev_goto (tgt := 21) dX5_hasRow_17 (by decide) ?_
          refine Ev_sub [] rfl ?_
          exact hK_2 _ h
theorem k_X5_isMissing {s : Sg} {v1 : Int} {post : Int → Prop} (h : w_X5_isMissing s v1 post) : EvM mX5_isMissing 0 [(2, 64), (0, v1)] s (poI 0 s post) := by
  refine EvM_of rfl (by decide +kernel) (Nat.le_of_ble_eq_true rfl) ?_
  unfold w_X5_isMissing at h
  show Ev mX5_isMissing 0 0 [(0, (2, 64)), (1, (0, v1))] [] s (poI 0 s post)
  refine Ev_aload_n dX5_isMissing_0 0 rfl ?_
  refine Ev_getr 64 (65) dX5_isMissing_1 f_RX5_9 rfl sh_64 rfl ?_
  refine Ev_iload_n dX5_isMissing_4 1 rfl ?_
  obtain ⟨hb_1, h⟩ := h
  refine Ev_iald (65) dX5_isMissing_5 rfl sh_65 hb_1 ?_
  refine Ev_iconst (v := -1) dX5_isMissing_6 rfl ⟨by decide, by decide⟩ ?_
  refine jc_1 (P := fun (t_2 : Int) => Ev mX5_isMissing 0 15 [] [(0, t_2)] s (poI 0 s post)) h ?_ ?_
  · intro t_2 h
    obtain ⟨hz, h⟩ := h
    exact Ev_ret dX5_isMissing_15 hz (poI_mk h)
  · intro K_3 hK_3 h
    refine Ev_icmp_ne (tgt := 14) dX5_isMissing_7 (by decide) (fun hc => ?_) (fun hc => ?_)
    · replace h := h.1 hc
      refine Ev_iconst (v := 0) dX5_isMissing_14 rfl ⟨by decide, by decide⟩ ?_
      refine Ev_sub [] rfl ?_
      exact hK_3 _ h
    · replace h := h.2 hc
      refine Ev_iconst (v := 1) dX5_isMissing_10 rfl ⟨by decide, by decide⟩ ?_
      refine Ev_goto (tgt := 15) dX5_isMissing_11 (by decide) ?_
      refine Ev_sub [] rfl ?_
      exact hK_3 _ h
theorem k_X5_isOne {s : Sg} {v1 : Int} {post : Int → Prop} (h : w_X5_isOne v1 post) : EvM mX5_isOne 0 [(2, 64), (0, v1)] s (poI 0 s post) := by
  refine EvM_of rfl (by decide +kernel) (Nat.le_of_ble_eq_true rfl) ?_
  unfold w_X5_isOne at h
  show Ev mX5_isOne 0 0 [(0, (2, 64)), (1, (0, v1))] [] s (poI 0 s post)
  refine Ev_iload_n dX5_isOne_0 1 rfl ?_
  refine jc_1 (P := fun (t_1 : Int) => Ev mX5_isOne 0 14 [] [(0, t_1)] s (poI 0 s post)) h ?_ ?_
  · intro t_1 h
    obtain ⟨hz, h⟩ := h
    exact Ev_ret dX5_isOne_14 hz (poI_mk h)
  · intro K_2 hK_2 h
    refine jc_0 (P := Ev mX5_isOne 0 13 [] [] s (poI 0 s post)) h ?_ ?_
    · intro  h
      refine Ev_iconst (v := 0) dX5_isOne_13 rfl ⟨by decide, by decide⟩ ?_
      exact hK_2 _ h
    · intro K_3 hK_3 h
      refine Ev_if_lt (tgt := 13) dX5_isOne_1 (by decide) (fun hc => ?_) (fun hc => ?_)
      · replace h := h.1 hc
        refine Ev_sub [] rfl ?_
        exact hK_3 h
      · replace h := h.2 hc
        refine Ev_iload_n dX5_isOne_4 1 rfl ?_
        refine Ev_iconst (v := 4) dX5_isOne_5 rfl ⟨by decide, by decide⟩ ?_
        refine Ev_icmp_ge (tgt := 13) dX5_isOne_6 (by decide) (fun hc => ?_) (fun hc => ?_)
        · replace h := h.1 hc
          refine Ev_sub [] rfl ?_
          exact hK_3 h
        · replace h := h.2 hc
          refine Ev_iconst (v := 1) dX5_isOne_9 rfl ⟨by decide, by decide⟩ ?_
          refine Ev_goto (tgt := 14) dX5_isOne_10 (by decide) ?_
          refine Ev_sub [] rfl ?_
          exact hK_2 _ h
theorem k_X5_isSort {s : Sg} {v1 : Int} {post : Int → Prop} (h : w_X5_isSort v1 post) : EvM mX5_isSort 0 [(2, 64), (0, v1)] s (poI 0 s post) := by
  refine EvM_of rfl (by decide +kernel) (Nat.le_of_ble_eq_true rfl) ?_
  unfold w_X5_isSort at h
  show Ev mX5_isSort 0 0 [(0, (2, 64)), (1, (0, v1))] [] s (poI 0 s post)
  refine Ev_iload_n dX5_isSort_0 1 rfl ?_
  refine jc_1 (P := fun (t_1 : Int) => Ev mX5_isSort 0 14 [] [(0, t_1)] s (poI 0 s post)) h ?_ ?_
  · intro t_1 h
    obtain ⟨hz, h⟩ := h
    exact Ev_ret dX5_isSort_14 hz (poI_mk h)
  · intro K_2 hK_2 h
    refine jc_0 (P := Ev mX5_isSort 0 9 [] [] s (poI 0 s post)) h ?_ ?_
    · intro  h
      refine Ev_iconst (v := 1) dX5_isSort_9 rfl ⟨by decide, by decide⟩ ?_
      refine Ev_goto (tgt := 14) dX5_isSort_10 (by decide) ?_
      exact hK_2 _ h
    · intro K_3 hK_3 h
      refine Ev_if_eq (tgt := 9) dX5_isSort_1 (by decide) (fun hc => ?_) (fun hc => ?_)
      · replace h := h.1 hc
        refine Ev_sub [] rfl ?_
        exact hK_3 h
      · replace h := h.2 hc
        refine Ev_iload_n dX5_isSort_4 1 rfl ?_
        refine Ev_iconst (v := 1) dX5_isSort_5 rfl ⟨by decide, by decide⟩ ?_
        refine Ev_icmp_ne (tgt := 13) dX5_isSort_6 (by decide) (fun hc => ?_) (fun hc => ?_)
        · replace h := h.1 hc
          refine Ev_iconst (v := 0) dX5_isSort_13 rfl ⟨by decide, by decide⟩ ?_
          refine Ev_sub [] rfl ?_
          exact hK_2 _ h
        · replace h := h.2 hc
          refine Ev_sub [] rfl ?_
          exact hK_3 h
theorem k_X5_make {s : Sg} {v1 v2 v3 : Int} {post : Sg → Prop} (h : w_X5_make s v1 v2 v3 post) : EvM mX5_make 0 [(2, 64), (0, v1), (0, v2), (0, v3)] s (poV post) := by
  refine EvM_of rfl (by decide +kernel) (Nat.le_of_ble_eq_true rfl) ?_
  unfold w_X5_make at h
  show Ev mX5_make 0 0 [(0, (2, 64)), (1, (0, v1)), (2, (0, v2)), (3, (0, v3))] [] s (poV post)
  refine Ev_aload_n dX5_make_0 0 rfl ?_
  refine Ev_getr 64 (65) dX5_make_1 f_RX5_9 rfl sh_64 rfl ?_
  refine Ev_iload_n dX5_make_4 1 rfl ?_
  refine Ev_iload_n dX5_make_5 2 rfl ?_
  obtain ⟨hb_1, h⟩ := h
  obtain ⟨s_2, es_2⟩ : ∃ z : Sg, z = (up s 65 (v1.toNat) v2) := ⟨_, rfl⟩
  replace h := h s_2 es_2
  refine Ev_iast (65) dX5_make_6 rfl sh_65 hb_1 ?_
  rw [← es_2]
  refine Ev_aload_n dX5_make_7 0 rfl ?_
  refine Ev_getr 64 (66) dX5_make_8 f_RX5_15 rfl sh_64 rfl ?_
  refine Ev_iload_n dX5_make_11 1 rfl ?_
  refine Ev_iload_n dX5_make_12 3 rfl ?_
  obtain ⟨hb_3, h⟩ := h
  obtain ⟨s_4, es_4⟩ : ∃ z : Sg, z = (up s_2 66 (v1.toNat) v3) := ⟨_, rfl⟩
  replace h := h s_4 es_4
  refine Ev_iast (66) dX5_make_13 rfl sh_66 hb_3 ?_
  rw [← es_4]
  refine Ev_iconst (v := 0) dX5_make_14 rfl ⟨by decide, by decide⟩ ?_
  refine Ev_istore dX5_make_15 (by decide) rfl ?_
  refine Ev_sub [1, 2, 0] rfl ?_
  refine li_1s (P := fun (v4_5 : Int) (s_6 : Sg) => Ev mX5_make 0 17 [(0, (2, 64)), (1, (0, v1)), (4, (0, v4_5))] [] s_6 (poV post)) ?_ h
  intro again_7 v4_5 s_6 hagain_7 h
  refine Ev_iload dX5_make_17 2 rfl ?_
  refine Ev_bipush (v := 40) dX5_make_19 (by decide +kernel) ?_
  refine Ev_icmp_ge (tgt := 43) dX5_make_21 (by decide) (fun hc => ?_) (fun hc => ?_)
  · replace h := h.1 hc
    exact Ev_retv dX5_make_43 rfl (poV_mk h)
  · replace h := h.2 hc
    refine Ev_aload_n dX5_make_24 0 rfl ?_
    refine Ev_getr 64 (67) dX5_make_25 f_RX5_18 rfl sh_64 rfl ?_
    refine Ev_iload_n dX5_make_28 1 rfl ?_
    refine Ev_bipush (v := 40) dX5_make_29 (by decide +kernel) ?_
    refine Ev_imul dX5_make_31 ?_
    refine Ev_iload dX5_make_32 2 rfl ?_
    refine Ev_iadd dX5_make_34 ?_
    refine Ev_iconst (v := 0) dX5_make_35 rfl ⟨by decide, by decide⟩ ?_
    obtain ⟨hb_8, h⟩ := h
    obtain ⟨s_9, es_9⟩ : ∃ z : Sg, z = (up s_6 67 ((w32 ((w32 (v1 * 40)) + v4_5)).toNat) 0) := ⟨_, rfl⟩
    replace h := h s_9 es_9
    refine Ev_iast (67) dX5_make_36 rfl sh_67 hb_8 ?_
    rw [← es_9]
    obtain ⟨v4_10, ev4_10⟩ : ∃ z : Int, z = w32 (v4_5 + 1) := ⟨_, rfl⟩
    replace h := h v4_10 ev4_10
    refine Ev_iinc (v := v4_10) dX5_make_37 2 rfl ev4_10.symm (by decide) rfl ?_
    refine Ev_goto (tgt := 17) dX5_make_40 (by decide) ?_
    refine Ev_sub [1, 2, 0] rfl ?_
    exact hagain_7 _ _ h
theorem k_X5_set {s : Sg} {v1 v2 v3 : Int} {post : Sg → Prop} (h : w_X5_set s v1 v2 v3 post) : EvM mX5_set 0 [(2, 64), (0, v1), (0, v2), (0, v3)] s (poV post) := by
  refine EvM_of rfl (by decide +kernel) (Nat.le_of_ble_eq_true rfl) ?_
  unfold w_X5_set at h
  show Ev mX5_set 0 0 [(0, (2, 64)), (1, (0, v1)), (2, (0, v2)), (3, (0, v3))] [] s (poV post)
  refine Ev_aload_n dX5_set_0 0 rfl ?_
  refine Ev_getr 64 (67) dX5_set_1 f_RX5_18 rfl sh_64 rfl ?_
  refine Ev_iload_n dX5_set_4 1 rfl ?_
  refine Ev_bipush (v := 40) dX5_set_5 (by decide +kernel) ?_
  refine Ev_imul dX5_set_7 ?_
  refine Ev_iload_n dX5_set_8 2 rfl ?_
  refine Ev_iadd dX5_set_9 ?_
  refine Ev_aload_n dX5_set_10 0 rfl ?_
  refine Ev_getr 64 (65) dX5_set_11 f_RX5_9 rfl sh_64 rfl ?_
  refine Ev_iload_n dX5_set_14 1 rfl ?_
  obtain ⟨hb_1, h⟩ := h
  refine Ev_iald (65) dX5_set_15 rfl sh_65 hb_1 ?_
  refine jc_1 (P := fun (t_2 : Int) => Ev mX5_set 0 25 [] [(0, t_2), (0, w32 ((w32 (v1 * 40)) + v2)), (2, 67)] s (poV post)) h ?_ ?_
  · intro t_2 h
    obtain ⟨hb_4, h⟩ := h
    obtain ⟨s_5, es_5⟩ : ∃ z : Sg, z = (up s 67 ((w32 ((w32 (v1 * 40)) + v2)).toNat) t_2) := ⟨_, rfl⟩
    replace h := h s_5 es_5
    refine Ev_iast (67) dX5_set_25 rfl sh_67 hb_4 ?_
    rw [← es_5]
    exact Ev_retv dX5_set_26 rfl (poV_mk h)
  · intro K_3 hK_3 h
    refine Ev_if_ne (tgt := 24) dX5_set_16 (by decide) (fun hc => ?_) (fun hc => ?_)
    · replace h := h.1 hc
      refine Ev_iload_n dX5_set_24 3 rfl ?_
      refine Ev_sub [] rfl ?_
      exact hK_3 _ h
    · replace h := h.2 hc
      refine Ev_iload_n dX5_set_19 3 rfl ?_
      refine Ev_i2b dX5_set_20 ?_
      refine Ev_goto (tgt := 25) dX5_set_21 (by decide) ?_
      refine Ev_sub [] rfl ?_
      exact hK_3 _ h
theorem k_X6_addCell {s : Sg} {v1 v2 v3 : Int} {post : Sg → Prop} (h : w_X6_addCell s v1 v2 v3 post) : EvM mX6_addCell 0 [(2, 38), (0, v1), (0, v2), (0, v3)] s (poV post) := by
  refine EvM_of rfl (by decide +kernel) (Nat.le_of_ble_eq_true rfl) ?_
  unfold w_X6_addCell at h
  show Ev mX6_addCell 0 0 [(0, (2, 38)), (1, (0, v1)), (2, (0, v2)), (3, (0, v3))] [] s (poV post)
  refine Ev_aload_n dX6_addCell_0 0 rfl ?_
  refine Ev_geti 38 dX6_addCell_1 f_RX6_35 rfl sh_38 ?_
  refine Ev_sipush (v := 726) dX6_addCell_4 (by decide +kernel) ?_
  refine jc_0s (P := fun (s_1 : Sg) => Ev mX6_addCell 0 50 [] [] s_1 (poV post)) h ?_ ?_
  · intro s_1 h
    exact Ev_retv dX6_addCell_50 rfl (poV_mk h)
  · intro K_2 hK_2 h
    refine Ev_icmp_ge (tgt := 50) dX6_addCell_7 (by decide) (fun hc => ?_) (fun hc => ?_)
    · replace h := h.1 hc
      refine Ev_sub [] rfl ?_
      exact hK_2 _ h
    · replace h := h.2 hc
      refine Ev_aload_n dX6_addCell_10 0 rfl ?_
      refine Ev_getr 38 (42) dX6_addCell_11 f_RX6_22 rfl sh_38 rfl ?_
      refine Ev_aload_n dX6_addCell_14 0 rfl ?_
      refine Ev_geti 38 dX6_addCell_15 f_RX6_35 rfl sh_38 ?_
      refine Ev_iload_n dX6_addCell_18 1 rfl ?_
      obtain ⟨hb_3, h⟩ := h
      obtain ⟨s_4, es_4⟩ : ∃ z : Sg, z = (up s 42 ((s 38 1).toNat) v1) := ⟨_, rfl⟩
      replace h := h s_4 es_4
      refine Ev_iast (42) dX6_addCell_19 rfl sh_42 hb_3 ?_
      rw [← es_4]
      refine Ev_aload_n dX6_addCell_20 0 rfl ?_
      refine Ev_getr 38 (43) dX6_addCell_21 f_RX6_25 rfl sh_38 rfl ?_
      refine Ev_aload_n dX6_addCell_24 0 rfl ?_
      refine Ev_geti 38 dX6_addCell_25 f_RX6_35 rfl sh_38 ?_
      refine Ev_iload_n dX6_addCell_28 2 rfl ?_
      obtain ⟨hb_5, h⟩ := h
      obtain ⟨s_6, es_6⟩ : ∃ z : Sg, z = (up s_4 43 ((s_4 38 1).toNat) v2) := ⟨_, rfl⟩
      replace h := h s_6 es_6
      refine Ev_iast (43) dX6_addCell_29 rfl sh_43 hb_5 ?_
      rw [← es_6]
      refine Ev_aload_n dX6_addCell_30 0 rfl ?_
      refine Ev_getr 38 (44) dX6_addCell_31 f_RX6_28 rfl sh_38 rfl ?_
      refine Ev_aload_n dX6_addCell_34 0 rfl ?_
      refine Ev_geti 38 dX6_addCell_35 f_RX6_35 rfl sh_38 ?_
      refine Ev_iload_n dX6_addCell_38 3 rfl ?_
      obtain ⟨hb_7, h⟩ := h
      obtain ⟨s_8, es_8⟩ : ∃ z : Sg, z = (up s_6 44 ((s_6 38 1).toNat) v3) := ⟨_, rfl⟩
      replace h := h s_8 es_8
      refine Ev_iast (44) dX6_addCell_39 rfl sh_44 hb_7 ?_
      rw [← es_8]
      refine Ev_aload_n dX6_addCell_40 0 rfl ?_
      refine Ev_dup dX6_addCell_41 (show ¬ (2 : Nat) = 1 by decide) ?_
      refine Ev_geti 38 dX6_addCell_42 f_RX6_35 rfl sh_38 ?_
      refine Ev_iconst (v := 1) dX6_addCell_45 rfl ⟨by decide, by decide⟩ ?_
      refine Ev_iadd dX6_addCell_46 ?_
      obtain ⟨s_9, es_9⟩ : ∃ z : Sg, z = (up s_8 38 1 (w32 ((s_8 38 1) + 1))) := ⟨_, rfl⟩
      replace h := h s_9 es_9
      refine Ev_puti 38 dX6_addCell_47 fp_RX6_35 rfl sh_38 ?_
      rw [← es_9]
      refine Ev_sub [] rfl ?_
      exact hK_2 _ h
theorem k_X7_compareTwo {s : Sg} {v2 v3 : Int} {post : Int → Prop} (h : w_X7_compareTwo s v2 v3 post) : EvM mX7_compareTwo 1 [(2, 35), (2, 1), (0, v2), (0, v3)] s (poI 0 s post) := by
  refine EvM_of rfl (by decide +kernel) (Nat.le_of_ble_eq_true rfl) ?_
  unfold w_X7_compareTwo at h
  show Ev mX7_compareTwo 1 0 [(0, (2, 35)), (1, (2, 1)), (2, (0, v2)), (3, (0, v3))] [] s (poI 0 s post)
  refine Ev_aload_n dX7_compareTwo_0 0 rfl ?_
  refine Ev_getr 35 (37) dX7_compareTwo_1 f_RX7_15 rfl sh_35 rfl ?_
  refine Ev_iload_n dX7_compareTwo_4 2 rfl ?_
  obtain ⟨hb_1, h⟩ := h
  refine Ev_lald (37) dX7_compareTwo_5 rfl sh_37 hb_1 ?_
  refine Ev_aload_n dX7_compareTwo_6 1 rfl ?_
  refine Ev_iload_n dX7_compareTwo_7 2 rfl ?_
  refine Ev_invV (d' := 0) [(0, v2)] 1 dX7_compareTwo_8 M_X2_run q_614 (by decide) rfl rfl sh_1 rfl (Nat.le_of_ble_eq_true rfl) (k_X2_run_1 h) ?_
  rintro _ _ ⟨rfl, r_2, rfl, h⟩
  refine Ev_aload_n dX7_compareTwo_11 0 rfl ?_
  refine Ev_getr 35 (37) dX7_compareTwo_12 f_RX7_15 rfl sh_35 rfl ?_
  refine Ev_iload_n dX7_compareTwo_15 3 rfl ?_
  obtain ⟨hb_3, h⟩ := h
  refine Ev_lald (37) dX7_compareTwo_16 rfl sh_37 hb_3 ?_
  refine Ev_aload_n dX7_compareTwo_17 1 rfl ?_
  refine Ev_iload_n dX7_compareTwo_18 3 rfl ?_
  refine Ev_invV (d' := 0) [(0, v3)] 1 dX7_compareTwo_19 M_X2_run q_614 (by decide) rfl rfl sh_1 rfl (Nat.le_of_ble_eq_true rfl) (k_X2_run_1 h) ?_
  rintro _ _ ⟨rfl, r_4, rfl, h⟩
  refine Ev_invS (d' := 0) [(1, s 37 v2.toNat), (1, r_2), (1, s 37 v3.toNat), (1, r_4)] dX7_compareTwo_22 M_X9_compareFractions (Or.inr ⟨_, q_615⟩) (by decide) rfl (Nat.le_of_ble_eq_true rfl) (k_X9_compareFractions h) ?_
  rintro _ _ ⟨rfl, r_5, rfl, h⟩
  refine Ev_istore dX7_compareTwo_25 (by decide) rfl ?_
  refine Ev_iload dX7_compareTwo_27 0 rfl ?_
  refine jc_1 (P := fun (t_6 : Int) => Ev mX7_compareTwo 1 60 [] [(0, t_6)] s (poI 0 s post)) h ?_ ?_
  · intro t_6 h
    exact Ev_ret dX7_compareTwo_60 trivial (poI_mk h)
  · intro K_7 hK_7 h
    refine Ev_if_eq (tgt := 37) dX7_compareTwo_29 (by decide) (fun hc => ?_) (fun hc => ?_)
    · replace h := h.1 hc
      refine Ev_aload_n dX7_compareTwo_37 2 rfl ?_
      refine Ev_iload_n dX7_compareTwo_38 3 rfl ?_
      refine Ev_invV (d' := 0) [(0, v2)] 1 dX7_compareTwo_39 M_X2_rise q_616 (by decide) rfl rfl sh_1 rfl (Nat.le_of_ble_eq_true rfl) (k_X2_rise_1 h) ?_
      rintro _ _ ⟨rfl, r_8, rfl, h⟩
      refine Ev_aload_n dX7_compareTwo_42 2 rfl ?_
      refine Ev_iload_n dX7_compareTwo_43 3 rfl ?_
      refine Ev_invV (d' := 0) [(0, v2)] 1 dX7_compareTwo_44 M_X2_run q_614 (by decide) rfl rfl sh_1 rfl (Nat.le_of_ble_eq_true rfl) (k_X2_run_1 h) ?_
      rintro _ _ ⟨rfl, r_9, rfl, h⟩
      refine Ev_aload_n dX7_compareTwo_47 2 rfl ?_
      refine Ev_iload_n dX7_compareTwo_48 4 rfl ?_
      refine Ev_invV (d' := 0) [(0, v3)] 1 dX7_compareTwo_49 M_X2_rise q_616 (by decide) rfl rfl sh_1 rfl (Nat.le_of_ble_eq_true rfl) (k_X2_rise_1 h) ?_
      rintro _ _ ⟨rfl, r_10, rfl, h⟩
      refine Ev_aload_n dX7_compareTwo_52 2 rfl ?_
      refine Ev_iload_n dX7_compareTwo_53 4 rfl ?_
      refine Ev_invV (d' := 0) [(0, v3)] 1 dX7_compareTwo_54 M_X2_run q_614 (by decide) rfl rfl sh_1 rfl (Nat.le_of_ble_eq_true rfl) (k_X2_run_1 h) ?_
      rintro _ _ ⟨rfl, r_11, rfl, h⟩
      refine Ev_invS (d' := 0) [(1, r_8), (1, r_9), (1, r_10), (1, r_11)] dX7_compareTwo_57 M_X9_compareFractions (Or.inr ⟨_, q_615⟩) (by decide) rfl (Nat.le_of_ble_eq_true rfl) (k_X9_compareFractions h) ?_
      rintro _ _ ⟨rfl, r_12, rfl, h⟩
      refine Ev_sub [] rfl ?_
      exact hK_7 _ h
    · replace h := h.2 hc
      refine Ev_iload dX7_compareTwo_32 0 rfl ?_
      refine Ev_goto (tgt := 60) dX7_compareTwo_34 (by decide) ?_
      refine Ev_sub [] rfl ?_
      exact hK_7 _ h
theorem k_X6_addCells {s : Sg} {v3 : Int} {post : Sg → Prop} (h : w_X6_addCells s v3 post) : EvM mX6_addCells 2 [(2, 38), (2, 1), (2, 35), (0, v3)] s (poV post) := by
  refine EvM_of rfl (by decide +kernel) (Nat.le_of_ble_eq_true rfl) ?_
  unfold w_X6_addCells at h
  show Ev mX6_addCells 2 0 [(0, (2, 38)), (1, (2, 1)), (2, (2, 35)), (3, (0, v3))] [] s (poV post)
  refine Ev_iconst (v := 0) dX6_addCells_0 rfl ⟨by decide, by decide⟩ ?_
  refine Ev_istore dX6_addCells_1 (by decide) rfl ?_
  refine Ev_iconst (v := 0) dX6_addCells_3 rfl ⟨by decide, by decide⟩ ?_
  refine Ev_istore dX6_addCells_4 (by decide) rfl ?_
  refine Ev_iconst (v := -1) dX6_addCells_6 rfl ⟨by decide, by decide⟩ ?_
  refine Ev_istore dX6_addCells_7 (by decide) rfl ?_
  refine Ev_iconst (v := 0) dX6_addCells_9 rfl ⟨by decide, by decide⟩ ?_
  refine Ev_istore dX6_addCells_10 (by decide) rfl ?_
  refine Ev_sub [4, 5, 6, 7, 3, 2, 1, 0] rfl ?_
  refine li_4s (P := fun (v4_1 v5_2 v6_3 v7_4 : Int) (s_5 : Sg) => Ev mX6_addCells 2 12 [(0, (2, 38)), (1, (2, 1)), (2, (2, 35)), (3, (0, v3)), (4, (0, v4_1)), (5, (0, v5_2)), (6, (0, v6_3)), (7, (0, v7_4))] [] s_5 (poV post)) ?_ h
  intro again_6 v4_1 v5_2 v6_3 v7_4 s_5 hagain_6 h
  refine Ev_iload dX6_addCells_12 7 rfl ?_
  refine Ev_aload_n dX6_addCells_14 2 rfl ?_
  refine Ev_geti 35 dX6_addCells_15 f_RX6_67 rfl sh_35 ?_
  refine Ev_icmp_ge (tgt := 107) dX6_addCells_18 (by decide) (fun hc => ?_) (fun hc => ?_)
  · replace h := h.1 hc
    refine Ev_iload dX6_addCells_107 6 rfl ?_
    refine Ev_iconst (v := -1) dX6_addCells_109 rfl ⟨by decide, by decide⟩ ?_
    refine jc_0s (P := fun (s_7 : Sg) => Ev mX6_addCells 2 122 [(0, (2, 38)), (3, (0, v3)), (5, (0, v5_2))] [] s_7 (poV post)) h ?_ ?_
    · intro s_7 h
      refine Ev_aload_n dX6_addCells_122 0 rfl ?_
      refine Ev_iload_n dX6_addCells_123 1 rfl ?_
      refine Ev_iload dX6_addCells_124 2 rfl ?_
      refine Ev_iconst (v := 0) dX6_addCells_126 rfl ⟨by decide, by decide⟩ ?_
      refine Ev_invV (d' := 0) [(0, v3), (0, v5_2), (0, 0)] 38 dX6_addCells_127 M_X6_addCell q_634 (by decide) rfl rfl sh_38 rfl (Nat.le_of_ble_eq_true rfl) (k_X6_addCell h) ?_
      rintro _ s_9 ⟨rfl, h⟩
      exact Ev_retv dX6_addCells_130 rfl (poV_mk h)
    · intro K_8 hK_8 h
      refine Ev_icmp_eq (tgt := 122) dX6_addCells_110 (by decide) (fun hc => ?_) (fun hc => ?_)
      · replace h := h.1 hc
        refine Ev_sub [0, 3, 5] rfl ?_
        exact hK_8 _ h
      · replace h := h.2 hc
        refine Ev_aload_n dX6_addCells_113 0 rfl ?_
        refine Ev_iload_n dX6_addCells_114 3 rfl ?_
        refine Ev_iload dX6_addCells_115 4 rfl ?_
        refine Ev_iload dX6_addCells_117 5 rfl ?_
        refine Ev_invV (d' := 0) [(0, v3), (0, v4_1), (0, v5_2)] 38 dX6_addCells_119 M_X6_addCell q_634 (by decide) rfl rfl sh_38 rfl (Nat.le_of_ble_eq_true rfl) (k_X6_addCell h) ?_
        rintro _ s_10 ⟨rfl, h⟩
        refine Ev_sub [0, 3, 5] rfl ?_
        exact hK_8 _ h
  · replace h := h.2 hc
    refine Ev_aload_n dX6_addCells_21 2 rfl ?_
    refine Ev_getr 35 (36) dX6_addCells_22 f_RX6_68 rfl sh_35 rfl ?_
    refine Ev_iload dX6_addCells_25 7 rfl ?_
    obtain ⟨hb_11, h⟩ := h
    refine Ev_iald (36) dX6_addCells_27 rfl sh_36 hb_11 ?_
    obtain ⟨v8_12, ev8_12⟩ : ∃ z : Int, z = s_5 36 v7_4.toNat := ⟨_, rfl⟩
    replace h := h v8_12 ev8_12
    rw [← ev8_12]
    refine Ev_istore dX6_addCells_28 (by decide) rfl ?_
    refine Ev_aload_n dX6_addCells_30 2 rfl ?_
    refine Ev_iload dX6_addCells_31 0 rfl ?_
    refine Ev_aload_n dX6_addCells_33 1 rfl ?_
    refine Ev_getr 38 (39) dX6_addCells_34 f_RX6_9 rfl sh_38 rfl ?_
    refine Ev_iload_n dX6_addCells_37 4 rfl ?_
    obtain ⟨hb_13, h⟩ := h
    refine Ev_lald (39) dX6_addCells_38 rfl sh_39 hb_13 ?_
    refine Ev_aload_n dX6_addCells_39 1 rfl ?_
    refine Ev_getr 38 (40) dX6_addCells_40 f_RX6_15 rfl sh_38 rfl ?_
    refine Ev_iload_n dX6_addCells_43 4 rfl ?_
    obtain ⟨hb_14, h⟩ := h
    refine Ev_lald (40) dX6_addCells_44 rfl sh_40 hb_14 ?_
    refine Ev_invV (d' := 0) [(0, v8_12), (1, s_5 39 v3.toNat), (1, s_5 40 v3.toNat)] 1 dX6_addCells_45 M_X2_reaches q_643 (by decide) rfl rfl sh_1 rfl (Nat.le_of_ble_eq_true rfl) (k_X2_reaches_1 h) ?_
    rintro _ _ ⟨rfl, r_15, rfl, h⟩
    refine jc_3s (P := fun (v4_16 v5_17 v6_18 : Int) (s_19 : Sg) => Ev mX6_addCells 2 101 [(0, (2, 38)), (1, (2, 1)), (2, (2, 35)), (3, (0, v3)), (4, (0, v4_16)), (5, (0, v5_17)), (6, (0, v6_18)), (7, (0, v7_4))] [] s_19 (poV post)) h ?_ ?_
    · intro v4_16 v5_17 v6_18 s_19 h
      obtain ⟨v7_21, ev7_21⟩ : ∃ z : Int, z = w32 (v7_4 + 1) := ⟨_, rfl⟩
      replace h := h v7_21 ev7_21
      refine Ev_iinc (v := v7_21) dX6_addCells_101 7 rfl ev7_21.symm (by decide) rfl ?_
      refine Ev_goto (tgt := 12) dX6_addCells_104 (by decide) ?_
      refine Ev_sub [1, 2, 3, 4, 5, 6, 7, 0] rfl ?_
      exact hagain_6 _ _ _ _ _ h
    · intro K_20 hK_20 h
      refine Ev_if_ne (tgt := 54) dX6_addCells_48 (by decide) (fun hc => ?_) (fun hc => ?_)
      · replace h := h.1 hc
        refine Ev_iload dX6_addCells_54 7 rfl ?_
        refine Ev_iconst (v := -1) dX6_addCells_56 rfl ⟨by decide, by decide⟩ ?_
        refine jc_2s (P := fun (v4_22 v5_23 : Int) (s_24 : Sg) => Ev mX6_addCells 2 88 [(0, (2, 38)), (1, (2, 1)), (2, (2, 35)), (3, (0, v3)), (4, (0, v4_22)), (5, (0, v5_23)), (7, (0, v7_4)), (8, (0, v8_12))] [] s_24 (poV post)) h ?_ ?_
        · intro v4_22 v5_23 s_24 h
          refine Ev_iload dX6_addCells_88 5 rfl ?_
          refine Ev_iconst (v := 1) dX6_addCells_90 rfl ⟨by decide, by decide⟩ ?_
          refine Ev_iload dX6_addCells_91 7 rfl ?_
          refine Ev_ishl dX6_addCells_93 ?_
          refine Ev_ior dX6_addCells_94 ?_
          obtain ⟨v5_26, ev5_26⟩ : ∃ z : Int, z = ior v5_23 (ishl 1 v8_12) := ⟨_, rfl⟩
          replace h := h v5_26 ev5_26
          rw [← ev5_26]
          refine Ev_istore dX6_addCells_95 (by decide) rfl ?_
          refine Ev_iload dX6_addCells_97 7 rfl ?_
          refine Ev_istore dX6_addCells_99 (by decide) rfl ?_
          refine Ev_sub [2, 3, 4, 5, 6, 1, 0, 7] rfl ?_
          exact hK_20 _ _ _ _ h
        · intro K_25 hK_25 h
          refine Ev_icmp_eq (tgt := 88) dX6_addCells_57 (by decide) (fun hc => ?_) (fun hc => ?_)
          · replace h := h.1 hc
            refine Ev_sub [1, 2, 3, 4, 5, 6, 8, 0] rfl ?_
            exact hK_25 _ _ _ h
          · replace h := h.2 hc
            refine Ev_aload_n dX6_addCells_60 3 rfl ?_
            refine Ev_aload_n dX6_addCells_61 2 rfl ?_
            refine Ev_iload dX6_addCells_62 7 rfl ?_
            refine Ev_iload dX6_addCells_64 0 rfl ?_
            refine Ev_invV (d' := 1) [(2, 1), (0, v6_3), (0, v8_12)] 35 dX6_addCells_66 M_X7_compareTwo q_644 (by decide) rfl rfl sh_35 rfl (Nat.le_of_ble_eq_true rfl) (k_X7_compareTwo h) ?_
            rintro _ _ ⟨rfl, r_27, rfl, h⟩
            refine Ev_if_eq (tgt := 88) dX6_addCells_69 (by decide) (fun hc => ?_) (fun hc => ?_)
            · replace h := h.1 hc
              refine Ev_sub [1, 2, 3, 4, 5, 6, 8, 0] rfl ?_
              exact hK_25 _ _ _ h
            · replace h := h.2 hc
              refine Ev_aload_n dX6_addCells_72 1 rfl ?_
              refine Ev_iload_n dX6_addCells_73 4 rfl ?_
              refine Ev_iload dX6_addCells_74 5 rfl ?_
              refine Ev_iload dX6_addCells_76 6 rfl ?_
              refine Ev_invV (d' := 0) [(0, v3), (0, v4_1), (0, v5_2)] 38 dX6_addCells_78 M_X6_addCell q_634 (by decide) rfl rfl sh_38 rfl (Nat.le_of_ble_eq_true rfl) (k_X6_addCell h) ?_
              rintro _ s_28 ⟨rfl, h⟩
              refine Ev_iload dX6_addCells_81 6 rfl ?_
              refine Ev_istore dX6_addCells_83 (by decide) rfl ?_
              refine Ev_iconst (v := 0) dX6_addCells_85 rfl ⟨by decide, by decide⟩ ?_
              refine Ev_istore dX6_addCells_86 (by decide) rfl ?_
              refine Ev_sub [3, 4, 5, 6, 1, 0, 8, 2] rfl ?_
              exact hK_25 _ _ _ h
      · replace h := h.2 hc
        refine Ev_goto (tgt := 101) dX6_addCells_51 (by decide) ?_
        refine Ev_sub [1, 2, 3, 4, 5, 6, 7, 8] rfl ?_
        exact hK_20 _ _ _ _ h
theorem k_X6_cellAround {s : Sg} {v2 v3 v4 : Int} {post : Int → Prop} (h : w_X6_cellAround s v2 v3 v4 post) : EvM mX6_cellAround 1 [(2, 38), (2, 1), (0, v2), (0, v3), (0, v4)] s (poI 0 s post) := by
  refine EvM_of rfl (by decide +kernel) (Nat.le_of_ble_eq_true rfl) ?_
  unfold w_X6_cellAround at h
  show Ev mX6_cellAround 1 0 [(0, (2, 38)), (1, (2, 1)), (2, (0, v2)), (3, (0, v3)), (4, (0, v4))] [] s (poI 0 s post)
  refine Ev_iconst (v := 0) dX6_cellAround_0 rfl ⟨by decide, by decide⟩ ?_
  refine Ev_istore dX6_cellAround_1 (by decide) rfl ?_
  refine Ev_iconst (v := 0) dX6_cellAround_3 rfl ⟨by decide, by decide⟩ ?_
  refine Ev_istore dX6_cellAround_4 (by decide) rfl ?_
  refine Ev_sub [2, 3, 4, 5, 6, 1, 0] rfl ?_
  refine li_2 (P := fun (v5_1 v6_2 : Int) => Ev mX6_cellAround 1 6 [(0, (2, 38)), (1, (2, 1)), (2, (0, v2)), (3, (0, v3)), (4, (0, v4)), (5, (0, v5_1)), (6, (0, v6_2))] [] s (poI 0 s post)) ?_ h
  intro again_3 v5_1 v6_2 hagain_3 h
  refine Ev_iload dX6_cellAround_6 6 rfl ?_
  refine Ev_aload_n dX6_cellAround_8 0 rfl ?_
  refine Ev_geti 38 dX6_cellAround_9 f_RX6_39 rfl sh_38 ?_
  refine jc_0 (P := Ev mX6_cellAround 1 52 [(0, (2, 38)), (1, (2, 1)), (2, (0, v2)), (3, (0, v3)), (4, (0, v4)), (5, (0, v5_1))] [] s (poI 0 s post)) h ?_ ?_
  · intro  h
    refine Ev_aload_n dX6_cellAround_52 0 rfl ?_
    refine Ev_getr 38 (41) dX6_cellAround_53 f_RX6_18 rfl sh_38 rfl ?_
    refine Ev_iload dX6_cellAround_56 5 rfl ?_
    obtain ⟨hb_5, h⟩ := h
    refine Ev_iald (41) dX6_cellAround_58 rfl sh_41 hb_5 ?_
    obtain ⟨v6_6, ev6_6⟩ : ∃ z : Int, z = s 41 v5_1.toNat := ⟨_, rfl⟩
    replace h := h v6_6 ev6_6
    rw [← ev6_6]
    refine Ev_istore dX6_cellAround_59 (by decide) rfl ?_
    refine Ev_aload_n dX6_cellAround_61 1 rfl ?_
    refine Ev_getr 38 (41) dX6_cellAround_62 f_RX6_18 rfl sh_38 rfl ?_
    refine Ev_iload dX6_cellAround_65 6 rfl ?_
    obtain ⟨hb_7, h⟩ := h
    refine Ev_iald (41) dX6_cellAround_67 rfl sh_41 hb_7 ?_
    obtain ⟨v7_8, ev7_8⟩ : ∃ z : Int, z = s 41 v5_1.toNat := ⟨_, rfl⟩
    replace h := h v7_8 ev7_8
    rw [← ev7_8]
    refine Ev_istore dX6_cellAround_68 (by decide) rfl ?_
    refine Ev_sub [2, 3, 4, 5, 6, 7, 1, 0] rfl ?_
    refine li_2 (P := fun (v6_9 v7_10 : Int) => Ev mX6_cellAround 1 70 [(0, (2, 38)), (1, (2, 1)), (2, (0, v2)), (3, (0, v3)), (4, (0, v4)), (5, (0, v5_1)), (6, (0, v6_9)), (7, (0, v7_10))] [] s (poI 0 s post)) ?_ h
    intro again_11 v6_9 v7_10 hagain_11 h
    refine Ev_iload dX6_cellAround_70 7 rfl ?_
    refine Ev_iconst (v := 1) dX6_cellAround_72 rfl ⟨by decide, by decide⟩ ?_
    refine Ev_iadd dX6_cellAround_73 ?_
    refine Ev_aload_n dX6_cellAround_74 0 rfl ?_
    refine Ev_getr 38 (41) dX6_cellAround_75 f_RX6_18 rfl sh_38 rfl ?_
    refine Ev_iload dX6_cellAround_78 5 rfl ?_
    refine Ev_iconst (v := 1) dX6_cellAround_80 rfl ⟨by decide, by decide⟩ ?_
    refine Ev_iadd dX6_cellAround_81 ?_
    obtain ⟨hb_12, h⟩ := h
    refine Ev_iald (41) dX6_cellAround_82 rfl sh_41 hb_12 ?_
    refine jc_0 (P := Ev mX6_cellAround 1 143 [(6, (0, v6_9))] [] s (poI 0 s post)) h ?_ ?_
    · intro  h
      refine Ev_iload dX6_cellAround_143 0 rfl ?_
      exact Ev_ret dX6_cellAround_145 trivial (poI_mk h)
    · intro K_13 hK_13 h
      refine Ev_icmp_ge (tgt := 143) dX6_cellAround_83 (by decide) (fun hc => ?_) (fun hc => ?_)
      · replace h := h.1 hc
        refine Ev_sub [6] rfl ?_
        exact hK_13 h
      · replace h := h.2 hc
        refine Ev_aload_n dX6_cellAround_86 0 rfl ?_
        refine Ev_getr 38 (44) dX6_cellAround_87 f_RX6_28 rfl sh_38 rfl ?_
        refine Ev_iload dX6_cellAround_90 7 rfl ?_
        obtain ⟨hb_14, h⟩ := h
        refine Ev_iald (44) dX6_cellAround_92 rfl sh_44 hb_14 ?_
        refine Ev_invS (d' := 0) [(0, s 44 v7_10.toNat)] dX6_cellAround_93 M_X9_leastOf (Or.inr ⟨_, q_740⟩) (by decide) rfl (Nat.le_of_ble_eq_true rfl) (k_X9_leastOf h) ?_
        rintro _ _ ⟨rfl, r_15, rfl, h⟩
        refine Ev_istore dX6_cellAround_96 (by decide) rfl ?_
        refine Ev_iload dX6_cellAround_98 0 rfl ?_
        refine Ev_iconst (v := -1) dX6_cellAround_100 rfl ⟨by decide, by decide⟩ ?_
        refine Ev_icmp_eq (tgt := 143) dX6_cellAround_101 (by decide) (fun hc => ?_) (fun hc => ?_)
        · replace h := h.1 hc
          refine Ev_sub [7] rfl ?_
          exact hK_13 h
        · replace h := h.2 hc
          refine Ev_aload_n dX6_cellAround_104 2 rfl ?_
          refine Ev_iload dX6_cellAround_105 0 rfl ?_
          refine Ev_iload_n dX6_cellAround_107 3 rfl ?_
          refine Ev_i2l dX6_cellAround_108 ?_
          refine Ev_iload dX6_cellAround_109 5 rfl ?_
          refine Ev_i2l dX6_cellAround_111 ?_
          refine Ev_invV (d' := 0) [(0, r_15), (1, v2), (1, v4)] 1 dX6_cellAround_112 M_X2_height q_741 (by decide) rfl rfl sh_1 rfl (Nat.le_of_ble_eq_true rfl) (k_X2_height h) ?_
          rintro _ _ ⟨rfl, r_16, rfl, h⟩
          refine Ev_iload_n dX6_cellAround_115 4 rfl ?_
          refine Ev_i2l dX6_cellAround_116 ?_
          refine Ev_aload_n dX6_cellAround_117 2 rfl ?_
          refine Ev_iload dX6_cellAround_118 0 rfl ?_
          refine Ev_invV (d' := 0) [(0, r_15)] 1 dX6_cellAround_120 M_X2_run q_742 (by decide) rfl rfl sh_1 rfl (Nat.le_of_ble_eq_true rfl) (k_X2_run_1 h) ?_
          rintro _ _ ⟨rfl, r_17, rfl, h⟩
          refine Ev_lmul dX6_cellAround_123 ?_
          refine Ev_lcmp dX6_cellAround_124 ?_
          refine Ev_if_le (tgt := 131) dX6_cellAround_125 (by decide) (fun hc => ?_) (fun hc => ?_)
          · replace h := h.1 (lcmp_le.mp hc)
            refine Ev_iload dX6_cellAround_131 8 rfl ?_
            refine Ev_iconst (v := 1) dX6_cellAround_133 rfl ⟨by decide, by decide⟩ ?_
            refine Ev_iadd dX6_cellAround_134 ?_
            obtain ⟨v6_18, ev6_18⟩ : ∃ z : Int, z = w32 (v7_10 + 1) := ⟨_, rfl⟩
            replace h := h v6_18 ev6_18
            rw [← ev6_18]
            refine Ev_istore dX6_cellAround_135 (by decide) rfl ?_
            obtain ⟨v7_19, ev7_19⟩ : ∃ z : Int, z = w32 (v7_10 + 1) := ⟨_, rfl⟩
            replace h := h v7_19 ev7_19
            refine Ev_iinc (v := v7_19) dX6_cellAround_137 8 rfl ev7_19.symm (by decide) rfl ?_
            refine Ev_goto (tgt := 70) dX6_cellAround_140 (by decide) ?_
            refine Ev_sub [3, 4, 5, 6, 7, 8, 1, 0] rfl ?_
            exact hagain_11 _ _ h
          · replace h := h.2 (fun q => hc (lcmp_le.mpr q))
            refine Ev_goto (tgt := 143) dX6_cellAround_128 (by decide) ?_
            refine Ev_sub [7] rfl ?_
            exact hK_13 h
  · intro K_4 hK_4 h
    refine Ev_icmp_ge (tgt := 52) dX6_cellAround_12 (by decide) (fun hc => ?_) (fun hc => ?_)
    · replace h := h.1 hc
      refine Ev_sub [0, 1, 2, 3, 4, 5] rfl ?_
      exact hK_4 h
    · replace h := h.2 hc
      refine Ev_aload_n dX6_cellAround_15 0 rfl ?_
      refine Ev_getr 38 (39) dX6_cellAround_16 f_RX6_9 rfl sh_38 rfl ?_
      refine Ev_iload dX6_cellAround_19 6 rfl ?_
      obtain ⟨hb_20, h⟩ := h
      refine Ev_lald (39) dX6_cellAround_21 rfl sh_39 hb_20 ?_
      refine Ev_iload dX6_cellAround_22 4 rfl ?_
      refine Ev_i2l dX6_cellAround_24 ?_
      refine Ev_lmul dX6_cellAround_25 ?_
      refine Ev_iload_n dX6_cellAround_26 2 rfl ?_
      refine Ev_i2l dX6_cellAround_27 ?_
      refine Ev_aload_n dX6_cellAround_28 0 rfl ?_
      refine Ev_getr 38 (40) dX6_cellAround_29 f_RX6_15 rfl sh_38 rfl ?_
      refine Ev_iload dX6_cellAround_32 6 rfl ?_
      obtain ⟨hb_21, h⟩ := h
      refine Ev_lald (40) dX6_cellAround_34 rfl sh_40 hb_21 ?_
      refine Ev_lmul dX6_cellAround_35 ?_
      refine Ev_lcmp dX6_cellAround_36 ?_
      refine Ev_if_gt (tgt := 52) dX6_cellAround_37 (by decide) (fun hc => ?_) (fun hc => ?_)
      · replace h := h.1 (lcmp_gt.mp hc)
        refine Ev_sub [0, 1, 2, 3, 4, 5] rfl ?_
        exact hK_4 h
      · replace h := h.2 (fun q => hc (lcmp_gt.mpr q))
        refine Ev_iload dX6_cellAround_40 6 rfl ?_
        refine Ev_iconst (v := 1) dX6_cellAround_42 rfl ⟨by decide, by decide⟩ ?_
        refine Ev_iadd dX6_cellAround_43 ?_
        obtain ⟨v5_22, ev5_22⟩ : ∃ z : Int, z = w32 (v6_2 + 1) := ⟨_, rfl⟩
        replace h := h v5_22 ev5_22
        rw [← ev5_22]
        refine Ev_istore dX6_cellAround_44 (by decide) rfl ?_
        obtain ⟨v6_23, ev6_23⟩ : ∃ z : Int, z = w32 (v6_2 + 1) := ⟨_, rfl⟩
        replace h := h v6_23 ev6_23
        refine Ev_iinc (v := v6_23) dX6_cellAround_46 6 rfl ev6_23.symm (by decide) rfl ?_
        refine Ev_goto (tgt := 6) dX6_cellAround_49 (by decide) ?_
        refine Ev_sub [2, 3, 4, 5, 6, 1, 0] rfl ?_
        exact hagain_3 _ _ h
theorem k_X6_findXs {s : Sg} {post : Sg → Prop} (h : w_X6_findXs s post) : EvM mX6_findXs 1 [(2, 38), (2, 16)] s (poV post) := by
  refine EvM_of rfl (by decide +kernel) (Nat.le_of_ble_eq_true rfl) ?_
  unfold w_X6_findXs at h
  show Ev mX6_findXs 1 0 [(0, (2, 38)), (1, (2, 16))] [] s (poV post)
  refine Ev_aload_n dX6_findXs_0 0 rfl ?_
  refine Ev_iconst (v := 0) dX6_findXs_1 rfl ⟨by decide, by decide⟩ ?_
  obtain ⟨s_1, es_1⟩ : ∃ z : Sg, z = (up s 38 0 0) := ⟨_, rfl⟩
  replace h := h s_1 es_1
  refine Ev_puti 38 dX6_findXs_2 fp_RX6_39 rfl sh_38 ?_
  rw [← es_1]
  refine Ev_iconst (v := 0) dX6_findXs_5 rfl ⟨by decide, by decide⟩ ?_
  refine Ev_istore_n dX6_findXs_6 (by decide) rfl ?_
  refine Ev_sub [1, 2, 0] rfl ?_
  refine li_1s (P := fun (v2_2 : Int) (s_3 : Sg) => Ev mX6_findXs 1 7 [(0, (2, 38)), (1, (2, 16)), (2, (0, v2_2))] [] s_3 (poV post)) ?_ h
  intro again_4 v2_2 s_3 hagain_4 h
  refine Ev_iload_n dX6_findXs_7 2 rfl ?_
  refine Ev_aload_n dX6_findXs_8 1 rfl ?_
  refine Ev_geti 16 dX6_findXs_9 f_RX6_56 rfl sh_16 ?_
  refine Ev_icmp_ge (tgt := 127) dX6_findXs_12 (by decide) (fun hc => ?_) (fun hc => ?_)
  · replace h := h.1 hc
    exact Ev_retv dX6_findXs_127 rfl (poV_mk h)
  · replace h := h.2 hc
    refine Ev_aload_n dX6_findXs_15 0 rfl ?_
    refine Ev_geti 38 dX6_findXs_16 f_RX6_39 rfl sh_38 ?_
    refine jc_1 (P := fun (t_5 : Int) => Ev mX6_findXs 1 67 [(0, (2, 38)), (1, (2, 16)), (2, (0, v2_2))] [(0, t_5)] s_3 (poV post)) h ?_ ?_
    · intro t_5 h
      refine Ev_istore_n dX6_findXs_67 (by decide) rfl ?_
      refine Ev_iload_n dX6_findXs_68 0 rfl ?_
      refine jc_0s (P := fun (s_7 : Sg) => Ev mX6_findXs 1 121 [(0, (2, 38)), (1, (2, 16)), (2, (0, v2_2))] [] s_7 (poV post)) h ?_ ?_
      · intro s_7 h
        obtain ⟨v2_9, ev2_9⟩ : ∃ z : Int, z = w32 (v2_2 + 1) := ⟨_, rfl⟩
        replace h := h v2_9 ev2_9
        refine Ev_iinc (v := v2_9) dX6_findXs_121 2 rfl ev2_9.symm (by decide) rfl ?_
        refine Ev_goto (tgt := 7) dX6_findXs_124 (by decide) ?_
        refine Ev_sub [1, 2, 0] rfl ?_
        exact hagain_4 _ _ h
      · intro K_8 hK_8 h
        refine Ev_if_eq (tgt := 121) dX6_findXs_69 (by decide) (fun hc => ?_) (fun hc => ?_)
        · replace h := h.1 hc
          refine Ev_sub [1, 2, 3] rfl ?_
          exact hK_8 _ h
        · replace h := h.2 hc
          refine Ev_aload_n dX6_findXs_72 1 rfl ?_
          refine Ev_geti 38 dX6_findXs_73 f_RX6_39 rfl sh_38 ?_
          refine Ev_bipush (v := 65) dX6_findXs_76 (by decide +kernel) ?_
          refine Ev_icmp_ge (tgt := 121) dX6_findXs_78 (by decide) (fun hc => ?_) (fun hc => ?_)
          · replace h := h.1 hc
            refine Ev_sub [1, 2, 3] rfl ?_
            exact hK_8 _ h
          · replace h := h.2 hc
            refine Ev_aload_n dX6_findXs_81 1 rfl ?_
            refine Ev_getr 38 (39) dX6_findXs_82 f_RX6_9 rfl sh_38 rfl ?_
            refine Ev_aload_n dX6_findXs_85 1 rfl ?_
            refine Ev_geti 38 dX6_findXs_86 f_RX6_39 rfl sh_38 ?_
            refine Ev_aload_n dX6_findXs_89 2 rfl ?_
            refine Ev_getr 16 (17) dX6_findXs_90 f_RX6_61 rfl sh_16 rfl ?_
            refine Ev_iload_n dX6_findXs_93 3 rfl ?_
            obtain ⟨hb_10, h⟩ := h
            refine Ev_lald (17) dX6_findXs_94 rfl sh_17 hb_10 ?_
            obtain ⟨hb_11, h⟩ := h
            obtain ⟨s_12, es_12⟩ : ∃ z : Sg, z = (up s_3 39 ((s_3 38 0).toNat) (s_3 17 v2_2.toNat)) := ⟨_, rfl⟩
            replace h := h s_12 es_12
            refine Ev_last (39) dX6_findXs_95 rfl sh_39 hb_11 ?_
            rw [← es_12]
            refine Ev_aload_n dX6_findXs_96 1 rfl ?_
            refine Ev_getr 38 (40) dX6_findXs_97 f_RX6_15 rfl sh_38 rfl ?_
            refine Ev_aload_n dX6_findXs_100 1 rfl ?_
            refine Ev_geti 38 dX6_findXs_101 f_RX6_39 rfl sh_38 ?_
            refine Ev_aload_n dX6_findXs_104 2 rfl ?_
            refine Ev_getr 16 (18) dX6_findXs_105 f_RX6_62 rfl sh_16 rfl ?_
            refine Ev_iload_n dX6_findXs_108 3 rfl ?_
            obtain ⟨hb_13, h⟩ := h
            refine Ev_lald (18) dX6_findXs_109 rfl sh_18 hb_13 ?_
            obtain ⟨hb_14, h⟩ := h
            obtain ⟨s_15, es_15⟩ : ∃ z : Sg, z = (up s_12 40 ((s_12 38 0).toNat) (s_12 18 v2_2.toNat)) := ⟨_, rfl⟩
            replace h := h s_15 es_15
            refine Ev_last (40) dX6_findXs_110 rfl sh_40 hb_14 ?_
            rw [← es_15]
            refine Ev_aload_n dX6_findXs_111 1 rfl ?_
            refine Ev_dup dX6_findXs_112 (show ¬ (2 : Nat) = 1 by decide) ?_
            refine Ev_geti 38 dX6_findXs_113 f_RX6_39 rfl sh_38 ?_
            refine Ev_iconst (v := 1) dX6_findXs_116 rfl ⟨by decide, by decide⟩ ?_
            refine Ev_iadd dX6_findXs_117 ?_
            obtain ⟨s_16, es_16⟩ : ∃ z : Sg, z = (up s_15 38 0 (w32 ((s_15 38 0) + 1))) := ⟨_, rfl⟩
            replace h := h s_16 es_16
            refine Ev_puti 38 dX6_findXs_118 fp_RX6_39 rfl sh_38 ?_
            rw [← es_16]
            refine Ev_sub [1, 2, 3] rfl ?_
            exact hK_8 _ h
    · intro K_6 hK_6 h
      refine jc_0 (P := Ev mX6_findXs 1 62 [(0, (2, 38)), (1, (2, 16)), (2, (0, v2_2))] [] s_3 (poV post)) h ?_ ?_
      · intro  h
        refine Ev_iconst (v := 1) dX6_findXs_62 rfl ⟨by decide, by decide⟩ ?_
        refine Ev_goto (tgt := 67) dX6_findXs_63 (by decide) ?_
        exact hK_6 _ h
      · intro K_17 hK_17 h
        refine Ev_if_eq (tgt := 62) dX6_findXs_19 (by decide) (fun hc => ?_) (fun hc => ?_)
        · replace h := h.1 hc
          exact hK_17 h
        · replace h := h.2 hc
          refine Ev_aload_n dX6_findXs_22 0 rfl ?_
          refine Ev_getr 38 (39) dX6_findXs_23 f_RX6_9 rfl sh_38 rfl ?_
          refine Ev_aload_n dX6_findXs_26 0 rfl ?_
          refine Ev_geti 38 dX6_findXs_27 f_RX6_39 rfl sh_38 ?_
          refine Ev_iconst (v := 1) dX6_findXs_30 rfl ⟨by decide, by decide⟩ ?_
          refine Ev_isub dX6_findXs_31 ?_
          obtain ⟨hb_18, h⟩ := h
          refine Ev_lald (39) dX6_findXs_32 rfl sh_39 hb_18 ?_
          refine Ev_aload_n dX6_findXs_33 0 rfl ?_
          refine Ev_getr 38 (40) dX6_findXs_34 f_RX6_15 rfl sh_38 rfl ?_
          refine Ev_aload_n dX6_findXs_37 0 rfl ?_
          refine Ev_geti 38 dX6_findXs_38 f_RX6_39 rfl sh_38 ?_
          refine Ev_iconst (v := 1) dX6_findXs_41 rfl ⟨by decide, by decide⟩ ?_
          refine Ev_isub dX6_findXs_42 ?_
          obtain ⟨hb_19, h⟩ := h
          refine Ev_lald (40) dX6_findXs_43 rfl sh_40 hb_19 ?_
          refine Ev_aload_n dX6_findXs_44 1 rfl ?_
          refine Ev_getr 16 (17) dX6_findXs_45 f_RX6_61 rfl sh_16 rfl ?_
          refine Ev_iload_n dX6_findXs_48 2 rfl ?_
          obtain ⟨hb_20, h⟩ := h
          refine Ev_lald (17) dX6_findXs_49 rfl sh_17 hb_20 ?_
          refine Ev_aload_n dX6_findXs_50 1 rfl ?_
          refine Ev_getr 16 (18) dX6_findXs_51 f_RX6_62 rfl sh_16 rfl ?_
          refine Ev_iload_n dX6_findXs_54 2 rfl ?_
          obtain ⟨hb_21, h⟩ := h
          refine Ev_lald (18) dX6_findXs_55 rfl sh_18 hb_21 ?_
          refine Ev_invS (d' := 0) [(1, s_3 39 (w32 ((s_3 38 0) - 1)).toNat), (1, s_3 40 (w32 ((s_3 38 0) - 1)).toNat), (1, s_3 17 v2_2.toNat), (1, s_3 18 v2_2.toNat)] dX6_findXs_56 M_X9_compareFractions (Or.inr ⟨_, q_633⟩) (by decide) rfl (Nat.le_of_ble_eq_true rfl) (k_X9_compareFractions h) ?_
          rintro _ _ ⟨rfl, r_22, rfl, h⟩
          refine Ev_if_eq (tgt := 66) dX6_findXs_59 (by decide) (fun hc => ?_) (fun hc => ?_)
          · replace h := h.1 hc
            refine Ev_iconst (v := 0) dX6_findXs_66 rfl ⟨by decide, by decide⟩ ?_
            exact hK_6 _ h
          · replace h := h.2 hc
            exact hK_17 h
