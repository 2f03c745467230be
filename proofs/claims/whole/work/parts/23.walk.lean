theorem k_X10_nextTo {s : Sg} {v1 : Int} {post : Int → Sg → Prop} (h : w_X10_nextTo s v1 post) : EvM mX10_nextTo 4 [(2, 68), (0, v1)] s (poIs 0 post) := by
  refine EvM_of rfl (by decide +kernel) (Nat.le_of_ble_eq_true rfl) ?_
  unfold w_X10_nextTo at h
  show Ev mX10_nextTo 4 0 [(0, (2, 68)), (1, (0, v1))] [] s (poIs 0 post)
  refine Ev_aload_n dX10_nextTo_0 0 rfl ?_
  refine Ev_invV (d' := 3) [] 68 dX10_nextTo_1 M_X10_tellNext q_1264 (by decide) rfl rfl sh_68 rfl (Nat.le_of_ble_eq_true rfl) (k_X10_tellNext h) ?_
  rintro _ s_1 ⟨rfl, h⟩
  refine Ev_iconst (v := 0) dX10_nextTo_4 rfl ⟨by decide, by decide⟩ ?_
  refine Ev_istore_n dX10_nextTo_5 (by decide) rfl ?_
  refine Ev_iconst (v := 0) dX10_nextTo_6 rfl ⟨by decide, by decide⟩ ?_
  refine Ev_istore_n dX10_nextTo_7 (by decide) rfl ?_
  refine Ev_sub [2, 3, 1, 0] rfl ?_
  refine li_2 (P := fun (v2_2 v3_3 : Int) => Ev mX10_nextTo 4 8 [(0, (2, 68)), (1, (0, v1)), (2, (0, v2_2)), (3, (0, v3_3))] [] s_1 (poIs 0 post)) ?_ h
  intro again_4 v2_2 v3_3 hagain_4 h
  refine Ev_iload_n dX10_nextTo_8 3 rfl ?_
  refine Ev_aload_n dX10_nextTo_9 0 rfl ?_
  refine Ev_geti 68 dX10_nextTo_10 f_RX10_324 rfl sh_68 ?_
  refine Ev_icmp_ge (tgt := 36) dX10_nextTo_13 (by decide) (fun hc => ?_) (fun hc => ?_)
  · replace h := h.1 hc
    refine Ev_iload_n dX10_nextTo_36 2 rfl ?_
    exact Ev_ret dX10_nextTo_37 trivial (poIs_mk h)
  · replace h := h.2 hc
    refine Ev_aload_n dX10_nextTo_16 0 rfl ?_
    refine Ev_getr 68 (92) dX10_nextTo_17 f_RX10_83 rfl sh_68 rfl ?_
    refine Ev_iload_n dX10_nextTo_20 1 rfl ?_
    obtain ⟨hb_5, h⟩ := h
    refine Ev_aaldz 92 (((93 + v1.toNat : Nat) : Int)) dX10_nextTo_21 rfl sh_92 hb_5 (rr_92 hb_5).symm ?_
    refine Ev_iload_n dX10_nextTo_22 3 rfl ?_
    obtain ⟨hb_6, h⟩ := h
    refine Ev_zald (93 + v1.toNat) dX10_nextTo_23 rfl (sr_92 hb_5) hb_6 ?_
    refine jc_1 (P := fun (v2_7 : Int) => Ev mX10_nextTo 4 30 [(0, (2, 68)), (1, (0, v1)), (2, (0, v2_7)), (3, (0, v3_3))] [] s_1 (poIs 0 post)) h ?_ ?_
    · intro v2_7 h
      obtain ⟨v3_9, ev3_9⟩ : ∃ z : Int, z = w32 (v3_3 + 1) := ⟨_, rfl⟩
      replace h := h v3_9 ev3_9
      refine Ev_iinc (v := v3_9) dX10_nextTo_30 3 rfl ev3_9.symm (by decide) rfl ?_
      refine Ev_goto (tgt := 8) dX10_nextTo_33 (by decide) ?_
      refine Ev_sub [1, 2, 3, 0] rfl ?_
      exact hagain_4 _ _ h
    · intro K_8 hK_8 h
      refine Ev_if_eq (tgt := 30) dX10_nextTo_24 (by decide) (fun hc => ?_) (fun hc => ?_)
      · replace h := h.1 hc
        exact hK_8 _ h
      · replace h := h.2 hc
        obtain ⟨v2_10, ev2_10⟩ : ∃ z : Int, z = w32 (v2_2 + 1) := ⟨_, rfl⟩
        replace h := h v2_10 ev2_10
        refine Ev_iinc (v := v2_10) dX10_nextTo_27 2 rfl ev2_10.symm (by decide) rfl ?_
        refine Ev_sub [1, 2, 0, 3] rfl ?_
        exact hK_8 _ h
theorem k_X10_face {s : Sg} {v1 v2 : Int} {post : Int → Sg → Prop} (h : w_X10_face s v1 v2 post) : EvM mX10_face 105 [(2, 68), (0, v1), (0, v2)] s (poIs 0 post) := by
  refine EvM_of rfl (by decide +kernel) (Nat.le_of_ble_eq_true rfl) ?_
  unfold w_X10_face at h
  show Ev mX10_face 105 0 [(0, (2, 68)), (1, (0, v1)), (2, (0, v2))] [] s (poIs 0 post)
  refine Ev_iload_n dX10_face_0 2 rfl ?_
  refine Ev_iconst (v := 0) dX10_face_1 rfl ⟨by decide, by decide⟩ ?_
  refine Ev_iconst (v := 4) dX10_face_2 rfl ⟨by decide, by decide⟩ ?_
  refine Ev_invS (d' := 0) [(0, v2), (0, 0), (0, 4)] dX10_face_3 M_X10_in (Or.inl q_1039) (by decide) rfl (Nat.le_of_ble_eq_true rfl) (k_X10_in h) ?_
  rintro _ _ ⟨rfl, r_1, rfl, h⟩
  refine Ev_if_ne (tgt := 12) dX10_face_6 (by decide) (fun hc => ?_) (fun hc => ?_)
  · replace h := h.1 hc
    refine Ev_aload_n dX10_face_12 0 rfl ?_
    refine Ev_invV (d' := 104) [] 68 dX10_face_13 M_X10_tellSheet q_1191 (by decide) rfl rfl sh_68 rfl (Nat.le_of_ble_eq_true rfl) (k_X10_tellSheet h) ?_
    rintro _ s_2 ⟨rfl, h⟩
    refine Ev_iload_n dX10_face_16 1 rfl ?_
    refine Ev_iconst (v := 0) dX10_face_17 rfl ⟨by decide, by decide⟩ ?_
    refine Ev_aload_n dX10_face_18 0 rfl ?_
    refine Ev_geti 68 dX10_face_19 f_RX10_324 rfl sh_68 ?_
    refine Ev_iconst (v := 1) dX10_face_22 rfl ⟨by decide, by decide⟩ ?_
    refine Ev_isub dX10_face_23 ?_
    refine Ev_invS (d' := 0) [(0, v1), (0, 0), (0, w32 ((s_2 68 24) - 1))] dX10_face_24 M_X10_in (Or.inl q_1039) (by decide) rfl (Nat.le_of_ble_eq_true rfl) (k_X10_in h) ?_
    rintro _ _ ⟨rfl, r_3, rfl, h⟩
    refine Ev_if_ne (tgt := 33) dX10_face_27 (by decide) (fun hc => ?_) (fun hc => ?_)
    · replace h := h.1 hc
      refine Ev_iconst (v := 0) dX10_face_33 rfl ⟨by decide, by decide⟩ ?_
      refine Ev_istore_n dX10_face_34 (by decide) rfl ?_
      refine Ev_iconst (v := 0) dX10_face_35 rfl ⟨by decide, by decide⟩ ?_
      refine Ev_istore dX10_face_36 (by decide) rfl ?_
      refine Ev_sub [2, 3, 4, 1, 0] rfl ?_
      refine li_2 (P := fun (v3_4 v4_5 : Int) => Ev mX10_face 105 38 [(0, (2, 68)), (1, (0, v1)), (2, (0, v2)), (3, (0, v3_4)), (4, (0, v4_5))] [] s_2 (poIs 0 post)) ?_ h
      intro again_6 v3_4 v4_5 hagain_6 h
      refine Ev_iload dX10_face_38 4 rfl ?_
      refine Ev_aload_n dX10_face_40 0 rfl ?_
      refine Ev_geti 68 dX10_face_41 f_RX10_267 rfl sh_68 ?_
      refine Ev_icmp_ge (tgt := 67) dX10_face_44 (by decide) (fun hc => ?_) (fun hc => ?_)
      · replace h := h.1 hc
        refine Ev_iload_n dX10_face_67 2 rfl ?_
        refine jc_1s (P := fun (t_7 : Int) (s_8 : Sg) => Ev mX10_face 105 130 [] [(0, t_7)] s_8 (poIs 0 post)) h ?_ ?_
        · intro t_7 s_8 h
          exact Ev_ret dX10_face_130 trivial (poIs_mk h)
        · intro K_9 hK_9 h
          refine Ev_if_ne (tgt := 80) dX10_face_68 (by decide) (fun hc => ?_) (fun hc => ?_)
          · replace h := h.1 hc
            refine Ev_iload_n dX10_face_80 2 rfl ?_
            refine Ev_iconst (v := 1) dX10_face_81 rfl ⟨by decide, by decide⟩ ?_
            refine Ev_icmp_ne (tgt := 89) dX10_face_82 (by decide) (fun hc => ?_) (fun hc => ?_)
            · replace h := h.1 hc
              refine Ev_iload_n dX10_face_89 2 rfl ?_
              refine Ev_iconst (v := 2) dX10_face_90 rfl ⟨by decide, by decide⟩ ?_
              refine Ev_icmp_ne (tgt := 102) dX10_face_91 (by decide) (fun hc => ?_) (fun hc => ?_)
              · replace h := h.1 hc
                refine Ev_iload_n dX10_face_102 2 rfl ?_
                refine Ev_iconst (v := 3) dX10_face_103 rfl ⟨by decide, by decide⟩ ?_
                refine Ev_icmp_ne (tgt := 115) dX10_face_104 (by decide) (fun hc => ?_) (fun hc => ?_)
                · replace h := h.1 hc
                  refine Ev_aload_n dX10_face_115 0 rfl ?_
                  refine Ev_getr 68 (89) dX10_face_116 f_RX10_72 rfl sh_68 rfl ?_
                  refine Ev_iconst (v := 0) dX10_face_119 rfl ⟨by decide, by decide⟩ ?_
                  obtain ⟨hb_10, h⟩ := h
                  refine Ev_iald (89) dX10_face_120 rfl sh_89 hb_10 ?_
                  refine Ev_iload_n dX10_face_121 1 rfl ?_
                  refine Ev_icmp_ne (tgt := 129) dX10_face_122 (by decide) (fun hc => ?_) (fun hc => ?_)
                  · replace h := h.1 hc
                    refine Ev_iconst (v := 0) dX10_face_129 rfl ⟨by decide, by decide⟩ ?_
                    refine Ev_sub [] rfl ?_
                    exact hK_9 _ _ h
                  · replace h := h.2 hc
                    refine Ev_iconst (v := 1) dX10_face_125 rfl ⟨by decide, by decide⟩ ?_
                    refine Ev_goto (tgt := 130) dX10_face_126 (by decide) ?_
                    refine Ev_sub [] rfl ?_
                    exact hK_9 _ _ h
                · replace h := h.2 hc
                  refine Ev_aload_n dX10_face_107 0 rfl ?_
                  refine Ev_iload_n dX10_face_108 1 rfl ?_
                  refine Ev_invV (d' := 4) [(0, v1)] 68 dX10_face_109 M_X10_nextTo q_1260 (by decide) rfl rfl sh_68 rfl (Nat.le_of_ble_eq_true rfl) (k_X10_nextTo h) ?_
                  rintro _ s_12 ⟨r_11, rfl, h⟩
                  refine Ev_goto (tgt := 130) dX10_face_112 (by decide) ?_
                  refine Ev_sub [] rfl ?_
                  exact hK_9 _ _ h
              · replace h := h.2 hc
                refine Ev_aload_n dX10_face_94 0 rfl ?_
                refine Ev_iload_n dX10_face_95 1 rfl ?_
                refine Ev_invV (d' := 4) [(0, v1)] 68 dX10_face_96 M_X10_borders q_1248 (by decide) rfl rfl sh_68 rfl (Nat.le_of_ble_eq_true rfl) (k_X10_borders h) ?_
                rintro _ s_14 ⟨r_13, rfl, h⟩
                refine Ev_goto (tgt := 130) dX10_face_99 (by decide) ?_
                refine Ev_sub [] rfl ?_
                exact hK_9 _ _ h
            · replace h := h.2 hc
              refine Ev_iload_n dX10_face_85 3 rfl ?_
              refine Ev_goto (tgt := 130) dX10_face_86 (by decide) ?_
              refine Ev_sub [] rfl ?_
              exact hK_9 _ _ h
          · replace h := h.2 hc
            refine Ev_aload_n dX10_face_71 0 rfl ?_
            refine Ev_getr 68 (91) dX10_face_72 f_RX10_78 rfl sh_68 rfl ?_
            refine Ev_iload_n dX10_face_75 1 rfl ?_
            obtain ⟨hb_15, h⟩ := h
            refine Ev_iald (91) dX10_face_76 rfl sh_91 hb_15 ?_
            refine Ev_goto (tgt := 130) dX10_face_77 (by decide) ?_
            refine Ev_sub [] rfl ?_
            exact hK_9 _ _ h
      · replace h := h.2 hc
        refine Ev_aload_n dX10_face_47 0 rfl ?_
        refine Ev_getr 68 (89) dX10_face_48 f_RX10_72 rfl sh_68 rfl ?_
        refine Ev_iload dX10_face_51 4 rfl ?_
        obtain ⟨hb_16, h⟩ := h
        refine Ev_iald (89) dX10_face_53 rfl sh_89 hb_16 ?_
        refine Ev_iload_n dX10_face_54 1 rfl ?_
        refine jc_1 (P := fun (v3_17 : Int) => Ev mX10_face 105 61 [(0, (2, 68)), (1, (0, v1)), (2, (0, v2)), (3, (0, v3_17)), (4, (0, v4_5))] [] s_2 (poIs 0 post)) h ?_ ?_
        · intro v3_17 h
          obtain ⟨v4_19, ev4_19⟩ : ∃ z : Int, z = w32 (v4_5 + 1) := ⟨_, rfl⟩
          replace h := h v4_19 ev4_19
          refine Ev_iinc (v := v4_19) dX10_face_61 4 rfl ev4_19.symm (by decide) rfl ?_
          refine Ev_goto (tgt := 38) dX10_face_64 (by decide) ?_
          refine Ev_sub [1, 2, 3, 4, 0] rfl ?_
          exact hagain_6 _ _ h
        · intro K_18 hK_18 h
          refine Ev_icmp_ne (tgt := 61) dX10_face_55 (by decide) (fun hc => ?_) (fun hc => ?_)
          · replace h := h.1 hc
            exact hK_18 _ h
          · replace h := h.2 hc
            obtain ⟨v3_20, ev3_20⟩ : ∃ z : Int, z = w32 (v3_4 + 1) := ⟨_, rfl⟩
            replace h := h v3_20 ev3_20
            refine Ev_iinc (v := v3_20) dX10_face_58 3 rfl ev3_20.symm (by decide) rfl ?_
            refine Ev_sub [1, 2, 3, 0, 4] rfl ?_
            exact hK_18 _ h
    · replace h := h.2 hc
      refine Ev_bipush (v := -12) dX10_face_30 (by decide +kernel) ?_
      exact Ev_ret dX10_face_32 trivial (poIs_mk h)
  · replace h := h.2 hc
    refine Ev_bipush (v := -2) dX10_face_9 (by decide +kernel) ?_
    exact Ev_ret dX10_face_11 trivial (poIs_mk h)
theorem k_X10_facesWithout {s : Sg} {v1 : Int} {post : Int → Sg → Prop} (h : w_X10_facesWithout s v1 post) : EvM mX10_facesWithout 106 [(2, 68), (0, v1)] s (poIs 0 post) := by
  refine EvM_of rfl (by decide +kernel) (Nat.le_of_ble_eq_true rfl) ?_
  unfold w_X10_facesWithout at h
  show Ev mX10_facesWithout 106 0 [(0, (2, 68)), (1, (0, v1))] [] s (poIs 0 post)
  refine Ev_aload_n dX10_facesWithout_0 0 rfl ?_
  refine Ev_iconst (v := 0) dX10_facesWithout_1 rfl ⟨by decide, by decide⟩ ?_
  refine Ev_invV (d' := 2) [(0, 0)] 68 dX10_facesWithout_2 M_X10_keep q_1307 (by decide) rfl rfl sh_68 rfl (Nat.le_of_ble_eq_true rfl) (k_X10_keep h) ?_
  rintro _ s_1 ⟨rfl, h⟩
  refine Ev_aload_n dX10_facesWithout_5 0 rfl ?_
  refine Ev_iload_n dX10_facesWithout_6 1 rfl ?_
  refine Ev_invV (d' := 1) [(0, v1)] 68 dX10_facesWithout_7 M_X10_drops q_1054 (by decide) rfl rfl sh_68 rfl (Nat.le_of_ble_eq_true rfl) (k_X10_drops h) ?_
  rintro _ s_2 ⟨rfl, h⟩
  refine Ev_aload_n dX10_facesWithout_10 0 rfl ?_
  refine Ev_invV (d' := 105) [] 68 dX10_facesWithout_11 M_X10_facesNow q_1316 (by decide) rfl rfl sh_68 rfl (Nat.le_of_ble_eq_true rfl) (k_X10_facesNow h) ?_
  rintro _ s_4 ⟨r_3, rfl, h⟩
  refine Ev_istore_n dX10_facesWithout_14 (by decide) rfl ?_
  refine Ev_aload_n dX10_facesWithout_15 1 rfl ?_
  refine Ev_iconst (v := 0) dX10_facesWithout_16 rfl ⟨by decide, by decide⟩ ?_
  refine Ev_invV (d' := 2) [(0, 0)] 68 dX10_facesWithout_17 M_X10_layBack q_1320 (by decide) rfl rfl sh_68 rfl (Nat.le_of_ble_eq_true rfl) (k_X10_layBack h) ?_
  rintro _ s_5 ⟨rfl, h⟩
  refine Ev_iload_n dX10_facesWithout_20 0 rfl ?_
  exact Ev_ret dX10_facesWithout_21 trivial (poIs_mk h)
theorem k_X10_isThere {s : Sg} {v1 v2 v4 : Int} {post : Int → Prop} (h : w_X10_isThere s v1 v2 v4 post) : EvM mX10_isThere 1 [(2, 68), (0, v1), (1, v2), (1, v4)] s (poI 0 s post) := by
  refine EvM_of rfl (by decide +kernel) (Nat.le_of_ble_eq_true rfl) ?_
  unfold w_X10_isThere at h
  show Ev mX10_isThere 1 0 [(0, (2, 68)), (1, (0, v1)), (2, (1, v2)), (4, (1, v4))] [] s (poI 0 s post)
  refine Ev_aload_n dX10_isThere_0 0 rfl ?_
  refine Ev_iload_n dX10_isThere_1 1 rfl ?_
  refine Ev_invV (d' := 0) [(0, v1)] 68 dX10_isThere_2 M_X10_isUpright q_1139 (by decide) rfl rfl sh_68 rfl (Nat.le_of_ble_eq_true rfl) (k_X10_isUpright h) ?_
  rintro _ _ ⟨rfl, r_1, rfl, h⟩
  refine jc_1 (P := fun (t_2 : Int) => Ev mX10_isThere 1 43 [] [(0, t_2)] s (poI 0 s post)) h ?_ ?_
  · intro t_2 h
    obtain ⟨hz, h⟩ := h
    exact Ev_ret dX10_isThere_43 hz (poI_mk h)
  · intro K_3 hK_3 h
    refine jc_0 (P := Ev mX10_isThere 1 42 [] [] s (poI 0 s post)) h ?_ ?_
    · intro  h
      refine Ev_iconst (v := 0) dX10_isThere_42 rfl ⟨by decide, by decide⟩ ?_
      exact hK_3 _ h
    · intro K_4 hK_4 h
      refine Ev_if_ne (tgt := 42) dX10_isThere_5 (by decide) (fun hc => ?_) (fun hc => ?_)
      · replace h := h.1 hc
        refine Ev_sub [] rfl ?_
        exact hK_4 h
      · replace h := h.2 hc
        refine Ev_aload_n dX10_isThere_8 0 rfl ?_
        refine Ev_getr 68 (69) dX10_isThere_9 f_RX10_9 rfl sh_68 rfl ?_
        refine Ev_iload_n dX10_isThere_12 1 rfl ?_
        obtain ⟨hb_5, h⟩ := h
        refine Ev_iald (69) dX10_isThere_13 rfl sh_69 hb_5 ?_
        refine Ev_i2l dX10_isThere_14 ?_
        refine Ev_lload dX10_isThere_15 3 rfl ?_
        refine Ev_lmul dX10_isThere_17 ?_
        refine Ev_lload_n dX10_isThere_18 2 rfl ?_
        refine Ev_lcmp dX10_isThere_19 ?_
        refine Ev_if_gt (tgt := 42) dX10_isThere_20 (by decide) (fun hc => ?_) (fun hc => ?_)
        · replace h := h.1 (lcmp_gt.mp hc)
          refine Ev_sub [] rfl ?_
          exact hK_4 h
        · replace h := h.2 (fun q => hc (lcmp_gt.mpr q))
          refine Ev_lload_n dX10_isThere_23 2 rfl ?_
          refine Ev_aload_n dX10_isThere_24 0 rfl ?_
          refine Ev_getr 68 (71) dX10_isThere_25 f_RX10_16 rfl sh_68 rfl ?_
          refine Ev_iload_n dX10_isThere_28 1 rfl ?_
          obtain ⟨hb_6, h⟩ := h
          refine Ev_iald (71) dX10_isThere_29 rfl sh_71 hb_6 ?_
          refine Ev_i2l dX10_isThere_30 ?_
          refine Ev_lload dX10_isThere_31 3 rfl ?_
          refine Ev_lmul dX10_isThere_33 ?_
          refine Ev_lcmp dX10_isThere_34 ?_
          refine Ev_if_gt (tgt := 42) dX10_isThere_35 (by decide) (fun hc => ?_) (fun hc => ?_)
          · replace h := h.1 (lcmp_gt.mp hc)
            refine Ev_sub [] rfl ?_
            exact hK_4 h
          · replace h := h.2 (fun q => hc (lcmp_gt.mpr q))
            refine Ev_iconst (v := 1) dX10_isThere_38 rfl ⟨by decide, by decide⟩ ?_
            refine Ev_goto (tgt := 43) dX10_isThere_39 (by decide) ?_
            refine Ev_sub [] rfl ?_
            exact hK_3 _ h
theorem k_X10_isAhead {s : Sg} {v1 v2 v3 v5 : Int} {post : Int → Prop} (h : w_X10_isAhead s v1 v2 v3 v5 post) : EvM mX10_isAhead 1 [(2, 68), (0, v1), (0, v2), (1, v3), (1, v5)] s (poI 0 s post) := by
  refine EvM_of rfl (by decide +kernel) (Nat.le_of_ble_eq_true rfl) ?_
  unfold w_X10_isAhead at h
  show Ev mX10_isAhead 1 0 [(0, (2, 68)), (1, (0, v1)), (2, (0, v2)), (3, (1, v3)), (5, (1, v5))] [] s (poI 0 s post)
  refine Ev_aload_n dX10_isAhead_0 0 rfl ?_
  refine Ev_iload_n dX10_isAhead_1 1 rfl ?_
  refine Ev_lload_n dX10_isAhead_2 3 rfl ?_
  refine Ev_lload dX10_isAhead_3 4 rfl ?_
  refine Ev_invV (d' := 0) [(0, v1), (1, v3), (1, v5)] 68 dX10_isAhead_5 M_X10_yAbove q_1179 (by decide) rfl rfl sh_68 rfl (Nat.le_of_ble_eq_true rfl) (k_X10_yAbove h) ?_
  rintro _ _ ⟨rfl, r_1, rfl, h⟩
  refine Ev_aload_n dX10_isAhead_8 0 rfl ?_
  refine Ev_iload_n dX10_isAhead_9 1 rfl ?_
  refine Ev_lload dX10_isAhead_10 4 rfl ?_
  refine Ev_invV (d' := 0) [(0, v1), (1, v5)] 68 dX10_isAhead_12 M_X10_yBelow q_1183 (by decide) rfl rfl sh_68 rfl (Nat.le_of_ble_eq_true rfl) (k_X10_yBelow h) ?_
  rintro _ _ ⟨rfl, r_2, rfl, h⟩
  refine Ev_aload_n dX10_isAhead_15 0 rfl ?_
  refine Ev_iload_n dX10_isAhead_16 2 rfl ?_
  refine Ev_lload_n dX10_isAhead_17 3 rfl ?_
  refine Ev_lload dX10_isAhead_18 4 rfl ?_
  refine Ev_invV (d' := 0) [(0, v2), (1, v3), (1, v5)] 68 dX10_isAhead_20 M_X10_yAbove q_1179 (by decide) rfl rfl sh_68 rfl (Nat.le_of_ble_eq_true rfl) (k_X10_yAbove h) ?_
  rintro _ _ ⟨rfl, r_3, rfl, h⟩
  refine Ev_aload_n dX10_isAhead_23 0 rfl ?_
  refine Ev_iload_n dX10_isAhead_24 2 rfl ?_
  refine Ev_lload dX10_isAhead_25 4 rfl ?_
  refine Ev_invV (d' := 0) [(0, v2), (1, v5)] 68 dX10_isAhead_27 M_X10_yBelow q_1183 (by decide) rfl rfl sh_68 rfl (Nat.le_of_ble_eq_true rfl) (k_X10_yBelow h) ?_
  rintro _ _ ⟨rfl, r_4, rfl, h⟩
  refine Ev_invS (d' := 0) [(1, r_1), (1, r_2), (1, r_3), (1, r_4)] dX10_isAhead_30 M_X10_against (Or.inl q_1106) (by decide) rfl (Nat.le_of_ble_eq_true rfl) (k_X10_against h) ?_
  rintro _ _ ⟨rfl, r_5, rfl, h⟩
  refine Ev_istore dX10_isAhead_33 (by decide) rfl ?_
  refine Ev_iload dX10_isAhead_35 0 rfl ?_
  refine Ev_if_eq (tgt := 51) dX10_isAhead_37 (by decide) (fun hc => ?_) (fun hc => ?_)
  · replace h := h.1 hc
    refine Ev_aload_n dX10_isAhead_51 1 rfl ?_
    refine Ev_getr 68 (72) dX10_isAhead_52 f_RX10_19 rfl sh_68 rfl ?_
    refine Ev_iload_n dX10_isAhead_55 2 rfl ?_
    obtain ⟨hb_6, h⟩ := h
    refine Ev_iald (72) dX10_isAhead_56 rfl sh_72 hb_6 ?_
    refine Ev_aload_n dX10_isAhead_57 1 rfl ?_
    refine Ev_getr 68 (70) dX10_isAhead_58 f_RX10_13 rfl sh_68 rfl ?_
    refine Ev_iload_n dX10_isAhead_61 2 rfl ?_
    obtain ⟨hb_7, h⟩ := h
    refine Ev_iald (70) dX10_isAhead_62 rfl sh_70 hb_7 ?_
    refine Ev_isub dX10_isAhead_63 ?_
    refine Ev_i2l dX10_isAhead_64 ?_
    refine Ev_aload_n dX10_isAhead_65 1 rfl ?_
    refine Ev_getr 68 (71) dX10_isAhead_66 f_RX10_16 rfl sh_68 rfl ?_
    refine Ev_iload_n dX10_isAhead_69 2 rfl ?_
    obtain ⟨hb_8, h⟩ := h
    refine Ev_iald (71) dX10_isAhead_70 rfl sh_71 hb_8 ?_
    refine Ev_aload_n dX10_isAhead_71 1 rfl ?_
    refine Ev_getr 68 (69) dX10_isAhead_72 f_RX10_9 rfl sh_68 rfl ?_
    refine Ev_iload_n dX10_isAhead_75 2 rfl ?_
    obtain ⟨hb_9, h⟩ := h
    refine Ev_iald (69) dX10_isAhead_76 rfl sh_69 hb_9 ?_
    refine Ev_isub dX10_isAhead_77 ?_
    refine Ev_i2l dX10_isAhead_78 ?_
    refine Ev_aload_n dX10_isAhead_79 1 rfl ?_
    refine Ev_getr 68 (72) dX10_isAhead_80 f_RX10_19 rfl sh_68 rfl ?_
    refine Ev_iload_n dX10_isAhead_83 3 rfl ?_
    obtain ⟨hb_10, h⟩ := h
    refine Ev_iald (72) dX10_isAhead_84 rfl sh_72 hb_10 ?_
    refine Ev_aload_n dX10_isAhead_85 1 rfl ?_
    refine Ev_getr 68 (70) dX10_isAhead_86 f_RX10_13 rfl sh_68 rfl ?_
    refine Ev_iload_n dX10_isAhead_89 3 rfl ?_
    obtain ⟨hb_11, h⟩ := h
    refine Ev_iald (70) dX10_isAhead_90 rfl sh_70 hb_11 ?_
    refine Ev_isub dX10_isAhead_91 ?_
    refine Ev_i2l dX10_isAhead_92 ?_
    refine Ev_aload_n dX10_isAhead_93 1 rfl ?_
    refine Ev_getr 68 (71) dX10_isAhead_94 f_RX10_16 rfl sh_68 rfl ?_
    refine Ev_iload_n dX10_isAhead_97 3 rfl ?_
    obtain ⟨hb_12, h⟩ := h
    refine Ev_iald (71) dX10_isAhead_98 rfl sh_71 hb_12 ?_
    refine Ev_aload_n dX10_isAhead_99 1 rfl ?_
    refine Ev_getr 68 (69) dX10_isAhead_100 f_RX10_9 rfl sh_68 rfl ?_
    refine Ev_iload_n dX10_isAhead_103 3 rfl ?_
    obtain ⟨hb_13, h⟩ := h
    refine Ev_iald (69) dX10_isAhead_104 rfl sh_69 hb_13 ?_
    refine Ev_isub dX10_isAhead_105 ?_
    refine Ev_i2l dX10_isAhead_106 ?_
    refine Ev_invS (d' := 0) [(1, w32 ((s 72 v1.toNat) - (s 70 v1.toNat))), (1, w32 ((s 71 v1.toNat) - (s 69 v1.toNat))), (1, w32 ((s 72 v2.toNat) - (s 70 v2.toNat))), (1, w32 ((s 71 v2.toNat) - (s 69 v2.toNat)))] dX10_isAhead_107 M_X10_against (Or.inl q_1106) (by decide) rfl (Nat.le_of_ble_eq_true rfl) (k_X10_against h) ?_
    rintro _ _ ⟨rfl, r_14, rfl, h⟩
    refine Ev_istore dX10_isAhead_110 (by decide) rfl ?_
    refine Ev_iload dX10_isAhead_112 0 rfl ?_
    refine jc_1 (P := fun (t_15 : Int) => Ev mX10_isAhead 1 140 [] [(0, t_15)] s (poI 0 s post)) h ?_ ?_
    · intro t_15 h
      obtain ⟨hz, h⟩ := h
      exact Ev_ret dX10_isAhead_140 hz (poI_mk h)
    · intro K_16 hK_16 h
      refine Ev_if_eq (tgt := 130) dX10_isAhead_114 (by decide) (fun hc => ?_) (fun hc => ?_)
      · replace h := h.1 hc
        refine Ev_iload_n dX10_isAhead_130 2 rfl ?_
        refine Ev_iload_n dX10_isAhead_131 3 rfl ?_
        refine Ev_icmp_ge (tgt := 139) dX10_isAhead_132 (by decide) (fun hc => ?_) (fun hc => ?_)
        · replace h := h.1 hc
          refine Ev_iconst (v := 0) dX10_isAhead_139 rfl ⟨by decide, by decide⟩ ?_
          refine Ev_sub [] rfl ?_
          exact hK_16 _ h
        · replace h := h.2 hc
          refine Ev_iconst (v := 1) dX10_isAhead_135 rfl ⟨by decide, by decide⟩ ?_
          refine Ev_goto (tgt := 140) dX10_isAhead_136 (by decide) ?_
          refine Ev_sub [] rfl ?_
          exact hK_16 _ h
      · replace h := h.2 hc
        refine Ev_iload dX10_isAhead_117 0 rfl ?_
        refine Ev_if_ge (tgt := 126) dX10_isAhead_119 (by decide) (fun hc => ?_) (fun hc => ?_)
        · replace h := h.1 hc
          refine Ev_iconst (v := 0) dX10_isAhead_126 rfl ⟨by decide, by decide⟩ ?_
          refine Ev_goto (tgt := 140) dX10_isAhead_127 (by decide) ?_
          refine Ev_sub [] rfl ?_
          exact hK_16 _ h
        · replace h := h.2 hc
          refine Ev_iconst (v := 1) dX10_isAhead_122 rfl ⟨by decide, by decide⟩ ?_
          refine Ev_goto (tgt := 140) dX10_isAhead_123 (by decide) ?_
          refine Ev_sub [] rfl ?_
          exact hK_16 _ h
  · replace h := h.2 hc
    refine Ev_iload dX10_isAhead_40 0 rfl ?_
    refine jc_1 (P := fun (t_17 : Int) => Ev mX10_isAhead 1 50 [] [(0, t_17)] s (poI 0 s post)) h ?_ ?_
    · intro t_17 h
      obtain ⟨hz, h⟩ := h
      exact Ev_ret dX10_isAhead_50 hz (poI_mk h)
    · intro K_18 hK_18 h
      refine Ev_if_ge (tgt := 49) dX10_isAhead_42 (by decide) (fun hc => ?_) (fun hc => ?_)
      · replace h := h.1 hc
        refine Ev_iconst (v := 0) dX10_isAhead_49 rfl ⟨by decide, by decide⟩ ?_
        refine Ev_sub [] rfl ?_
        exact hK_18 _ h
      · replace h := h.2 hc
        refine Ev_iconst (v := 1) dX10_isAhead_45 rfl ⟨by decide, by decide⟩ ?_
        refine Ev_goto (tgt := 50) dX10_isAhead_46 (by decide) ?_
        refine Ev_sub [] rfl ?_
        exact hK_18 _ h
theorem k_X10_tellOrder {s : Sg} {v1 v3 v5 : Int} {post : Sg → Prop} (h : w_X10_tellOrder s v1 v3 v5 post) : EvM mX10_tellOrder 2 [(2, 68), (1, v1), (1, v3), (0, v5)] s (poV post) := by
  refine EvM_of rfl (by decide +kernel) (Nat.le_of_ble_eq_true rfl) ?_
  unfold w_X10_tellOrder at h
  show Ev mX10_tellOrder 2 0 [(0, (2, 68)), (1, (1, v1)), (3, (1, v3)), (5, (0, v5))] [] s (poV post)
  refine Ev_aload_n dX10_tellOrder_0 0 rfl ?_
  refine Ev_iconst (v := 0) dX10_tellOrder_1 rfl ⟨by decide, by decide⟩ ?_
  obtain ⟨s_1, es_1⟩ : ∃ z : Sg, z = (up s 68 20 0) := ⟨_, rfl⟩
  replace h := h s_1 es_1
  refine Ev_puti 68 dX10_tellOrder_2 fp_RX10_247 rfl sh_68 ?_
  rw [← es_1]
  refine Ev_iconst (v := 0) dX10_tellOrder_5 rfl ⟨by decide, by decide⟩ ?_
  refine Ev_istore dX10_tellOrder_6 (by decide) rfl ?_
  refine Ev_sub [1, 2, 3, 4, 0] rfl ?_
  refine li_1s (P := fun (v6_2 : Int) (s_3 : Sg) => Ev mX10_tellOrder 2 8 [(0, (2, 68)), (1, (1, v1)), (3, (1, v3)), (5, (0, v5)), (6, (0, v6_2))] [] s_3 (poV post)) ?_ h
  intro again_4 v6_2 s_3 hagain_4 h
  refine Ev_iload dX10_tellOrder_8 4 rfl ?_
  refine Ev_aload_n dX10_tellOrder_10 0 rfl ?_
  refine Ev_geti 68 dX10_tellOrder_11 f_RX10_109 rfl sh_68 ?_
  refine Ev_icmp_ge (tgt := 116) dX10_tellOrder_14 (by decide) (fun hc => ?_) (fun hc => ?_)
  · replace h := h.1 hc
    exact Ev_retv dX10_tellOrder_116 rfl (poV_mk h)
  · replace h := h.2 hc
    refine Ev_iload dX10_tellOrder_17 4 rfl ?_
    refine Ev_iload dX10_tellOrder_19 3 rfl ?_
    refine jc_0s (P := fun (s_5 : Sg) => Ev mX10_tellOrder 2 110 [(0, (2, 68)), (1, (1, v1)), (3, (1, v3)), (5, (0, v5)), (6, (0, v6_2))] [] s_5 (poV post)) h ?_ ?_
    · intro s_5 h
      obtain ⟨v6_7, ev6_7⟩ : ∃ z : Int, z = w32 (v6_2 + 1) := ⟨_, rfl⟩
      replace h := h v6_7 ev6_7
      refine Ev_iinc (v := v6_7) dX10_tellOrder_110 4 rfl ev6_7.symm (by decide) rfl ?_
      refine Ev_goto (tgt := 8) dX10_tellOrder_113 (by decide) ?_
      refine Ev_sub [1, 2, 3, 4, 0] rfl ?_
      exact hagain_4 _ _ h
    · intro K_6 hK_6 h
      refine Ev_icmp_eq (tgt := 110) dX10_tellOrder_21 (by decide) (fun hc => ?_) (fun hc => ?_)
      · replace h := h.1 hc
        exact hK_6 _ h
      · replace h := h.2 hc
        refine Ev_aload_n dX10_tellOrder_24 0 rfl ?_
        refine Ev_iload dX10_tellOrder_25 4 rfl ?_
        refine Ev_lload_n dX10_tellOrder_27 1 rfl ?_
        refine Ev_lload_n dX10_tellOrder_28 2 rfl ?_
        refine Ev_invV (d' := 1) [(0, v6_2), (1, v1), (1, v3)] 68 dX10_tellOrder_29 M_X10_isThere q_1171 (by decide) rfl rfl sh_68 rfl (Nat.le_of_ble_eq_true rfl) (k_X10_isThere h) ?_
        rintro _ _ ⟨rfl, r_8, rfl, h⟩
        refine Ev_if_ne (tgt := 38) dX10_tellOrder_32 (by decide) (fun hc => ?_) (fun hc => ?_)
        · replace h := h.1 hc
          refine Ev_aload_n dX10_tellOrder_38 0 rfl ?_
          refine Ev_geti 68 dX10_tellOrder_39 f_RX10_247 rfl sh_68 ?_
          obtain ⟨v7_9, ev7_9⟩ : ∃ z : Int, z = s_3 68 20 := ⟨_, rfl⟩
          replace h := h v7_9 ev7_9
          rw [← ev7_9]
          refine Ev_istore dX10_tellOrder_42 (by decide) rfl ?_
          refine Ev_sub [1, 2, 3, 4, 5, 0] rfl ?_
          refine li_1s (P := fun (v7_10 : Int) (s_11 : Sg) => Ev mX10_tellOrder 2 44 [(0, (2, 68)), (1, (1, v1)), (3, (1, v3)), (5, (0, v5)), (6, (0, v6_2)), (7, (0, v7_10))] [] s_11 (poV post)) ?_ h
          intro again_12 v7_10 s_11 hagain_12 h
          refine Ev_iload dX10_tellOrder_44 5 rfl ?_
          refine jc_0 (P := Ev mX10_tellOrder 2 91 [(0, (2, 68)), (1, (1, v1)), (3, (1, v3)), (5, (0, v5)), (6, (0, v6_2)), (7, (0, v7_10))] [] s_11 (poV post)) h ?_ ?_
          · intro  h
            refine Ev_aload_n dX10_tellOrder_91 0 rfl ?_
            refine Ev_getr 68 (82) dX10_tellOrder_92 f_RX10_51 rfl sh_68 rfl ?_
            refine Ev_iload dX10_tellOrder_95 5 rfl ?_
            refine Ev_iload dX10_tellOrder_97 4 rfl ?_
            obtain ⟨hb_14, h⟩ := h
            obtain ⟨s_15, es_15⟩ : ∃ z : Sg, z = (up s_11 82 (v7_10.toNat) v6_2) := ⟨_, rfl⟩
            replace h := h s_15 es_15
            refine Ev_iast (82) dX10_tellOrder_99 rfl sh_82 hb_14 ?_
            rw [← es_15]
            refine Ev_aload_n dX10_tellOrder_100 0 rfl ?_
            refine Ev_dup dX10_tellOrder_101 (show ¬ (2 : Nat) = 1 by decide) ?_
            refine Ev_geti 68 dX10_tellOrder_102 f_RX10_247 rfl sh_68 ?_
            refine Ev_iconst (v := 1) dX10_tellOrder_105 rfl ⟨by decide, by decide⟩ ?_
            refine Ev_iadd dX10_tellOrder_106 ?_
            obtain ⟨s_16, es_16⟩ : ∃ z : Sg, z = (up s_15 68 20 (w32 ((s_15 68 20) + 1))) := ⟨_, rfl⟩
            replace h := h s_16 es_16
            refine Ev_puti 68 dX10_tellOrder_107 fp_RX10_247 rfl sh_68 ?_
            rw [← es_16]
            refine Ev_sub [0, 1, 2, 3, 4] rfl ?_
            exact hK_6 _ h
          · intro K_13 hK_13 h
            refine Ev_if_le (tgt := 91) dX10_tellOrder_46 (by decide) (fun hc => ?_) (fun hc => ?_)
            · replace h := h.1 hc
              exact hK_13 h
            · replace h := h.2 hc
              refine Ev_aload_n dX10_tellOrder_49 0 rfl ?_
              refine Ev_iload dX10_tellOrder_50 4 rfl ?_
              refine Ev_aload_n dX10_tellOrder_52 0 rfl ?_
              refine Ev_getr 68 (82) dX10_tellOrder_53 f_RX10_51 rfl sh_68 rfl ?_
              refine Ev_iload dX10_tellOrder_56 5 rfl ?_
              refine Ev_iconst (v := 1) dX10_tellOrder_58 rfl ⟨by decide, by decide⟩ ?_
              refine Ev_isub dX10_tellOrder_59 ?_
              obtain ⟨hb_17, h⟩ := h
              refine Ev_iald (82) dX10_tellOrder_60 rfl sh_82 hb_17 ?_
              refine Ev_lload_n dX10_tellOrder_61 1 rfl ?_
              refine Ev_lload_n dX10_tellOrder_62 2 rfl ?_
              refine Ev_invV (d' := 1) [(0, v6_2), (0, s_11 82 (w32 (v7_10 - 1)).toNat), (1, v1), (1, v3)] 68 dX10_tellOrder_63 M_X10_isAhead q_1175 (by decide) rfl rfl sh_68 rfl (Nat.le_of_ble_eq_true rfl) (k_X10_isAhead h) ?_
              rintro _ _ ⟨rfl, r_18, rfl, h⟩
              refine Ev_if_eq (tgt := 91) dX10_tellOrder_66 (by decide) (fun hc => ?_) (fun hc => ?_)
              · replace h := h.1 hc
                exact hK_13 h
              · replace h := h.2 hc
                refine Ev_aload_n dX10_tellOrder_69 0 rfl ?_
                refine Ev_getr 68 (82) dX10_tellOrder_70 f_RX10_51 rfl sh_68 rfl ?_
                refine Ev_iload dX10_tellOrder_73 5 rfl ?_
                refine Ev_aload_n dX10_tellOrder_75 0 rfl ?_
                refine Ev_getr 68 (82) dX10_tellOrder_76 f_RX10_51 rfl sh_68 rfl ?_
                refine Ev_iload dX10_tellOrder_79 5 rfl ?_
                refine Ev_iconst (v := 1) dX10_tellOrder_81 rfl ⟨by decide, by decide⟩ ?_
                refine Ev_isub dX10_tellOrder_82 ?_
                obtain ⟨hb_19, h⟩ := h
                refine Ev_iald (82) dX10_tellOrder_83 rfl sh_82 hb_19 ?_
                obtain ⟨hb_20, h⟩ := h
                obtain ⟨s_21, es_21⟩ : ∃ z : Sg, z = (up s_11 82 (v7_10.toNat) (s_11 82 (w32 (v7_10 - 1)).toNat)) := ⟨_, rfl⟩
                replace h := h s_21 es_21
                refine Ev_iast (82) dX10_tellOrder_84 rfl sh_82 hb_20 ?_
                rw [← es_21]
                obtain ⟨v7_22, ev7_22⟩ : ∃ z : Int, z = w32 (v7_10 + (-1)) := ⟨_, rfl⟩
                replace h := h v7_22 ev7_22
                refine Ev_iinc (v := v7_22) dX10_tellOrder_85 5 rfl ev7_22.symm (by decide) rfl ?_
                refine Ev_goto (tgt := 44) dX10_tellOrder_88 (by decide) ?_
                refine Ev_sub [1, 2, 3, 4, 5, 0] rfl ?_
                exact hagain_12 _ _ h
        · replace h := h.2 hc
          refine Ev_goto (tgt := 110) dX10_tellOrder_35 (by decide) ?_
          exact hK_6 _ h
theorem k_X10_film {s : Sg} {v1 v2 : Int} {post : Int → Sg → Prop} (h : w_X10_film s v1 v2 post) : EvM mX10_film 3 [(2, 68), (0, v1), (0, v2)] s (poIs 0 post) := by
  refine EvM_of rfl (by decide +kernel) (Nat.le_of_ble_eq_true rfl) ?_
  unfold w_X10_film at h
  show Ev mX10_film 3 0 [(0, (2, 68)), (1, (0, v1)), (2, (0, v2))] [] s (poIs 0 post)
  refine Ev_iload_n dX10_film_0 1 rfl ?_
  refine Ev_invS (d' := 1) [(0, v1)] dX10_film_1 M_X10_isSheet (Or.inl q_1350) (by decide) rfl (Nat.le_of_ble_eq_true rfl) (k_X10_isSheet h) ?_
  rintro _ _ ⟨rfl, r_1, rfl, h⟩
  refine jc_0 (P := Ev mX10_film 3 14 [] [] s (poIs 0 post)) h ?_ ?_
  · intro  h
    refine Ev_bipush (v := -2) dX10_film_14 (by decide +kernel) ?_
    exact Ev_ret dX10_film_16 trivial (poIs_mk h)
  · intro K_2 hK_2 h
    refine Ev_if_eq (tgt := 14) dX10_film_4 (by decide) (fun hc => ?_) (fun hc => ?_)
    · replace h := h.1 hc
      refine Ev_sub [] rfl ?_
      exact hK_2 h
    · replace h := h.2 hc
      refine Ev_iload_n dX10_film_7 2 rfl ?_
      refine Ev_invS (d' := 1) [(0, v2)] dX10_film_8 M_X10_isOnSheet (Or.inl q_1036) (by decide) rfl (Nat.le_of_ble_eq_true rfl) (k_X10_isOnSheet h) ?_
      rintro _ _ ⟨rfl, r_3, rfl, h⟩
      refine Ev_if_ne (tgt := 17) dX10_film_11 (by decide) (fun hc => ?_) (fun hc => ?_)
      · replace h := h.1 hc
        refine Ev_aload_n dX10_film_17 0 rfl ?_
        refine Ev_iload_n dX10_film_18 2 rfl ?_
        refine Ev_i2l dX10_film_19 ?_
        refine Ev_lconst (v := 1) dX10_film_20 (by decide +kernel) ?_
        refine Ev_iconst (v := -1) dX10_film_21 rfl ⟨by decide, by decide⟩ ?_
        refine Ev_invV (d' := 2) [(1, v2), (1, 1), (0, (-1))] 68 dX10_film_22 M_X10_tellOrder q_1167 (by decide) rfl rfl sh_68 rfl (Nat.le_of_ble_eq_true rfl) (k_X10_tellOrder h) ?_
        rintro _ s_4 ⟨rfl, h⟩
        refine Ev_aload_n dX10_film_25 0 rfl ?_
        refine Ev_getr 68 (184) dX10_film_26 f_RX10_97 rfl sh_68 rfl ?_
        refine Ev_iload_n dX10_film_29 1 rfl ?_
        refine Ev_iconst (v := 0) dX10_film_30 rfl ⟨by decide, by decide⟩ ?_
        obtain ⟨hb_5, h⟩ := h
        obtain ⟨s_6, es_6⟩ : ∃ z : Sg, z = (up s_4 184 (v1.toNat) 0) := ⟨_, rfl⟩
        replace h := h s_6 es_6
        refine Ev_iast (184) dX10_film_31 rfl sh_184 hb_5 ?_
        rw [← es_6]
        refine Ev_aload_n dX10_film_32 0 rfl ?_
        refine Ev_getr 68 (185) dX10_film_33 f_RX10_100 rfl sh_68 rfl ?_
        refine Ev_iload_n dX10_film_36 1 rfl ?_
        refine Ev_aload_n dX10_film_37 0 rfl ?_
        refine Ev_geti 68 dX10_film_38 f_RX10_247 rfl sh_68 ?_
        obtain ⟨hb_7, h⟩ := h
        obtain ⟨s_8, es_8⟩ : ∃ z : Sg, z = (up s_6 185 (v1.toNat) (s_6 68 20)) := ⟨_, rfl⟩
        replace h := h s_8 es_8
        refine Ev_iast (185) dX10_film_41 rfl sh_185 hb_7 ?_
        rw [← es_8]
        refine Ev_iconst (v := 0) dX10_film_42 rfl ⟨by decide, by decide⟩ ?_
        refine Ev_istore_n dX10_film_43 (by decide) rfl ?_
        refine Ev_sub [1, 2, 0] rfl ?_
        refine li_1s (P := fun (v3_9 : Int) (s_10 : Sg) => Ev mX10_film 3 44 [(0, (2, 68)), (1, (0, v1)), (3, (0, v3_9))] [] s_10 (poIs 0 post)) ?_ h
        intro again_11 v3_9 s_10 hagain_11 h
        refine Ev_iload_n dX10_film_44 2 rfl ?_
        refine Ev_aload_n dX10_film_45 0 rfl ?_
        refine Ev_geti 68 dX10_film_46 f_RX10_247 rfl sh_68 ?_
        refine Ev_icmp_ge (tgt := 72) dX10_film_49 (by decide) (fun hc => ?_) (fun hc => ?_)
        · replace h := h.1 hc
          refine Ev_aload_n dX10_film_72 0 rfl ?_
          refine Ev_geti 68 dX10_film_73 f_RX10_247 rfl sh_68 ?_
          exact Ev_ret dX10_film_76 trivial (poIs_mk h)
        · replace h := h.2 hc
          refine Ev_aload_n dX10_film_52 0 rfl ?_
          refine Ev_getr 68 (186) dX10_film_53 f_RX10_103 rfl sh_68 rfl ?_
          refine Ev_iload_n dX10_film_56 1 rfl ?_
          obtain ⟨hb_12, h⟩ := h
          refine Ev_aaldi 186 (((187 + v1.toNat : Nat) : Int)) dX10_film_57 rfl sh_186 hb_12 (rr_186 hb_12).symm ?_
          refine Ev_iload_n dX10_film_58 2 rfl ?_
          refine Ev_aload_n dX10_film_59 0 rfl ?_
          refine Ev_getr 68 (82) dX10_film_60 f_RX10_51 rfl sh_68 rfl ?_
          refine Ev_iload_n dX10_film_63 2 rfl ?_
          obtain ⟨hb_13, h⟩ := h
          refine Ev_iald (82) dX10_film_64 rfl sh_82 hb_13 ?_
          obtain ⟨hb_14, h⟩ := h
          obtain ⟨s_15, es_15⟩ : ∃ z : Sg, z = (up s_10 (187 + v1.toNat) (v3_9.toNat) (s_10 82 v3_9.toNat)) := ⟨_, rfl⟩
          replace h := h s_15 es_15
          refine Ev_iast (187 + v1.toNat) dX10_film_65 rfl (sr_186 hb_12) hb_14 ?_
          rw [← es_15]
          obtain ⟨v3_16, ev3_16⟩ : ∃ z : Int, z = w32 (v3_9 + 1) := ⟨_, rfl⟩
          replace h := h v3_16 ev3_16
          refine Ev_iinc (v := v3_16) dX10_film_66 2 rfl ev3_16.symm (by decide) rfl ?_
          refine Ev_goto (tgt := 44) dX10_film_69 (by decide) ?_
          refine Ev_sub [1, 2, 0] rfl ?_
          exact hagain_11 _ _ h
      · replace h := h.2 hc
        refine Ev_sub [] rfl ?_
        exact hK_2 h
theorem k_X10_hops {s : Sg} {v1 v2 : Int} {post : Int → Sg → Prop} (h : w_X10_hops s v1 v2 post) : EvM mX10_hops 105 [(2, 68), (0, v1), (0, v2)] s (poIs 0 post) := by
  refine EvM_of rfl (by decide +kernel) (Nat.le_of_ble_eq_true rfl) ?_
  unfold w_X10_hops at h
  show Ev mX10_hops 105 0 [(0, (2, 68)), (1, (0, v1)), (2, (0, v2))] [] s (poIs 0 post)
  refine Ev_aload_n dX10_hops_0 0 rfl ?_
  refine Ev_invV (d' := 104) [] 68 dX10_hops_1 M_X10_tellSheet q_1191 (by decide) rfl rfl sh_68 rfl (Nat.le_of_ble_eq_true rfl) (k_X10_tellSheet h) ?_
  rintro _ s_1 ⟨rfl, h⟩
  refine Ev_iload_n dX10_hops_4 1 rfl ?_
  refine Ev_iconst (v := 0) dX10_hops_5 rfl ⟨by decide, by decide⟩ ?_
  refine Ev_aload_n dX10_hops_6 0 rfl ?_
  refine Ev_geti 68 dX10_hops_7 f_RX10_324 rfl sh_68 ?_
  refine Ev_iconst (v := 1) dX10_hops_10 rfl ⟨by decide, by decide⟩ ?_
  refine Ev_isub dX10_hops_11 ?_
  refine Ev_invS (d' := 0) [(0, v1), (0, 0), (0, w32 ((s_1 68 24) - 1))] dX10_hops_12 M_X10_in (Or.inl q_1039) (by decide) rfl (Nat.le_of_ble_eq_true rfl) (k_X10_in h) ?_
  rintro _ _ ⟨rfl, r_2, rfl, h⟩
  refine jc_0 (P := Ev mX10_hops 105 32 [] [] s_1 (poIs 0 post)) h ?_ ?_
  · intro  h
    refine Ev_bipush (v := -2) dX10_hops_32 (by decide +kernel) ?_
    exact Ev_ret dX10_hops_34 trivial (poIs_mk h)
  · intro K_3 hK_3 h
    refine Ev_if_eq (tgt := 32) dX10_hops_15 (by decide) (fun hc => ?_) (fun hc => ?_)
    · replace h := h.1 hc
      refine Ev_sub [] rfl ?_
      exact hK_3 h
    · replace h := h.2 hc
      refine Ev_iload_n dX10_hops_18 2 rfl ?_
      refine Ev_iconst (v := 0) dX10_hops_19 rfl ⟨by decide, by decide⟩ ?_
      refine Ev_aload_n dX10_hops_20 0 rfl ?_
      refine Ev_geti 68 dX10_hops_21 f_RX10_324 rfl sh_68 ?_
      refine Ev_iconst (v := 1) dX10_hops_24 rfl ⟨by decide, by decide⟩ ?_
      refine Ev_isub dX10_hops_25 ?_
      refine Ev_invS (d' := 0) [(0, v2), (0, 0), (0, w32 ((s_1 68 24) - 1))] dX10_hops_26 M_X10_in (Or.inl q_1039) (by decide) rfl (Nat.le_of_ble_eq_true rfl) (k_X10_in h) ?_
      rintro _ _ ⟨rfl, r_4, rfl, h⟩
      refine Ev_if_ne (tgt := 35) dX10_hops_29 (by decide) (fun hc => ?_) (fun hc => ?_)
      · replace h := h.1 hc
        refine Ev_aload_n dX10_hops_35 0 rfl ?_
        refine Ev_invV (d' := 3) [] 68 dX10_hops_36 M_X10_tellNext q_1264 (by decide) rfl rfl sh_68 rfl (Nat.le_of_ble_eq_true rfl) (k_X10_tellNext h) ?_
        rintro _ s_5 ⟨rfl, h⟩
        refine Ev_iconst (v := 0) dX10_hops_39 rfl ⟨by decide, by decide⟩ ?_
        refine Ev_istore_n dX10_hops_40 (by decide) rfl ?_
        refine Ev_sub [1, 2, 3, 0] rfl ?_
        refine li_1s (P := fun (v3_6 : Int) (s_7 : Sg) => Ev mX10_hops 105 41 [(0, (2, 68)), (1, (0, v1)), (2, (0, v2)), (3, (0, v3_6))] [] s_7 (poIs 0 post)) ?_ h
        intro again_8 v3_6 s_7 hagain_8 h
        refine Ev_iload_n dX10_hops_41 3 rfl ?_
        refine Ev_aload_n dX10_hops_42 0 rfl ?_
        refine Ev_geti 68 dX10_hops_43 f_RX10_324 rfl sh_68 ?_
        refine Ev_icmp_ge (tgt := 71) dX10_hops_46 (by decide) (fun hc => ?_) (fun hc => ?_)
        · replace h := h.1 hc
          refine Ev_iconst (v := 0) dX10_hops_71 rfl ⟨by decide, by decide⟩ ?_
          refine Ev_istore_n dX10_hops_72 (by decide) rfl ?_
          refine Ev_sub [1, 3, 0] rfl ?_
          refine li_1s (P := fun (v3_9 : Int) (s_10 : Sg) => Ev mX10_hops 105 73 [(0, (2, 68)), (2, (0, v2)), (3, (0, v3_9))] [] s_10 (poIs 0 post)) ?_ h
          intro again_11 v3_9 s_10 hagain_11 h
          refine Ev_iload_n dX10_hops_73 2 rfl ?_
          refine Ev_aload_n dX10_hops_74 0 rfl ?_
          refine Ev_geti 68 dX10_hops_75 f_RX10_324 rfl sh_68 ?_
          refine Ev_icmp_ge (tgt := 168) dX10_hops_78 (by decide) (fun hc => ?_) (fun hc => ?_)
          · replace h := h.1 hc
            refine Ev_aload_n dX10_hops_168 0 rfl ?_
            refine Ev_getr 68 (173) dX10_hops_169 f_RX10_86 rfl sh_68 rfl ?_
            refine Ev_iload_n dX10_hops_172 1 rfl ?_
            obtain ⟨hb_12, h⟩ := h
            refine Ev_iald (173) dX10_hops_173 rfl sh_173 hb_12 ?_
            exact Ev_ret dX10_hops_174 trivial (poIs_mk h)
          · replace h := h.2 hc
            refine Ev_iconst (v := 0) dX10_hops_81 rfl ⟨by decide, by decide⟩ ?_
            refine Ev_istore dX10_hops_82 (by decide) rfl ?_
            refine Ev_sub [1, 2, 3, 0] rfl ?_
            refine li_1s (P := fun (v4_13 : Int) (s_14 : Sg) => Ev mX10_hops 105 84 [(0, (2, 68)), (2, (0, v2)), (3, (0, v3_9)), (4, (0, v4_13))] [] s_14 (poIs 0 post)) ?_ h
            intro again_15 v4_13 s_14 hagain_15 h
            refine Ev_iload dX10_hops_84 3 rfl ?_
            refine Ev_aload_n dX10_hops_86 0 rfl ?_
            refine Ev_geti 68 dX10_hops_87 f_RX10_324 rfl sh_68 ?_
            refine Ev_icmp_ge (tgt := 162) dX10_hops_90 (by decide) (fun hc => ?_) (fun hc => ?_)
            · replace h := h.1 hc
              obtain ⟨v3_16, ev3_16⟩ : ∃ z : Int, z = w32 (v3_9 + 1) := ⟨_, rfl⟩
              replace h := h v3_16 ev3_16
              refine Ev_iinc (v := v3_16) dX10_hops_162 2 rfl ev3_16.symm (by decide) rfl ?_
              refine Ev_goto (tgt := 73) dX10_hops_165 (by decide) ?_
              refine Ev_sub [1, 2, 0] rfl ?_
              exact hagain_11 _ _ h
            · replace h := h.2 hc
              refine Ev_iconst (v := 0) dX10_hops_93 rfl ⟨by decide, by decide⟩ ?_
              refine Ev_istore dX10_hops_94 (by decide) rfl ?_
              refine Ev_sub [1, 2, 3, 4, 0] rfl ?_
              refine li_1s (P := fun (v5_17 : Int) (s_18 : Sg) => Ev mX10_hops 105 96 [(0, (2, 68)), (2, (0, v2)), (3, (0, v3_9)), (4, (0, v4_13)), (5, (0, v5_17))] [] s_18 (poIs 0 post)) ?_ h
              intro again_19 v5_17 s_18 hagain_19 h
              refine Ev_iload dX10_hops_96 4 rfl ?_
              refine Ev_aload_n dX10_hops_98 0 rfl ?_
              refine Ev_geti 68 dX10_hops_99 f_RX10_324 rfl sh_68 ?_
              refine jc_0 (P := Ev mX10_hops 105 156 [(0, (2, 68)), (2, (0, v2)), (3, (0, v3_9)), (4, (0, v4_13))] [] s_18 (poIs 0 post)) h ?_ ?_
              · intro  h
                obtain ⟨v4_21, ev4_21⟩ : ∃ z : Int, z = w32 (v4_13 + 1) := ⟨_, rfl⟩
                replace h := h v4_21 ev4_21
                refine Ev_iinc (v := v4_21) dX10_hops_156 3 rfl ev4_21.symm (by decide) rfl ?_
                refine Ev_goto (tgt := 84) dX10_hops_159 (by decide) ?_
                refine Ev_sub [1, 2, 3, 0] rfl ?_
                exact hagain_15 _ _ h
              · intro K_20 hK_20 h
                refine Ev_icmp_ge (tgt := 156) dX10_hops_102 (by decide) (fun hc => ?_) (fun hc => ?_)
                · replace h := h.1 hc
                  refine Ev_sub [0, 1, 2, 3] rfl ?_
                  exact hK_20 h
                · replace h := h.2 hc
                  refine Ev_aload_n dX10_hops_105 0 rfl ?_
                  refine Ev_getr 68 (173) dX10_hops_106 f_RX10_86 rfl sh_68 rfl ?_
                  refine Ev_iload dX10_hops_109 3 rfl ?_
                  obtain ⟨hb_22, h⟩ := h
                  refine Ev_iald (173) dX10_hops_111 rfl sh_173 hb_22 ?_
                  refine Ev_iload_n dX10_hops_112 2 rfl ?_
                  refine Ev_icmp_ne (tgt := 156) dX10_hops_113 (by decide) (fun hc => ?_) (fun hc => ?_)
                  · replace h := h.1 hc
                    refine Ev_sub [0, 1, 2, 3] rfl ?_
                    exact hK_20 h
                  · replace h := h.2 hc
                    refine Ev_aload_n dX10_hops_116 0 rfl ?_
                    refine Ev_getr 68 (92) dX10_hops_117 f_RX10_83 rfl sh_68 rfl ?_
                    refine Ev_iload dX10_hops_120 3 rfl ?_
                    obtain ⟨hb_23, h⟩ := h
                    refine Ev_aaldz 92 (((93 + v4_13.toNat : Nat) : Int)) dX10_hops_122 rfl sh_92 hb_23 (rr_92 hb_23).symm ?_
                    refine Ev_iload dX10_hops_123 4 rfl ?_
                    obtain ⟨hb_24, h⟩ := h
                    refine Ev_zald (93 + v4_13.toNat) dX10_hops_125 rfl (sr_92 hb_23) hb_24 ?_
                    refine jc_0s (P := fun (s_25 : Sg) => Ev mX10_hops 105 150 [(0, (2, 68)), (2, (0, v2)), (3, (0, v3_9)), (4, (0, v4_13)), (5, (0, v5_17))] [] s_25 (poIs 0 post)) h ?_ ?_
                    · intro s_25 h
                      obtain ⟨v5_27, ev5_27⟩ : ∃ z : Int, z = w32 (v5_17 + 1) := ⟨_, rfl⟩
                      replace h := h v5_27 ev5_27
                      refine Ev_iinc (v := v5_27) dX10_hops_150 4 rfl ev5_27.symm (by decide) rfl ?_
                      refine Ev_goto (tgt := 96) dX10_hops_153 (by decide) ?_
                      refine Ev_sub [1, 2, 3, 4, 0] rfl ?_
                      exact hagain_19 _ _ h
                    · intro K_26 hK_26 h
                      refine Ev_if_eq (tgt := 150) dX10_hops_126 (by decide) (fun hc => ?_) (fun hc => ?_)
                      · replace h := h.1 hc
                        exact hK_26 _ h
                      · replace h := h.2 hc
                        refine Ev_aload_n dX10_hops_129 0 rfl ?_
                        refine Ev_getr 68 (173) dX10_hops_130 f_RX10_86 rfl sh_68 rfl ?_
                        refine Ev_iload dX10_hops_133 4 rfl ?_
                        obtain ⟨hb_28, h⟩ := h
                        refine Ev_iald (173) dX10_hops_135 rfl sh_173 hb_28 ?_
                        refine Ev_iconst (v := -1) dX10_hops_136 rfl ⟨by decide, by decide⟩ ?_
                        refine Ev_icmp_ne (tgt := 150) dX10_hops_137 (by decide) (fun hc => ?_) (fun hc => ?_)
                        · replace h := h.1 hc
                          exact hK_26 _ h
                        · replace h := h.2 hc
                          refine Ev_aload_n dX10_hops_140 0 rfl ?_
                          refine Ev_getr 68 (173) dX10_hops_141 f_RX10_86 rfl sh_68 rfl ?_
                          refine Ev_iload dX10_hops_144 4 rfl ?_
                          refine Ev_iload_n dX10_hops_146 2 rfl ?_
                          refine Ev_iconst (v := 1) dX10_hops_147 rfl ⟨by decide, by decide⟩ ?_
                          refine Ev_iadd dX10_hops_148 ?_
                          obtain ⟨hb_29, h⟩ := h
                          obtain ⟨s_30, es_30⟩ : ∃ z : Sg, z = (up s_18 173 (v5_17.toNat) (w32 (v3_9 + 1))) := ⟨_, rfl⟩
                          replace h := h s_30 es_30
                          refine Ev_iast (173) dX10_hops_149 rfl sh_173 hb_29 ?_
                          rw [← es_30]
                          exact hK_26 _ h
        · replace h := h.2 hc
          refine Ev_aload_n dX10_hops_49 0 rfl ?_
          refine Ev_getr 68 (173) dX10_hops_50 f_RX10_86 rfl sh_68 rfl ?_
          refine Ev_iload_n dX10_hops_53 3 rfl ?_
          refine Ev_iload_n dX10_hops_54 3 rfl ?_
          refine Ev_iload_n dX10_hops_55 1 rfl ?_
          refine jc_1 (P := fun (t_31 : Int) => Ev mX10_hops 105 64 [(0, (2, 68)), (1, (0, v1)), (2, (0, v2)), (3, (0, v3_6))] [(0, t_31), (0, v3_6), (2, 173)] s_7 (poIs 0 post)) h ?_ ?_
          · intro t_31 h
            obtain ⟨hb_33, h⟩ := h
            obtain ⟨s_34, es_34⟩ : ∃ z : Sg, z = (up s_7 173 (v3_6.toNat) t_31) := ⟨_, rfl⟩
            replace h := h s_34 es_34
            refine Ev_iast (173) dX10_hops_64 rfl sh_173 hb_33 ?_
            rw [← es_34]
            obtain ⟨v3_35, ev3_35⟩ : ∃ z : Int, z = w32 (v3_6 + 1) := ⟨_, rfl⟩
            replace h := h v3_35 ev3_35
            refine Ev_iinc (v := v3_35) dX10_hops_65 3 rfl ev3_35.symm (by decide) rfl ?_
            refine Ev_goto (tgt := 41) dX10_hops_68 (by decide) ?_
            refine Ev_sub [1, 2, 3, 0] rfl ?_
            exact hagain_8 _ _ h
          · intro K_32 hK_32 h
            refine Ev_icmp_ne (tgt := 63) dX10_hops_56 (by decide) (fun hc => ?_) (fun hc => ?_)
            · replace h := h.1 hc
              refine Ev_iconst (v := -1) dX10_hops_63 rfl ⟨by decide, by decide⟩ ?_
              exact hK_32 _ h
            · replace h := h.2 hc
              refine Ev_iconst (v := 0) dX10_hops_59 rfl ⟨by decide, by decide⟩ ?_
              refine Ev_goto (tgt := 64) dX10_hops_60 (by decide) ?_
              exact hK_32 _ h
      · replace h := h.2 hc
        refine Ev_sub [] rfl ?_
        exact hK_3 h
theorem k_X10_image {s : Sg} {post : Int → Sg → Prop} (h : w_X10_image s post) : EvM mX10_image 3 [(2, 68)] s (poIs 0 post) := by
  refine EvM_of rfl (by decide +kernel) (Nat.le_of_ble_eq_true rfl) ?_
  unfold w_X10_image at h
  show Ev mX10_image 3 0 [(0, (2, 68))] [] s (poIs 0 post)
  refine Ev_aload_n dX10_image_0 0 rfl ?_
  refine Ev_iconst (v := 1) dX10_image_1 rfl ⟨by decide, by decide⟩ ?_
  obtain ⟨s_1, es_1⟩ : ∃ z : Sg, z = (up s 68 43 1) := ⟨_, rfl⟩
  replace h := h s_1 es_1
  refine Ev_putz 68 dX10_image_2 fp_RX10_398 (by decide) rfl sh_68 ?_
  rw [← es_1]
  refine Ev_aload_n dX10_image_5 0 rfl ?_
  refine Ev_iconst (v := 1) dX10_image_6 rfl ⟨by decide, by decide⟩ ?_
  refine Ev_invV (d' := 2) [(0, 1)] 68 dX10_image_7 M_X10_keep q_1307 (by decide) rfl rfl sh_68 rfl (Nat.le_of_ble_eq_true rfl) (k_X10_keep h) ?_
  rintro _ s_2 ⟨rfl, h⟩
  refine Ev_aload_n dX10_image_10 0 rfl ?_
  refine Ev_geti 68 dX10_image_11 f_RX10_109 rfl sh_68 ?_
  exact Ev_ret dX10_image_14 trivial (poIs_mk h)
theorem k_X10_isPlace {s : Sg} {v0 v1 v2 : Int} {post : Int → Prop} (h : w_X10_isPlace v0 v1 v2 post) : EvM mX10_isPlace 1 [(0, v0), (0, v1), (0, v2)] s (poI 0 s post) := by
  refine EvM_of rfl (by decide +kernel) (Nat.le_of_ble_eq_true rfl) ?_
  unfold w_X10_isPlace at h
  show Ev mX10_isPlace 1 0 [(0, (0, v0)), (1, (0, v1)), (2, (0, v2))] [] s (poI 0 s post)
  refine Ev_iload_n dX10_isPlace_0 0 rfl ?_
  refine Ev_sipush (v := -400) dX10_isPlace_1 (by decide +kernel) ?_
  refine Ev_sipush (v := 800) dX10_isPlace_4 (by decide +kernel) ?_
  refine Ev_invS (d' := 0) [(0, v0), (0, (-400)), (0, 800)] dX10_isPlace_7 M_X10_in (Or.inl q_1039) (by decide) rfl (Nat.le_of_ble_eq_true rfl) (k_X10_in h) ?_
  rintro _ _ ⟨rfl, r_1, rfl, h⟩
  refine jc_1 (P := fun (t_2 : Int) => Ev mX10_isPlace 1 41 [] [(0, t_2)] s (poI 0 s post)) h ?_ ?_
  · intro t_2 h
    obtain ⟨hz, h⟩ := h
    exact Ev_ret dX10_isPlace_41 hz (poI_mk h)
  · intro K_3 hK_3 h
    refine jc_0 (P := Ev mX10_isPlace 1 40 [] [] s (poI 0 s post)) h ?_ ?_
    · intro  h
      refine Ev_iconst (v := 0) dX10_isPlace_40 rfl ⟨by decide, by decide⟩ ?_
      exact hK_3 _ h
    · intro K_4 hK_4 h
      refine Ev_if_eq (tgt := 40) dX10_isPlace_10 (by decide) (fun hc => ?_) (fun hc => ?_)
      · replace h := h.1 hc
        refine Ev_sub [] rfl ?_
        exact hK_4 h
      · replace h := h.2 hc
        refine Ev_iload_n dX10_isPlace_13 1 rfl ?_
        refine Ev_sipush (v := -400) dX10_isPlace_14 (by decide +kernel) ?_
        refine Ev_sipush (v := 800) dX10_isPlace_17 (by decide +kernel) ?_
        refine Ev_invS (d' := 0) [(0, v1), (0, (-400)), (0, 800)] dX10_isPlace_20 M_X10_in (Or.inl q_1039) (by decide) rfl (Nat.le_of_ble_eq_true rfl) (k_X10_in h) ?_
        rintro _ _ ⟨rfl, r_5, rfl, h⟩
        refine Ev_if_eq (tgt := 40) dX10_isPlace_23 (by decide) (fun hc => ?_) (fun hc => ?_)
        · replace h := h.1 hc
          refine Ev_sub [] rfl ?_
          exact hK_4 h
        · replace h := h.2 hc
          refine Ev_iload_n dX10_isPlace_26 2 rfl ?_
          refine Ev_iconst (v := 1) dX10_isPlace_27 rfl ⟨by decide, by decide⟩ ?_
          refine Ev_bipush (v := 10) dX10_isPlace_28 (by decide +kernel) ?_
          refine Ev_invS (d' := 0) [(0, v2), (0, 1), (0, 10)] dX10_isPlace_30 M_X10_in (Or.inl q_1039) (by decide) rfl (Nat.le_of_ble_eq_true rfl) (k_X10_in h) ?_
          rintro _ _ ⟨rfl, r_6, rfl, h⟩
          refine Ev_if_eq (tgt := 40) dX10_isPlace_33 (by decide) (fun hc => ?_) (fun hc => ?_)
          · replace h := h.1 hc
            refine Ev_sub [] rfl ?_
            exact hK_4 h
          · replace h := h.2 hc
            refine Ev_iconst (v := 1) dX10_isPlace_36 rfl ⟨by decide, by decide⟩ ?_
            refine Ev_goto (tgt := 41) dX10_isPlace_37 (by decide) ?_
            refine Ev_sub [] rfl ?_
            exact hK_3 _ h
theorem k_X10_load {s : Sg} {v1 v2 v3 v4 : Int} {post : Int → Sg → Prop} (h : w_X10_load s v1 v2 v3 v4 post) : EvM mX10_load 3 [(2, 68), (0, v1), (0, v2), (0, v3), (0, v4)] s (poIs 0 post) := by
  refine EvM_of rfl (by decide +kernel) (Nat.le_of_ble_eq_true rfl) ?_
  unfold w_X10_load at h
  show Ev mX10_load 3 0 [(0, (2, 68)), (1, (0, v1)), (2, (0, v2)), (3, (0, v3)), (4, (0, v4))] [] s (poIs 0 post)
  refine Ev_iload_n dX10_load_0 1 rfl ?_
  refine Ev_invS (d' := 1) [(0, v1)] dX10_load_1 M_X10_isSheet (Or.inl q_1350) (by decide) rfl (Nat.le_of_ble_eq_true rfl) (k_X10_isSheet h) ?_
  rintro _ _ ⟨rfl, r_1, rfl, h⟩
  refine jc_0 (P := Ev mX10_load 3 26 [] [] s (poIs 0 post)) h ?_ ?_
  · intro  h
    refine Ev_bipush (v := -2) dX10_load_26 (by decide +kernel) ?_
    exact Ev_ret dX10_load_28 trivial (poIs_mk h)
  · intro K_2 hK_2 h
    refine Ev_if_eq (tgt := 26) dX10_load_4 (by decide) (fun hc => ?_) (fun hc => ?_)
    · replace h := h.1 hc
      refine Ev_sub [] rfl ?_
      exact hK_2 h
    · replace h := h.2 hc
      refine Ev_iload_n dX10_load_7 2 rfl ?_
      refine Ev_iconst (v := 0) dX10_load_8 rfl ⟨by decide, by decide⟩ ?_
      refine Ev_iconst (v := 1) dX10_load_9 rfl ⟨by decide, by decide⟩ ?_
      refine Ev_invS (d' := 0) [(0, v2), (0, 0), (0, 1)] dX10_load_10 M_X10_in (Or.inl q_1039) (by decide) rfl (Nat.le_of_ble_eq_true rfl) (k_X10_in h) ?_
      rintro _ _ ⟨rfl, r_3, rfl, h⟩
      refine Ev_if_eq (tgt := 26) dX10_load_13 (by decide) (fun hc => ?_) (fun hc => ?_)
      · replace h := h.1 hc
        refine Ev_sub [] rfl ?_
        exact hK_2 h
      · replace h := h.2 hc
        refine Ev_iload dX10_load_16 4 rfl ?_
        refine Ev_iconst (v := 0) dX10_load_18 rfl ⟨by decide, by decide⟩ ?_
        refine Ev_iconst (v := 5) dX10_load_19 rfl ⟨by decide, by decide⟩ ?_
        refine Ev_invS (d' := 0) [(0, v4), (0, 0), (0, 5)] dX10_load_20 M_X10_in (Or.inl q_1039) (by decide) rfl (Nat.le_of_ble_eq_true rfl) (k_X10_in h) ?_
        rintro _ _ ⟨rfl, r_4, rfl, h⟩
        refine Ev_if_ne (tgt := 29) dX10_load_23 (by decide) (fun hc => ?_) (fun hc => ?_)
        · replace h := h.1 hc
          refine Ev_aload_n dX10_load_29 0 rfl ?_
          refine Ev_getr 68 (184) dX10_load_30 f_RX10_97 rfl sh_68 rfl ?_
          refine Ev_iload_n dX10_load_33 1 rfl ?_
          obtain ⟨hb_5, h⟩ := h
          refine Ev_iald (184) dX10_load_34 rfl sh_184 hb_5 ?_
          refine jc_0 (P := Ev mX10_load 3 51 [(0, (2, 68)), (1, (0, v1)), (3, (0, v3)), (4, (0, v4))] [] s (poIs 0 post)) h ?_ ?_
          · intro  h
            refine Ev_aload_n dX10_load_51 0 rfl ?_
            refine Ev_getr 68 (184) dX10_load_52 f_RX10_97 rfl sh_68 rfl ?_
            refine Ev_iload_n dX10_load_55 1 rfl ?_
            obtain ⟨hb_7, h⟩ := h
            refine Ev_iald (184) dX10_load_56 rfl sh_184 hb_7 ?_
            refine Ev_if_ge (tgt := 63) dX10_load_57 (by decide) (fun hc => ?_) (fun hc => ?_)
            · replace h := h.1 hc
              refine Ev_iconst (v := 0) dX10_load_63 rfl ⟨by decide, by decide⟩ ?_
              refine Ev_istore dX10_load_64 (by decide) rfl ?_
              refine Ev_iconst (v := 0) dX10_load_66 rfl ⟨by decide, by decide⟩ ?_
              refine Ev_istore dX10_load_67 (by decide) rfl ?_
              refine Ev_sub [2, 3, 4, 5, 1, 0] rfl ?_
              refine li_2s (P := fun (v5_8 v6_9 : Int) (s_10 : Sg) => Ev mX10_load 3 69 [(0, (2, 68)), (1, (0, v1)), (3, (0, v3)), (4, (0, v4)), (5, (0, v5_8)), (6, (0, v6_9))] [] s_10 (poIs 0 post)) ?_ h
              intro again_11 v5_8 v6_9 s_10 hagain_11 h
              refine Ev_iload dX10_load_69 5 rfl ?_
              refine Ev_iload dX10_load_71 3 rfl ?_
              refine Ev_icmp_ge (tgt := 162) dX10_load_73 (by decide) (fun hc => ?_) (fun hc => ?_)
              · replace h := h.1 hc
                refine Ev_iload dX10_load_162 4 rfl ?_
                exact Ev_ret dX10_load_164 trivial (poIs_mk h)
              · replace h := h.2 hc
                refine Ev_iload_n dX10_load_76 2 rfl ?_
                refine Ev_iconst (v := 4) dX10_load_77 rfl ⟨by decide, by decide⟩ ?_
                refine Ev_iload dX10_load_78 5 rfl ?_
                refine Ev_imul dX10_load_80 ?_
                refine Ev_iadd dX10_load_81 ?_
                obtain ⟨v7_12, ev7_12⟩ : ∃ z : Int, z = w32 (v3 + (w32 (4 * v6_9))) := ⟨_, rfl⟩
                replace h := h v7_12 ev7_12
                rw [← ev7_12]
                refine Ev_istore dX10_load_82 (by decide) rfl ?_
                refine Ev_iload dX10_load_84 0 rfl ?_
                refine Ev_iconst (v := 0) dX10_load_86 rfl ⟨by decide, by decide⟩ ?_
                refine Ev_aload_n dX10_load_87 1 rfl ?_
                refine Ev_getr 68 (185) dX10_load_88 f_RX10_100 rfl sh_68 rfl ?_
                refine Ev_iload_n dX10_load_91 2 rfl ?_
                obtain ⟨hb_13, h⟩ := h
                refine Ev_iald (185) dX10_load_92 rfl sh_185 hb_13 ?_
                refine Ev_iconst (v := 4) dX10_load_93 rfl ⟨by decide, by decide⟩ ?_
                refine Ev_isub dX10_load_94 ?_
                refine Ev_invS (d' := 0) [(0, v7_12), (0, 0), (0, w32 ((s_10 185 v1.toNat) - 4))] dX10_load_95 M_X10_in (Or.inl q_1039) (by decide) rfl (Nat.le_of_ble_eq_true rfl) (k_X10_in h) ?_
                rintro _ _ ⟨rfl, r_14, rfl, h⟩
                refine Ev_if_ne (tgt := 104) dX10_load_98 (by decide) (fun hc => ?_) (fun hc => ?_)
                · replace h := h.1 hc
                  refine Ev_aload_n dX10_load_104 1 rfl ?_
                  refine Ev_aload_n dX10_load_105 1 rfl ?_
                  refine Ev_getr 68 (186) dX10_load_106 f_RX10_103 rfl sh_68 rfl ?_
                  refine Ev_iload_n dX10_load_109 2 rfl ?_
                  obtain ⟨hb_15, h⟩ := h
                  refine Ev_aaldi 186 (((187 + v1.toNat : Nat) : Int)) dX10_load_110 rfl sh_186 hb_15 (rr_186 hb_15).symm ?_
                  refine Ev_iload dX10_load_111 0 rfl ?_
                  obtain ⟨hb_16, h⟩ := h
                  refine Ev_iald (187 + v1.toNat) dX10_load_113 rfl (sr_186 hb_15) hb_16 ?_
                  refine Ev_aload_n dX10_load_114 1 rfl ?_
                  refine Ev_getr 68 (186) dX10_load_115 f_RX10_103 rfl sh_68 rfl ?_
                  refine Ev_iload_n dX10_load_118 2 rfl ?_
                  obtain ⟨hb_17, h⟩ := h
                  refine Ev_aaldi 186 (((187 + v1.toNat : Nat) : Int)) dX10_load_119 rfl sh_186 hb_17 (rr_186 hb_17).symm ?_
                  refine Ev_iload dX10_load_120 0 rfl ?_
                  refine Ev_iconst (v := 1) dX10_load_122 rfl ⟨by decide, by decide⟩ ?_
                  refine Ev_iadd dX10_load_123 ?_
                  obtain ⟨hb_18, h⟩ := h
                  refine Ev_iald (187 + v1.toNat) dX10_load_124 rfl (sr_186 hb_17) hb_18 ?_
                  refine Ev_aload_n dX10_load_125 1 rfl ?_
                  refine Ev_getr 68 (186) dX10_load_126 f_RX10_103 rfl sh_68 rfl ?_
                  refine Ev_iload_n dX10_load_129 2 rfl ?_
                  obtain ⟨hb_19, h⟩ := h
                  refine Ev_aaldi 186 (((187 + v1.toNat : Nat) : Int)) dX10_load_130 rfl sh_186 hb_19 (rr_186 hb_19).symm ?_
                  refine Ev_iload dX10_load_131 0 rfl ?_
                  refine Ev_iconst (v := 2) dX10_load_133 rfl ⟨by decide, by decide⟩ ?_
                  refine Ev_iadd dX10_load_134 ?_
                  obtain ⟨hb_20, h⟩ := h
                  refine Ev_iald (187 + v1.toNat) dX10_load_135 rfl (sr_186 hb_19) hb_20 ?_
                  refine Ev_aload_n dX10_load_136 1 rfl ?_
                  refine Ev_getr 68 (186) dX10_load_137 f_RX10_103 rfl sh_68 rfl ?_
                  refine Ev_iload_n dX10_load_140 2 rfl ?_
                  obtain ⟨hb_21, h⟩ := h
                  refine Ev_aaldi 186 (((187 + v1.toNat : Nat) : Int)) dX10_load_141 rfl sh_186 hb_21 (rr_186 hb_21).symm ?_
                  refine Ev_iload dX10_load_142 0 rfl ?_
                  refine Ev_iconst (v := 3) dX10_load_144 rfl ⟨by decide, by decide⟩ ?_
                  refine Ev_iadd dX10_load_145 ?_
                  obtain ⟨hb_22, h⟩ := h
                  refine Ev_iald (187 + v1.toNat) dX10_load_146 rfl (sr_186 hb_21) hb_22 ?_
                  refine Ev_invV (d' := 2) [(0, s_10 (187 + v1.toNat) v7_12.toNat), (0, s_10 (187 + v1.toNat) (w32 (v7_12 + 1)).toNat), (0, s_10 (187 + v1.toNat) (w32 (v7_12 + 2)).toNat), (0, s_10 (187 + v1.toNat) (w32 (v7_12 + 3)).toNat)] 68 dX10_load_147 M_X10_line q_1341 (by decide) rfl rfl sh_68 rfl (Nat.le_of_ble_eq_true rfl) (k_X10_line h) ?_
                  rintro _ s_24 ⟨r_23, rfl, h⟩
                  refine jc_1 (P := fun (v5_25 : Int) => Ev mX10_load 3 156 [(0, (2, 68)), (1, (0, v1)), (3, (0, v3)), (4, (0, v4)), (5, (0, v5_25)), (6, (0, v6_9))] [] s_24 (poIs 0 post)) h ?_ ?_
                  · intro v5_25 h
                    obtain ⟨v6_27, ev6_27⟩ : ∃ z : Int, z = w32 (v6_9 + 1) := ⟨_, rfl⟩
                    replace h := h v6_27 ev6_27
                    refine Ev_iinc (v := v6_27) dX10_load_156 5 rfl ev6_27.symm (by decide) rfl ?_
                    refine Ev_goto (tgt := 69) dX10_load_159 (by decide) ?_
                    refine Ev_sub [1, 2, 3, 4, 5, 0] rfl ?_
                    exact hagain_11 _ _ _ h
                  · intro K_26 hK_26 h
                    refine Ev_if_lt (tgt := 156) dX10_load_150 (by decide) (fun hc => ?_) (fun hc => ?_)
                    · replace h := h.1 hc
                      refine Ev_sub [1, 2, 3, 4, 5, 6] rfl ?_
                      exact hK_26 _ h
                    · replace h := h.2 hc
                      obtain ⟨v5_28, ev5_28⟩ : ∃ z : Int, z = w32 (v5_8 + 1) := ⟨_, rfl⟩
                      replace h := h v5_28 ev5_28
                      refine Ev_iinc (v := v5_28) dX10_load_153 5 rfl ev5_28.symm (by decide) rfl ?_
                      refine Ev_sub [2, 3, 4, 5, 0, 6] rfl ?_
                      exact hK_26 _ h
                · replace h := h.2 hc
                  refine Ev_bipush (v := -12) dX10_load_101 (by decide +kernel) ?_
                  exact Ev_ret dX10_load_103 trivial (poIs_mk h)
            · replace h := h.2 hc
              refine Ev_bipush (v := -11) dX10_load_60 (by decide +kernel) ?_
              exact Ev_ret dX10_load_62 trivial (poIs_mk h)
          · intro K_6 hK_6 h
            refine Ev_if_lt (tgt := 51) dX10_load_35 (by decide) (fun hc => ?_) (fun hc => ?_)
            · replace h := h.1 hc
              refine Ev_sub [0, 1, 3, 4] rfl ?_
              exact hK_6 h
            · replace h := h.2 hc
              refine Ev_aload_n dX10_load_38 0 rfl ?_
              refine Ev_getr 68 (184) dX10_load_39 f_RX10_97 rfl sh_68 rfl ?_
              refine Ev_iload_n dX10_load_42 1 rfl ?_
              obtain ⟨hb_29, h⟩ := h
              refine Ev_iald (184) dX10_load_43 rfl sh_184 hb_29 ?_
              refine Ev_iload_n dX10_load_44 2 rfl ?_
              refine Ev_icmp_eq (tgt := 51) dX10_load_45 (by decide) (fun hc => ?_) (fun hc => ?_)
              · replace h := h.1 hc
                refine Ev_sub [0, 1, 3, 4] rfl ?_
                exact hK_6 h
              · replace h := h.2 hc
                refine Ev_bipush (v := -13) dX10_load_48 (by decide +kernel) ?_
                exact Ev_ret dX10_load_50 trivial (poIs_mk h)
        · replace h := h.2 hc
          refine Ev_sub [] rfl ?_
          exact hK_2 h
theorem k_X10_most {s : Sg} {v1 : Int} {post : Int → Sg → Prop} (h : w_X10_most s v1 post) : EvM mX10_most 107 [(2, 68), (0, v1)] s (poIs 0 post) := by
  refine EvM_of rfl (by decide +kernel) (Nat.le_of_ble_eq_true rfl) ?_
  unfold w_X10_most at h
  show Ev mX10_most 107 0 [(0, (2, 68)), (1, (0, v1))] [] s (poIs 0 post)
  refine Ev_iload_n dX10_most_0 1 rfl ?_
  refine Ev_iconst (v := 0) dX10_most_1 rfl ⟨by decide, by decide⟩ ?_
  refine Ev_iconst (v := 1) dX10_most_2 rfl ⟨by decide, by decide⟩ ?_
  refine Ev_invS (d' := 0) [(0, v1), (0, 0), (0, 1)] dX10_most_3 M_X10_in (Or.inl q_1039) (by decide) rfl (Nat.le_of_ble_eq_true rfl) (k_X10_in h) ?_
  rintro _ _ ⟨rfl, r_1, rfl, h⟩
  refine Ev_if_ne (tgt := 12) dX10_most_6 (by decide) (fun hc => ?_) (fun hc => ?_)
  · replace h := h.1 hc
    refine Ev_iconst (v := -1) dX10_most_12 rfl ⟨by decide, by decide⟩ ?_
    refine Ev_istore_n dX10_most_13 (by decide) rfl ?_
    refine Ev_iconst (v := -1) dX10_most_14 rfl ⟨by decide, by decide⟩ ?_
    refine Ev_istore_n dX10_most_15 (by decide) rfl ?_
    refine Ev_iconst (v := 0) dX10_most_16 rfl ⟨by decide, by decide⟩ ?_
    refine Ev_istore dX10_most_17 (by decide) rfl ?_
    refine Ev_sub [3, 4, 2, 1, 0] rfl ?_
    refine li_3s (P := fun (v2_2 v3_3 v4_4 : Int) (s_5 : Sg) => Ev mX10_most 107 19 [(0, (2, 68)), (1, (0, v1)), (2, (0, v2_2)), (3, (0, v3_3)), (4, (0, v4_4))] [] s_5 (poIs 0 post)) ?_ h
    intro again_6 v2_2 v3_3 v4_4 s_5 hagain_6 h
    refine Ev_iload dX10_most_19 4 rfl ?_
    refine Ev_aload_n dX10_most_21 0 rfl ?_
    refine Ev_geti 68 dX10_most_22 f_RX10_109 rfl sh_68 ?_
    refine Ev_icmp_ge (tgt := 62) dX10_most_25 (by decide) (fun hc => ?_) (fun hc => ?_)
    · replace h := h.1 hc
      refine Ev_iload_n dX10_most_62 1 rfl ?_
      refine jc_1 (P := fun (t_7 : Int) => Ev mX10_most 107 71 [] [(0, t_7)] s_5 (poIs 0 post)) h ?_ ?_
      · intro t_7 h
        exact Ev_ret dX10_most_71 trivial (poIs_mk h)
      · intro K_8 hK_8 h
        refine Ev_if_ne (tgt := 70) dX10_most_63 (by decide) (fun hc => ?_) (fun hc => ?_)
        · replace h := h.1 hc
          refine Ev_iload_n dX10_most_70 3 rfl ?_
          refine Ev_sub [] rfl ?_
          exact hK_8 _ h
        · replace h := h.2 hc
          refine Ev_iload_n dX10_most_66 2 rfl ?_
          refine Ev_goto (tgt := 71) dX10_most_67 (by decide) ?_
          refine Ev_sub [] rfl ?_
          exact hK_8 _ h
    · replace h := h.2 hc
      refine Ev_aload_n dX10_most_28 0 rfl ?_
      refine Ev_iload dX10_most_29 4 rfl ?_
      refine Ev_invV (d' := 106) [(0, v4_4)] 68 dX10_most_31 M_X10_facesWithout q_1303 (by decide) rfl rfl sh_68 rfl (Nat.le_of_ble_eq_true rfl) (k_X10_facesWithout h) ?_
      rintro _ s_10 ⟨r_9, rfl, h⟩
      refine Ev_istore dX10_most_34 (by decide) rfl ?_
      refine Ev_iload_n dX10_most_36 3 rfl ?_
      refine Ev_iconst (v := -1) dX10_most_37 rfl ⟨by decide, by decide⟩ ?_
      refine jc_2 (P := fun (v2_11 v3_12 : Int) => Ev mX10_most 107 56 [(0, (2, 68)), (1, (0, v1)), (2, (0, v2_11)), (3, (0, v3_12)), (4, (0, v4_4))] [] s_10 (poIs 0 post)) h ?_ ?_
      · intro v2_11 v3_12 h
        obtain ⟨v4_14, ev4_14⟩ : ∃ z : Int, z = w32 (v4_4 + 1) := ⟨_, rfl⟩
        replace h := h v4_14 ev4_14
        refine Ev_iinc (v := v4_14) dX10_most_56 4 rfl ev4_14.symm (by decide) rfl ?_
        refine Ev_goto (tgt := 19) dX10_most_59 (by decide) ?_
        refine Ev_sub [1, 2, 3, 4, 0] rfl ?_
        exact hagain_6 _ _ _ _ h
      · intro K_13 hK_13 h
        refine jc_0 (P := Ev mX10_most 107 50 [(0, (2, 68)), (1, (0, v1)), (4, (0, v4_4)), (5, (0, r_9))] [] s_10 (poIs 0 post)) h ?_ ?_
        · intro  h
          refine Ev_iload dX10_most_50 2 rfl ?_
          refine Ev_istore_n dX10_most_52 (by decide) rfl ?_
          refine Ev_iload dX10_most_53 4 rfl ?_
          refine Ev_istore_n dX10_most_55 (by decide) rfl ?_
          refine Ev_sub [2, 3, 1, 0, 4] rfl ?_
          exact hK_13 _ _ h
        · intro K_15 hK_15 h
          refine Ev_icmp_eq (tgt := 50) dX10_most_38 (by decide) (fun hc => ?_) (fun hc => ?_)
          · replace h := h.1 hc
            refine Ev_sub [1, 2, 5, 0] rfl ?_
            exact hK_15 h
          · replace h := h.2 hc
            refine Ev_iload dX10_most_41 0 rfl ?_
            refine Ev_iload_n dX10_most_43 4 rfl ?_
            refine Ev_icmp_lt (tgt := 50) dX10_most_44 (by decide) (fun hc => ?_) (fun hc => ?_)
            · replace h := h.1 hc
              refine Ev_sub [1, 2, 5, 0] rfl ?_
              exact hK_15 h
            · replace h := h.2 hc
              refine Ev_goto (tgt := 56) dX10_most_47 (by decide) ?_
              refine Ev_sub [1, 2, 3, 4, 5] rfl ?_
              exact hK_13 _ _ h
  · replace h := h.2 hc
    refine Ev_bipush (v := -2) dX10_most_9 (by decide +kernel) ?_
    exact Ev_ret dX10_most_11 trivial (poIs_mk h)
theorem k_X10_move {s : Sg} {v1 v2 v3 v4 : Int} {post : Int → Sg → Prop} (h : w_X10_move s v1 v2 v3 v4 post) : EvM mX10_move 2 [(2, 68), (0, v1), (0, v2), (0, v3), (0, v4)] s (poIs 0 post) := by
  refine EvM_of rfl (by decide +kernel) (Nat.le_of_ble_eq_true rfl) ?_
  unfold w_X10_move at h
  show Ev mX10_move 2 0 [(0, (2, 68)), (1, (0, v1)), (2, (0, v2)), (3, (0, v3)), (4, (0, v4))] [] s (poIs 0 post)
  refine Ev_aload_n dX10_move_0 0 rfl ?_
  refine Ev_iload_n dX10_move_1 1 rfl ?_
  refine Ev_invV (d' := 1) [(0, v1)] 68 dX10_move_2 M_X10_isLine q_1050 (by decide) rfl rfl sh_68 rfl (Nat.le_of_ble_eq_true rfl) (k_X10_isLine h) ?_
  rintro _ _ ⟨rfl, r_1, rfl, h⟩
  refine jc_0 (P := Ev mX10_move 2 32 [] [] s (poIs 0 post)) h ?_ ?_
  · intro  h
    refine Ev_bipush (v := -2) dX10_move_32 (by decide +kernel) ?_
    exact Ev_ret dX10_move_34 trivial (poIs_mk h)
  · intro K_2 hK_2 h
    refine Ev_if_eq (tgt := 32) dX10_move_5 (by decide) (fun hc => ?_) (fun hc => ?_)
    · replace h := h.1 hc
      refine Ev_sub [] rfl ?_
      exact hK_2 h
    · replace h := h.2 hc
      refine Ev_iload_n dX10_move_8 2 rfl ?_
      refine Ev_iconst (v := 0) dX10_move_9 rfl ⟨by decide, by decide⟩ ?_
      refine Ev_iconst (v := 1) dX10_move_10 rfl ⟨by decide, by decide⟩ ?_
      refine Ev_invS (d' := 0) [(0, v2), (0, 0), (0, 1)] dX10_move_11 M_X10_in (Or.inl q_1039) (by decide) rfl (Nat.le_of_ble_eq_true rfl) (k_X10_in h) ?_
      rintro _ _ ⟨rfl, r_3, rfl, h⟩
      refine Ev_if_eq (tgt := 32) dX10_move_14 (by decide) (fun hc => ?_) (fun hc => ?_)
      · replace h := h.1 hc
        refine Ev_sub [] rfl ?_
        exact hK_2 h
      · replace h := h.2 hc
        refine Ev_iload_n dX10_move_17 3 rfl ?_
        refine Ev_invS (d' := 1) [(0, v3)] dX10_move_18 M_X10_isOnSheet (Or.inl q_1036) (by decide) rfl (Nat.le_of_ble_eq_true rfl) (k_X10_isOnSheet h) ?_
        rintro _ _ ⟨rfl, r_4, rfl, h⟩
        refine Ev_if_eq (tgt := 32) dX10_move_21 (by decide) (fun hc => ?_) (fun hc => ?_)
        · replace h := h.1 hc
          refine Ev_sub [] rfl ?_
          exact hK_2 h
        · replace h := h.2 hc
          refine Ev_iload dX10_move_24 4 rfl ?_
          refine Ev_invS (d' := 1) [(0, v4)] dX10_move_26 M_X10_isOnSheet (Or.inl q_1036) (by decide) rfl (Nat.le_of_ble_eq_true rfl) (k_X10_isOnSheet h) ?_
          rintro _ _ ⟨rfl, r_5, rfl, h⟩
          refine Ev_if_ne (tgt := 35) dX10_move_29 (by decide) (fun hc => ?_) (fun hc => ?_)
          · replace h := h.1 hc
            refine Ev_iload_n dX10_move_35 2 rfl ?_
            refine jc_1 (P := fun (t_6 : Int) => Ev mX10_move 2 54 [(0, (2, 68)), (1, (0, v1)), (2, (0, v2)), (3, (0, v3)), (4, (0, v4))] [(0, t_6)] s (poIs 0 post)) h ?_ ?_
            · intro t_6 h
              refine Ev_istore dX10_move_54 (by decide) rfl ?_
              refine Ev_iload_n dX10_move_56 3 rfl ?_
              refine jc_1 (P := fun (t_8 : Int) => Ev mX10_move 2 75 [(0, (2, 68)), (1, (0, v1)), (3, (0, v3)), (4, (0, v4)), (5, (0, t_6))] [(0, t_8)] s (poIs 0 post)) h ?_ ?_
              · intro t_8 h
                refine Ev_istore dX10_move_75 (by decide) rfl ?_
                refine Ev_iload_n dX10_move_77 3 rfl ?_
                refine Ev_iload dX10_move_78 5 rfl ?_
                refine jc_0 (P := Ev mX10_move 2 93 [(0, (2, 68)), (1, (0, v1)), (3, (0, v3)), (4, (0, v4)), (5, (0, t_6)), (6, (0, t_8))] [] s (poIs 0 post)) h ?_ ?_
                · intro  h
                  refine Ev_aload_n dX10_move_93 0 rfl ?_
                  refine Ev_iload_n dX10_move_94 1 rfl ?_
                  refine Ev_iload_n dX10_move_95 2 rfl ?_
                  refine Ev_iload dX10_move_96 3 rfl ?_
                  refine Ev_iload dX10_move_98 4 rfl ?_
                  refine Ev_iload dX10_move_100 5 rfl ?_
                  refine Ev_invV (d' := 0) [(0, v1), (0, v3), (0, v4), (0, t_6), (0, t_8)] 68 dX10_move_102 M_X10_stands q_1042 (by decide) rfl rfl sh_68 rfl (Nat.le_of_ble_eq_true rfl) (k_X10_stands h) ?_
                  rintro _ s_11 ⟨rfl, h⟩
                  refine Ev_iconst (v := 1) dX10_move_105 rfl ⟨by decide, by decide⟩ ?_
                  exact Ev_ret dX10_move_106 trivial (poIs_mk h)
                · intro K_10 hK_10 h
                  refine Ev_icmp_ne (tgt := 93) dX10_move_80 (by decide) (fun hc => ?_) (fun hc => ?_)
                  · replace h := h.1 hc
                    refine Ev_sub [1, 2, 3, 4, 5, 0] rfl ?_
                    exact hK_10 h
                  · replace h := h.2 hc
                    refine Ev_iload dX10_move_83 4 rfl ?_
                    refine Ev_iload dX10_move_85 0 rfl ?_
                    refine Ev_icmp_ne (tgt := 93) dX10_move_87 (by decide) (fun hc => ?_) (fun hc => ?_)
                    · replace h := h.1 hc
                      refine Ev_sub [1, 2, 3, 4, 5, 0] rfl ?_
                      exact hK_10 h
                    · replace h := h.2 hc
                      refine Ev_bipush (v := -2) dX10_move_90 (by decide +kernel) ?_
                      exact Ev_ret dX10_move_92 trivial (poIs_mk h)
              · intro K_9 hK_9 h
                refine Ev_if_ne (tgt := 69) dX10_move_57 (by decide) (fun hc => ?_) (fun hc => ?_)
                · replace h := h.1 hc
                  refine Ev_aload_n dX10_move_69 1 rfl ?_
                  refine Ev_getr 68 (70) dX10_move_70 f_RX10_13 rfl sh_68 rfl ?_
                  refine Ev_iload_n dX10_move_73 2 rfl ?_
                  obtain ⟨hb_12, h⟩ := h
                  refine Ev_iald (70) dX10_move_74 rfl sh_70 hb_12 ?_
                  refine Ev_sub [1, 2, 4, 5, 0] rfl ?_
                  exact hK_9 _ h
                · replace h := h.2 hc
                  refine Ev_aload_n dX10_move_60 1 rfl ?_
                  refine Ev_getr 68 (72) dX10_move_61 f_RX10_19 rfl sh_68 rfl ?_
                  refine Ev_iload_n dX10_move_64 2 rfl ?_
                  obtain ⟨hb_13, h⟩ := h
                  refine Ev_iald (72) dX10_move_65 rfl sh_72 hb_13 ?_
                  refine Ev_goto (tgt := 75) dX10_move_66 (by decide) ?_
                  refine Ev_sub [1, 2, 4, 5, 0] rfl ?_
                  exact hK_9 _ h
            · intro K_7 hK_7 h
              refine Ev_if_ne (tgt := 48) dX10_move_36 (by decide) (fun hc => ?_) (fun hc => ?_)
              · replace h := h.1 hc
                refine Ev_aload_n dX10_move_48 0 rfl ?_
                refine Ev_getr 68 (69) dX10_move_49 f_RX10_9 rfl sh_68 rfl ?_
                refine Ev_iload_n dX10_move_52 1 rfl ?_
                obtain ⟨hb_14, h⟩ := h
                refine Ev_iald (69) dX10_move_53 rfl sh_69 hb_14 ?_
                exact hK_7 _ h
              · replace h := h.2 hc
                refine Ev_aload_n dX10_move_39 0 rfl ?_
                refine Ev_getr 68 (71) dX10_move_40 f_RX10_16 rfl sh_68 rfl ?_
                refine Ev_iload_n dX10_move_43 1 rfl ?_
                obtain ⟨hb_15, h⟩ := h
                refine Ev_iald (71) dX10_move_44 rfl sh_71 hb_15 ?_
                refine Ev_goto (tgt := 54) dX10_move_45 (by decide) ?_
                exact hK_7 _ h
          · replace h := h.2 hc
            refine Ev_sub [] rfl ?_
            exact hK_2 h
theorem k_X10_on {s : Sg} {v1 v2 v3 : Int} {post : Int → Prop} (h : w_X10_on s v1 v2 v3 post) : EvM mX10_on 3 [(2, 68), (0, v1), (0, v2), (0, v3)] s (poI 0 s post) := by
  refine EvM_of rfl (by decide +kernel) (Nat.le_of_ble_eq_true rfl) ?_
  unfold w_X10_on at h
  show Ev mX10_on 3 0 [(0, (2, 68)), (1, (0, v1)), (2, (0, v2)), (3, (0, v3))] [] s (poI 0 s post)
  refine Ev_iload_n dX10_on_0 1 rfl ?_
  refine Ev_iload_n dX10_on_1 2 rfl ?_
  refine Ev_iload_n dX10_on_2 3 rfl ?_
  refine Ev_invS (d' := 1) [(0, v1), (0, v2), (0, v3)] dX10_on_3 M_X10_isPlace (Or.inl q_1276) (by decide) rfl (Nat.le_of_ble_eq_true rfl) (k_X10_isPlace h) ?_
  rintro _ _ ⟨rfl, r_1, rfl, h⟩
  refine jc_1 (P := fun (t_2 : Int) => Ev mX10_on 3 26 [] [(0, t_2)] s (poI 0 s post)) h ?_ ?_
  · intro t_2 h
    exact Ev_ret dX10_on_26 trivial (poI_mk h)
  · intro K_3 hK_3 h
    refine Ev_if_eq (tgt := 24) dX10_on_6 (by decide) (fun hc => ?_) (fun hc => ?_)
    · replace h := h.1 hc
      refine Ev_bipush (v := -2) dX10_on_24 (by decide +kernel) ?_
      refine Ev_sub [] rfl ?_
      exact hK_3 _ h
    · replace h := h.2 hc
      refine Ev_aload_n dX10_on_9 0 rfl ?_
      refine Ev_iload_n dX10_on_10 1 rfl ?_
      refine Ev_i2l dX10_on_11 ?_
      refine Ev_iload_n dX10_on_12 3 rfl ?_
      refine Ev_i2l dX10_on_13 ?_
      refine Ev_iload_n dX10_on_14 2 rfl ?_
      refine Ev_i2l dX10_on_15 ?_
      refine Ev_iload_n dX10_on_16 3 rfl ?_
      refine Ev_i2l dX10_on_17 ?_
      refine Ev_invV (d' := 2) [(1, v1), (1, v3), (1, v2), (1, v3)] 68 dX10_on_18 M_X10_linesOn q_1113 (by decide) rfl rfl sh_68 rfl (Nat.le_of_ble_eq_true rfl) (k_X10_linesOn h) ?_
      rintro _ _ ⟨rfl, r_4, rfl, h⟩
      refine Ev_goto (tgt := 26) dX10_on_21 (by decide) ?_
      refine Ev_sub [] rfl ?_
      exact hK_3 _ h
theorem k_X10_order {s : Sg} {v1 v2 v3 : Int} {post : Int → Sg → Prop} (h : w_X10_order s v1 v2 v3 post) : EvM mX10_order 3 [(2, 68), (0, v1), (0, v2), (0, v3)] s (poIs 0 post) := by
  refine EvM_of rfl (by decide +kernel) (Nat.le_of_ble_eq_true rfl) ?_
  unfold w_X10_order at h
  show Ev mX10_order 3 0 [(0, (2, 68)), (1, (0, v1)), (2, (0, v2)), (3, (0, v3))] [] s (poIs 0 post)
  refine Ev_iload_n dX10_order_0 1 rfl ?_
  refine Ev_iconst (v := 0) dX10_order_1 rfl ⟨by decide, by decide⟩ ?_
  refine Ev_sipush (v := 400) dX10_order_2 (by decide +kernel) ?_
  refine Ev_invS (d' := 0) [(0, v1), (0, 0), (0, 400)] dX10_order_5 M_X10_in (Or.inl q_1039) (by decide) rfl (Nat.le_of_ble_eq_true rfl) (k_X10_in h) ?_
  rintro _ _ ⟨rfl, r_1, rfl, h⟩
  refine jc_0 (P := Ev mX10_order 3 21 [] [] s (poIs 0 post)) h ?_ ?_
  · intro  h
    refine Ev_bipush (v := -2) dX10_order_21 (by decide +kernel) ?_
    exact Ev_ret dX10_order_23 trivial (poIs_mk h)
  · intro K_2 hK_2 h
    refine Ev_if_eq (tgt := 21) dX10_order_8 (by decide) (fun hc => ?_) (fun hc => ?_)
    · replace h := h.1 hc
      refine Ev_sub [] rfl ?_
      exact hK_2 h
    · replace h := h.2 hc
      refine Ev_iload_n dX10_order_11 2 rfl ?_
      refine Ev_iconst (v := 1) dX10_order_12 rfl ⟨by decide, by decide⟩ ?_
      refine Ev_bipush (v := 10) dX10_order_13 (by decide +kernel) ?_
      refine Ev_invS (d' := 0) [(0, v2), (0, 1), (0, 10)] dX10_order_15 M_X10_in (Or.inl q_1039) (by decide) rfl (Nat.le_of_ble_eq_true rfl) (k_X10_in h) ?_
      rintro _ _ ⟨rfl, r_3, rfl, h⟩
      refine Ev_if_ne (tgt := 24) dX10_order_18 (by decide) (fun hc => ?_) (fun hc => ?_)
      · replace h := h.1 hc
        refine Ev_aload_n dX10_order_24 0 rfl ?_
        refine Ev_iload_n dX10_order_25 1 rfl ?_
        refine Ev_i2l dX10_order_26 ?_
        refine Ev_iload_n dX10_order_27 2 rfl ?_
        refine Ev_i2l dX10_order_28 ?_
        refine Ev_iconst (v := -1) dX10_order_29 rfl ⟨by decide, by decide⟩ ?_
        refine Ev_invV (d' := 2) [(1, v1), (1, v2), (0, (-1))] 68 dX10_order_30 M_X10_tellOrder q_1167 (by decide) rfl rfl sh_68 rfl (Nat.le_of_ble_eq_true rfl) (k_X10_tellOrder h) ?_
        rintro _ s_4 ⟨rfl, h⟩
        refine Ev_iload_n dX10_order_33 3 rfl ?_
        refine Ev_iconst (v := -1) dX10_order_34 rfl ⟨by decide, by decide⟩ ?_
        refine Ev_icmp_ne (tgt := 43) dX10_order_35 (by decide) (fun hc => ?_) (fun hc => ?_)
        · replace h := h.1 hc
          refine Ev_iload_n dX10_order_43 3 rfl ?_
          refine Ev_iconst (v := 0) dX10_order_44 rfl ⟨by decide, by decide⟩ ?_
          refine Ev_aload_n dX10_order_45 0 rfl ?_
          refine Ev_geti 68 dX10_order_46 f_RX10_247 rfl sh_68 ?_
          refine Ev_iconst (v := 1) dX10_order_49 rfl ⟨by decide, by decide⟩ ?_
          refine Ev_isub dX10_order_50 ?_
          refine Ev_invS (d' := 0) [(0, v3), (0, 0), (0, w32 ((s_4 68 20) - 1))] dX10_order_51 M_X10_in (Or.inl q_1039) (by decide) rfl (Nat.le_of_ble_eq_true rfl) (k_X10_in h) ?_
          rintro _ _ ⟨rfl, r_5, rfl, h⟩
          refine jc_1 (P := fun (t_6 : Int) => Ev mX10_order 3 68 [] [(0, t_6)] s_4 (poIs 0 post)) h ?_ ?_
          · intro t_6 h
            exact Ev_ret dX10_order_68 trivial (poIs_mk h)
          · intro K_7 hK_7 h
            refine Ev_if_eq (tgt := 66) dX10_order_54 (by decide) (fun hc => ?_) (fun hc => ?_)
            · replace h := h.1 hc
              refine Ev_bipush (v := -12) dX10_order_66 (by decide +kernel) ?_
              refine Ev_sub [] rfl ?_
              exact hK_7 _ h
            · replace h := h.2 hc
              refine Ev_aload_n dX10_order_57 0 rfl ?_
              refine Ev_getr 68 (82) dX10_order_58 f_RX10_51 rfl sh_68 rfl ?_
              refine Ev_iload_n dX10_order_61 3 rfl ?_
              obtain ⟨hb_8, h⟩ := h
              refine Ev_iald (82) dX10_order_62 rfl sh_82 hb_8 ?_
              refine Ev_goto (tgt := 68) dX10_order_63 (by decide) ?_
              refine Ev_sub [] rfl ?_
              exact hK_7 _ h
        · replace h := h.2 hc
          refine Ev_aload_n dX10_order_38 0 rfl ?_
          refine Ev_geti 68 dX10_order_39 f_RX10_247 rfl sh_68 ?_
          exact Ev_ret dX10_order_42 trivial (poIs_mk h)
      · replace h := h.2 hc
        refine Ev_sub [] rfl ?_
        exact hK_2 h
theorem k_X10_otherwise {s : Sg} {v1 v2 v3 : Int} {post : Int → Sg → Prop} (h : w_X10_otherwise s v1 v2 v3 post) : EvM mX10_otherwise 3 [(2, 68), (0, v1), (0, v2), (0, v3)] s (poIs 0 post) := by
  refine EvM_of rfl (by decide +kernel) (Nat.le_of_ble_eq_true rfl) ?_
  unfold w_X10_otherwise at h
  show Ev mX10_otherwise 3 0 [(0, (2, 68)), (1, (0, v1)), (2, (0, v2)), (3, (0, v3))] [] s (poIs 0 post)
  refine Ev_aload_n dX10_otherwise_0 0 rfl ?_
  refine Ev_iload_n dX10_otherwise_1 2 rfl ?_
  refine Ev_i2l dX10_otherwise_2 ?_
  refine Ev_lconst (v := 1) dX10_otherwise_3 (by decide +kernel) ?_
  refine Ev_iload_n dX10_otherwise_4 3 rfl ?_
  refine Ev_invV (d' := 2) [(1, v2), (1, 1), (0, v3)] 68 dX10_otherwise_5 M_X10_tellOrder q_1167 (by decide) rfl rfl sh_68 rfl (Nat.le_of_ble_eq_true rfl) (k_X10_tellOrder h) ?_
  rintro _ s_1 ⟨rfl, h⟩
  refine Ev_iconst (v := 0) dX10_otherwise_8 rfl ⟨by decide, by decide⟩ ?_
  refine Ev_istore dX10_otherwise_9 (by decide) rfl ?_
  refine Ev_sub [1, 2, 0] rfl ?_
  refine li_1 (P := fun (v4_2 : Int) => Ev mX10_otherwise 3 11 [(0, (2, 68)), (1, (0, v1)), (4, (0, v4_2))] [] s_1 (poIs 0 post)) ?_ h
  intro again_3 v4_2 hagain_3 h
  refine Ev_iload dX10_otherwise_11 2 rfl ?_
  refine Ev_aload_n dX10_otherwise_13 0 rfl ?_
  refine Ev_getr 68 (185) dX10_otherwise_14 f_RX10_100 rfl sh_68 rfl ?_
  refine Ev_iload_n dX10_otherwise_17 1 rfl ?_
  obtain ⟨hb_4, h⟩ := h
  refine Ev_iald (185) dX10_otherwise_18 rfl sh_185 hb_4 ?_
  refine Ev_icmp_ge (tgt := 59) dX10_otherwise_19 (by decide) (fun hc => ?_) (fun hc => ?_)
  · replace h := h.1 hc
    refine Ev_aload_n dX10_otherwise_59 0 rfl ?_
    refine Ev_geti 68 dX10_otherwise_60 f_RX10_247 rfl sh_68 ?_
    refine Ev_aload_n dX10_otherwise_63 0 rfl ?_
    refine Ev_getr 68 (185) dX10_otherwise_64 f_RX10_100 rfl sh_68 rfl ?_
    refine Ev_iload_n dX10_otherwise_67 1 rfl ?_
    obtain ⟨hb_5, h⟩ := h
    refine Ev_iald (185) dX10_otherwise_68 rfl sh_185 hb_5 ?_
    refine jc_1 (P := fun (t_6 : Int) => Ev mX10_otherwise 3 82 [] [(0, t_6)] s_1 (poIs 0 post)) h ?_ ?_
    · intro t_6 h
      exact Ev_ret dX10_otherwise_82 trivial (poIs_mk h)
    · intro K_7 hK_7 h
      refine Ev_icmp_le (tgt := 81) dX10_otherwise_69 (by decide) (fun hc => ?_) (fun hc => ?_)
      · replace h := h.1 hc
        refine Ev_iconst (v := -1) dX10_otherwise_81 rfl ⟨by decide, by decide⟩ ?_
        refine Ev_sub [] rfl ?_
        exact hK_7 _ h
      · replace h := h.2 hc
        refine Ev_aload_n dX10_otherwise_72 0 rfl ?_
        refine Ev_getr 68 (185) dX10_otherwise_73 f_RX10_100 rfl sh_68 rfl ?_
        refine Ev_iload_n dX10_otherwise_76 1 rfl ?_
        obtain ⟨hb_8, h⟩ := h
        refine Ev_iald (185) dX10_otherwise_77 rfl sh_185 hb_8 ?_
        refine Ev_goto (tgt := 82) dX10_otherwise_78 (by decide) ?_
        refine Ev_sub [] rfl ?_
        exact hK_7 _ h
  · replace h := h.2 hc
    refine Ev_iload dX10_otherwise_22 2 rfl ?_
    refine Ev_aload_n dX10_otherwise_24 0 rfl ?_
    refine Ev_geti 68 dX10_otherwise_25 f_RX10_247 rfl sh_68 ?_
    refine jc_0 (P := Ev mX10_otherwise 3 50 [(4, (0, v4_2))] [] s_1 (poIs 0 post)) h ?_ ?_
    · intro  h
      refine Ev_iload dX10_otherwise_50 0 rfl ?_
      exact Ev_ret dX10_otherwise_52 trivial (poIs_mk h)
    · intro K_9 hK_9 h
      refine Ev_icmp_ge (tgt := 50) dX10_otherwise_28 (by decide) (fun hc => ?_) (fun hc => ?_)
      · replace h := h.1 hc
        refine Ev_sub [2] rfl ?_
        exact hK_9 h
      · replace h := h.2 hc
        refine Ev_aload_n dX10_otherwise_31 0 rfl ?_
        refine Ev_getr 68 (82) dX10_otherwise_32 f_RX10_51 rfl sh_68 rfl ?_
        refine Ev_iload dX10_otherwise_35 2 rfl ?_
        obtain ⟨hb_10, h⟩ := h
        refine Ev_iald (82) dX10_otherwise_37 rfl sh_82 hb_10 ?_
        refine Ev_aload_n dX10_otherwise_38 0 rfl ?_
        refine Ev_getr 68 (186) dX10_otherwise_39 f_RX10_103 rfl sh_68 rfl ?_
        refine Ev_iload_n dX10_otherwise_42 1 rfl ?_
        obtain ⟨hb_11, h⟩ := h
        refine Ev_aaldi 186 (((187 + v1.toNat : Nat) : Int)) dX10_otherwise_43 rfl sh_186 hb_11 (rr_186 hb_11).symm ?_
        refine Ev_iload dX10_otherwise_44 2 rfl ?_
        obtain ⟨hb_12, h⟩ := h
        refine Ev_iald (187 + v1.toNat) dX10_otherwise_46 rfl (sr_186 hb_11) hb_12 ?_
        refine Ev_icmp_eq (tgt := 53) dX10_otherwise_47 (by decide) (fun hc => ?_) (fun hc => ?_)
        · replace h := h.1 hc
          obtain ⟨v4_13, ev4_13⟩ : ∃ z : Int, z = w32 (v4_2 + 1) := ⟨_, rfl⟩
          replace h := h v4_13 ev4_13
          refine Ev_iinc (v := v4_13) dX10_otherwise_53 2 rfl ev4_13.symm (by decide) rfl ?_
          refine Ev_goto (tgt := 11) dX10_otherwise_56 (by decide) ?_
          refine Ev_sub [1, 2, 0] rfl ?_
          exact hagain_3 _ h
        · replace h := h.2 hc
          refine Ev_sub [2] rfl ?_
          exact hK_9 h
theorem k_X10_point {s : Sg} {v1 v2 : Int} {post : Int → Sg → Prop} (h : w_X10_point s v1 v2 post) : EvM mX10_point 104 [(2, 68), (0, v1), (0, v2)] s (poIs 0 post) := by
  refine EvM_of rfl (by decide +kernel) (Nat.le_of_ble_eq_true rfl) ?_
  unfold w_X10_point at h
  show Ev mX10_point 104 0 [(0, (2, 68)), (1, (0, v1)), (2, (0, v2))] [] s (poIs 0 post)
  refine Ev_iload_n dX10_point_0 2 rfl ?_
  refine Ev_iconst (v := 0) dX10_point_1 rfl ⟨by decide, by decide⟩ ?_
  refine Ev_bipush (v := 6) dX10_point_2 (by decide +kernel) ?_
  refine Ev_invS (d' := 0) [(0, v2), (0, 0), (0, 6)] dX10_point_4 M_X10_in (Or.inl q_1039) (by decide) rfl (Nat.le_of_ble_eq_true rfl) (k_X10_in h) ?_
  rintro _ _ ⟨rfl, r_1, rfl, h⟩
  refine Ev_if_ne (tgt := 13) dX10_point_7 (by decide) (fun hc => ?_) (fun hc => ?_)
  · replace h := h.1 hc
    refine Ev_aload_n dX10_point_13 0 rfl ?_
    refine Ev_invV (d' := 103) [] 68 dX10_point_14 M_X10_tellPoints q_1094 (by decide) rfl rfl sh_68 rfl (Nat.le_of_ble_eq_true rfl) (k_X10_tellPoints h) ?_
    rintro _ s_2 ⟨rfl, h⟩
    refine Ev_iload_n dX10_point_17 1 rfl ?_
    refine Ev_iconst (v := 0) dX10_point_18 rfl ⟨by decide, by decide⟩ ?_
    refine Ev_aload_n dX10_point_19 0 rfl ?_
    refine Ev_geti 68 dX10_point_20 f_RX10_176 rfl sh_68 ?_
    refine Ev_iconst (v := 1) dX10_point_23 rfl ⟨by decide, by decide⟩ ?_
    refine Ev_isub dX10_point_24 ?_
    refine Ev_invS (d' := 0) [(0, v1), (0, 0), (0, w32 ((s_2 68 9) - 1))] dX10_point_25 M_X10_in (Or.inl q_1039) (by decide) rfl (Nat.le_of_ble_eq_true rfl) (k_X10_in h) ?_
    rintro _ _ ⟨rfl, r_3, rfl, h⟩
    refine Ev_if_ne (tgt := 34) dX10_point_28 (by decide) (fun hc => ?_) (fun hc => ?_)
    · replace h := h.1 hc
      refine Ev_iload_n dX10_point_34 2 rfl ?_
      refine Ev_iconst (v := 4) dX10_point_35 rfl ⟨by decide, by decide⟩ ?_
      refine Ev_icmp_ge (tgt := 88) dX10_point_36 (by decide) (fun hc => ?_) (fun hc => ?_)
      · replace h := h.1 hc
        refine Ev_iload_n dX10_point_88 2 rfl ?_
        refine Ev_iconst (v := 4) dX10_point_89 rfl ⟨by decide, by decide⟩ ?_
        refine Ev_icmp_ne (tgt := 99) dX10_point_90 (by decide) (fun hc => ?_) (fun hc => ?_)
        · replace h := h.1 hc
          refine Ev_iload_n dX10_point_99 2 rfl ?_
          refine Ev_iconst (v := 5) dX10_point_100 rfl ⟨by decide, by decide⟩ ?_
          refine Ev_icmp_ne (tgt := 110) dX10_point_101 (by decide) (fun hc => ?_) (fun hc => ?_)
          · replace h := h.1 hc
            refine Ev_aload_n dX10_point_110 0 rfl ?_
            refine Ev_invV (d' := 5) [] 68 dX10_point_111 M_X10_tellPieces q_1127 (by decide) rfl rfl sh_68 rfl (Nat.le_of_ble_eq_true rfl) (k_X10_tellPieces h) ?_
            rintro _ s_5 ⟨r_4, rfl, h⟩
            refine Ev_istore_n dX10_point_114 (by decide) rfl ?_
            refine Ev_aload_n dX10_point_115 1 rfl ?_
            refine Ev_getr 68 (77) dX10_point_116 f_RX10_35 rfl sh_68 rfl ?_
            refine Ev_iload_n dX10_point_119 2 rfl ?_
            obtain ⟨hb_6, h⟩ := h
            refine Ev_iald (77) dX10_point_120 rfl sh_77 hb_6 ?_
            exact Ev_ret dX10_point_121 trivial (poIs_mk h)
          · replace h := h.2 hc
            refine Ev_aload_n dX10_point_104 0 rfl ?_
            refine Ev_iload_n dX10_point_105 1 rfl ?_
            refine Ev_invV (d' := 2) [(0, v1)] 68 dX10_point_106 M_X10_endsAt q_1123 (by decide) rfl rfl sh_68 rfl (Nat.le_of_ble_eq_true rfl) (k_X10_endsAt h) ?_
            rintro _ _ ⟨rfl, r_7, rfl, h⟩
            exact Ev_ret dX10_point_109 trivial (poIs_mk h)
        · replace h := h.2 hc
          refine Ev_aload_n dX10_point_93 0 rfl ?_
          refine Ev_iload_n dX10_point_94 1 rfl ?_
          refine Ev_invV (d' := 3) [(0, v1)] 68 dX10_point_95 M_X10_linesAt q_1109 (by decide) rfl rfl sh_68 rfl (Nat.le_of_ble_eq_true rfl) (k_X10_linesAt h) ?_
          rintro _ _ ⟨rfl, r_8, rfl, h⟩
          exact Ev_ret dX10_point_98 trivial (poIs_mk h)
      · replace h := h.2 hc
        refine Ev_iload_n dX10_point_39 2 rfl ?_
        refine jc_1 (P := fun (t_9 : Int) => Ev mX10_point 104 86 [] [(1, t_9)] s_2 (poIs 0 post)) h ?_ ?_
        · intro t_9 h
          refine Ev_l2i dX10_point_86 ?_
          exact Ev_ret dX10_point_87 trivial (poIs_mk h)
        · intro K_10 hK_10 h
          refine Ev_if_ne (tgt := 52) dX10_point_40 (by decide) (fun hc => ?_) (fun hc => ?_)
          · replace h := h.1 hc
            refine Ev_iload_n dX10_point_52 2 rfl ?_
            refine Ev_iconst (v := 1) dX10_point_53 rfl ⟨by decide, by decide⟩ ?_
            refine Ev_icmp_ne (tgt := 66) dX10_point_54 (by decide) (fun hc => ?_) (fun hc => ?_)
            · replace h := h.1 hc
              refine Ev_iload_n dX10_point_66 2 rfl ?_
              refine Ev_iconst (v := 2) dX10_point_67 rfl ⟨by decide, by decide⟩ ?_
              refine Ev_icmp_ne (tgt := 80) dX10_point_68 (by decide) (fun hc => ?_) (fun hc => ?_)
              · replace h := h.1 hc
                refine Ev_aload_n dX10_point_80 0 rfl ?_
                refine Ev_getr 68 (76) dX10_point_81 f_RX10_32 rfl sh_68 rfl ?_
                refine Ev_iload_n dX10_point_84 1 rfl ?_
                obtain ⟨hb_11, h⟩ := h
                refine Ev_lald (76) dX10_point_85 rfl sh_76 hb_11 ?_
                refine Ev_sub [] rfl ?_
                exact hK_10 _ h
              · replace h := h.2 hc
                refine Ev_aload_n dX10_point_71 0 rfl ?_
                refine Ev_getr 68 (75) dX10_point_72 f_RX10_29 rfl sh_68 rfl ?_
                refine Ev_iload_n dX10_point_75 1 rfl ?_
                obtain ⟨hb_12, h⟩ := h
                refine Ev_lald (75) dX10_point_76 rfl sh_75 hb_12 ?_
                refine Ev_goto (tgt := 86) dX10_point_77 (by decide) ?_
                refine Ev_sub [] rfl ?_
                exact hK_10 _ h
            · replace h := h.2 hc
              refine Ev_aload_n dX10_point_57 0 rfl ?_
              refine Ev_getr 68 (74) dX10_point_58 f_RX10_26 rfl sh_68 rfl ?_
              refine Ev_iload_n dX10_point_61 1 rfl ?_
              obtain ⟨hb_13, h⟩ := h
              refine Ev_lald (74) dX10_point_62 rfl sh_74 hb_13 ?_
              refine Ev_goto (tgt := 86) dX10_point_63 (by decide) ?_
              refine Ev_sub [] rfl ?_
              exact hK_10 _ h
          · replace h := h.2 hc
            refine Ev_aload_n dX10_point_43 0 rfl ?_
            refine Ev_getr 68 (73) dX10_point_44 f_RX10_22 rfl sh_68 rfl ?_
            refine Ev_iload_n dX10_point_47 1 rfl ?_
            obtain ⟨hb_14, h⟩ := h
            refine Ev_lald (73) dX10_point_48 rfl sh_73 hb_14 ?_
            refine Ev_goto (tgt := 86) dX10_point_49 (by decide) ?_
            refine Ev_sub [] rfl ?_
            exact hK_10 _ h
    · replace h := h.2 hc
      refine Ev_bipush (v := -12) dX10_point_31 (by decide +kernel) ?_
      exact Ev_ret dX10_point_33 trivial (poIs_mk h)
  · replace h := h.2 hc
    refine Ev_bipush (v := -2) dX10_point_10 (by decide +kernel) ?_
    exact Ev_ret dX10_point_12 trivial (poIs_mk h)
theorem k_X10_pointsOn {s : Sg} {v1 : Int} {post : Int → Prop} (h : w_X10_pointsOn s v1 post) : EvM mX10_pointsOn 4 [(2, 68), (0, v1)] s (poI 0 s post) := by
  refine EvM_of rfl (by decide +kernel) (Nat.le_of_ble_eq_true rfl) ?_
  unfold w_X10_pointsOn at h
  show Ev mX10_pointsOn 4 0 [(0, (2, 68)), (1, (0, v1))] [] s (poI 0 s post)
  refine Ev_iconst (v := 0) dX10_pointsOn_0 rfl ⟨by decide, by decide⟩ ?_
  refine Ev_istore_n dX10_pointsOn_1 (by decide) rfl ?_
  refine Ev_iconst (v := 0) dX10_pointsOn_2 rfl ⟨by decide, by decide⟩ ?_
  refine Ev_istore_n dX10_pointsOn_3 (by decide) rfl ?_
  refine Ev_sub [2, 3, 1, 0] rfl ?_
  refine li_2 (P := fun (v2_1 v3_2 : Int) => Ev mX10_pointsOn 4 4 [(0, (2, 68)), (1, (0, v1)), (2, (0, v2_1)), (3, (0, v3_2))] [] s (poI 0 s post)) ?_ h
  intro again_3 v2_1 v3_2 hagain_3 h
  refine Ev_iload_n dX10_pointsOn_4 3 rfl ?_
  refine Ev_aload_n dX10_pointsOn_5 0 rfl ?_
  refine Ev_geti 68 dX10_pointsOn_6 f_RX10_176 rfl sh_68 ?_
  refine Ev_icmp_ge (tgt := 34) dX10_pointsOn_9 (by decide) (fun hc => ?_) (fun hc => ?_)
  · replace h := h.1 hc
    refine Ev_iload_n dX10_pointsOn_34 2 rfl ?_
    exact Ev_ret dX10_pointsOn_35 trivial (poI_mk h)
  · replace h := h.2 hc
    refine Ev_aload_n dX10_pointsOn_12 0 rfl ?_
    refine Ev_iload_n dX10_pointsOn_13 3 rfl ?_
    refine Ev_invV (d' := 3) [(0, v3_2)] 68 dX10_pointsOn_14 M_X10_linesAt q_1109 (by decide) rfl rfl sh_68 rfl (Nat.le_of_ble_eq_true rfl) (k_X10_linesAt h) ?_
    rintro _ _ ⟨rfl, r_4, rfl, h⟩
    refine Ev_iload_n dX10_pointsOn_17 1 rfl ?_
    refine Ev_ishr dX10_pointsOn_18 ?_
    refine Ev_iconst (v := 1) dX10_pointsOn_19 rfl ⟨by decide, by decide⟩ ?_
    refine Ev_iand dX10_pointsOn_20 ?_
    refine Ev_iconst (v := 1) dX10_pointsOn_21 rfl ⟨by decide, by decide⟩ ?_
    refine jc_1 (P := fun (v2_5 : Int) => Ev mX10_pointsOn 4 28 [(0, (2, 68)), (1, (0, v1)), (2, (0, v2_5)), (3, (0, v3_2))] [] s (poI 0 s post)) h ?_ ?_
    · intro v2_5 h
      obtain ⟨v3_7, ev3_7⟩ : ∃ z : Int, z = w32 (v3_2 + 1) := ⟨_, rfl⟩
      replace h := h v3_7 ev3_7
      refine Ev_iinc (v := v3_7) dX10_pointsOn_28 3 rfl ev3_7.symm (by decide) rfl ?_
      refine Ev_goto (tgt := 4) dX10_pointsOn_31 (by decide) ?_
      refine Ev_sub [1, 2, 3, 0] rfl ?_
      exact hagain_3 _ _ h
    · intro K_6 hK_6 h
      refine Ev_icmp_ne (tgt := 28) dX10_pointsOn_22 (by decide) (fun hc => ?_) (fun hc => ?_)
      · replace h := h.1 hc
        exact hK_6 _ h
      · replace h := h.2 hc
        obtain ⟨v2_8, ev2_8⟩ : ∃ z : Int, z = w32 (v2_1 + 1) := ⟨_, rfl⟩
        replace h := h v2_8 ev2_8
        refine Ev_iinc (v := v2_8) dX10_pointsOn_25 2 rfl ev2_8.symm (by decide) rfl ?_
        refine Ev_sub [1, 2, 0, 3] rfl ?_
        exact hK_6 _ h
theorem k_X10_put {s : Sg} {v1 v2 v3 : Int} {post : Int → Sg → Prop} (h : w_X10_put s v1 v2 v3 post) : EvM mX10_put 2 [(2, 68), (0, v1), (0, v2), (0, v3)] s (poIs 0 post) := by
  refine EvM_of rfl (by decide +kernel) (Nat.le_of_ble_eq_true rfl) ?_
  unfold w_X10_put at h
  show Ev mX10_put 2 0 [(0, (2, 68)), (1, (0, v1)), (2, (0, v2)), (3, (0, v3))] [] s (poIs 0 post)
  refine Ev_iload_n dX10_put_0 1 rfl ?_
  refine Ev_invS (d' := 1) [(0, v1)] dX10_put_1 M_X10_isSheet (Or.inl q_1350) (by decide) rfl (Nat.le_of_ble_eq_true rfl) (k_X10_isSheet h) ?_
  rintro _ _ ⟨rfl, r_1, rfl, h⟩
  refine Ev_if_ne (tgt := 10) dX10_put_4 (by decide) (fun hc => ?_) (fun hc => ?_)
  · replace h := h.1 hc
    refine Ev_aload_n dX10_put_10 0 rfl ?_
    refine Ev_getr 68 (184) dX10_put_11 f_RX10_97 rfl sh_68 rfl ?_
    refine Ev_iload_n dX10_put_14 1 rfl ?_
    obtain ⟨hb_2, h⟩ := h
    refine Ev_iald (184) dX10_put_15 rfl sh_184 hb_2 ?_
    refine Ev_if_ge (tgt := 22) dX10_put_16 (by decide) (fun hc => ?_) (fun hc => ?_)
    · replace h := h.1 hc
      refine Ev_iload_n dX10_put_22 2 rfl ?_
      refine Ev_iconst (v := 0) dX10_put_23 rfl ⟨by decide, by decide⟩ ?_
      refine Ev_aload_n dX10_put_24 0 rfl ?_
      refine Ev_getr 68 (185) dX10_put_25 f_RX10_100 rfl sh_68 rfl ?_
      refine Ev_iload_n dX10_put_28 1 rfl ?_
      obtain ⟨hb_3, h⟩ := h
      refine Ev_iald (185) dX10_put_29 rfl sh_185 hb_3 ?_
      refine Ev_iconst (v := 1) dX10_put_30 rfl ⟨by decide, by decide⟩ ?_
      refine Ev_isub dX10_put_31 ?_
      refine Ev_invS (d' := 0) [(0, v2), (0, 0), (0, w32 ((s 185 v1.toNat) - 1))] dX10_put_32 M_X10_in (Or.inl q_1039) (by decide) rfl (Nat.le_of_ble_eq_true rfl) (k_X10_in h) ?_
      rintro _ _ ⟨rfl, r_4, rfl, h⟩
      refine Ev_if_ne (tgt := 41) dX10_put_35 (by decide) (fun hc => ?_) (fun hc => ?_)
      · replace h := h.1 hc
        refine Ev_aload_n dX10_put_41 0 rfl ?_
        refine Ev_getr 68 (186) dX10_put_42 f_RX10_103 rfl sh_68 rfl ?_
        refine Ev_iload_n dX10_put_45 1 rfl ?_
        obtain ⟨hb_5, h⟩ := h
        refine Ev_aaldi 186 (((187 + v1.toNat : Nat) : Int)) dX10_put_46 rfl sh_186 hb_5 (rr_186 hb_5).symm ?_
        refine Ev_iload_n dX10_put_47 2 rfl ?_
        refine Ev_aload_n dX10_put_48 0 rfl ?_
        refine Ev_getr 68 (184) dX10_put_49 f_RX10_97 rfl sh_68 rfl ?_
        refine Ev_iload_n dX10_put_52 1 rfl ?_
        obtain ⟨hb_6, h⟩ := h
        refine Ev_iald (184) dX10_put_53 rfl sh_184 hb_6 ?_
        refine jc_1 (P := fun (t_7 : Int) => Ev mX10_put 2 63 [] [(0, t_7), (0, v2), (2, ((187 + v1.toNat : Nat) : Int))] s (poIs 0 post)) h ?_ ?_
        · intro t_7 h
          obtain ⟨hb_9, h⟩ := h
          obtain ⟨s_10, es_10⟩ : ∃ z : Sg, z = (up s (187 + v1.toNat) (v2.toNat) t_7) := ⟨_, rfl⟩
          replace h := h s_10 es_10
          refine Ev_iast (187 + v1.toNat) dX10_put_63 rfl (sr_186 hb_5) hb_9 ?_
          rw [← es_10]
          refine Ev_iconst (v := 1) dX10_put_64 rfl ⟨by decide, by decide⟩ ?_
          exact Ev_ret dX10_put_65 trivial (poIs_mk h)
        · intro K_8 hK_8 h
          refine Ev_if_ne (tgt := 62) dX10_put_54 (by decide) (fun hc => ?_) (fun hc => ?_)
          · replace h := h.1 hc
            refine Ev_iload_n dX10_put_62 3 rfl ?_
            refine Ev_sub [] rfl ?_
            exact hK_8 _ h
          · replace h := h.2 hc
            refine Ev_iload_n dX10_put_57 3 rfl ?_
            refine Ev_i2b dX10_put_58 ?_
            refine Ev_goto (tgt := 63) dX10_put_59 (by decide) ?_
            refine Ev_sub [] rfl ?_
            exact hK_8 _ h
      · replace h := h.2 hc
        refine Ev_bipush (v := -12) dX10_put_38 (by decide +kernel) ?_
        exact Ev_ret dX10_put_40 trivial (poIs_mk h)
    · replace h := h.2 hc
      refine Ev_bipush (v := -11) dX10_put_19 (by decide +kernel) ?_
      exact Ev_ret dX10_put_21 trivial (poIs_mk h)
  · replace h := h.2 hc
    refine Ev_bipush (v := -2) dX10_put_7 (by decide +kernel) ?_
    exact Ev_ret dX10_put_9 trivial (poIs_mk h)
theorem k_X10_sheet {s : Sg} {v1 v2 v3 : Int} {post : Int → Sg → Prop} (h : w_X10_sheet s v1 v2 v3 post) : EvM mX10_sheet 2 [(2, 68), (0, v1), (0, v2), (0, v3)] s (poIs 0 post) := by
  refine EvM_of rfl (by decide +kernel) (Nat.le_of_ble_eq_true rfl) ?_
  unfold w_X10_sheet at h
  show Ev mX10_sheet 2 0 [(0, (2, 68)), (1, (0, v1)), (2, (0, v2)), (3, (0, v3))] [] s (poIs 0 post)
  refine Ev_iload_n dX10_sheet_0 1 rfl ?_
  refine Ev_invS (d' := 1) [(0, v1)] dX10_sheet_1 M_X10_isSheet (Or.inl q_1350) (by decide) rfl (Nat.le_of_ble_eq_true rfl) (k_X10_isSheet h) ?_
  rintro _ _ ⟨rfl, r_1, rfl, h⟩
  refine jc_0 (P := Ev mX10_sheet 2 26 [] [] s (poIs 0 post)) h ?_ ?_
  · intro  h
    refine Ev_bipush (v := -2) dX10_sheet_26 (by decide +kernel) ?_
    exact Ev_ret dX10_sheet_28 trivial (poIs_mk h)
  · intro K_2 hK_2 h
    refine Ev_if_eq (tgt := 26) dX10_sheet_4 (by decide) (fun hc => ?_) (fun hc => ?_)
    · replace h := h.1 hc
      refine Ev_sub [] rfl ?_
      exact hK_2 h
    · replace h := h.2 hc
      refine Ev_iload_n dX10_sheet_7 2 rfl ?_
      refine Ev_iconst (v := -1) dX10_sheet_8 rfl ⟨by decide, by decide⟩ ?_
      refine Ev_iconst (v := 1) dX10_sheet_9 rfl ⟨by decide, by decide⟩ ?_
      refine Ev_invS (d' := 0) [(0, v2), (0, (-1)), (0, 1)] dX10_sheet_10 M_X10_in (Or.inl q_1039) (by decide) rfl (Nat.le_of_ble_eq_true rfl) (k_X10_in h) ?_
      rintro _ _ ⟨rfl, r_3, rfl, h⟩
      refine Ev_if_eq (tgt := 26) dX10_sheet_13 (by decide) (fun hc => ?_) (fun hc => ?_)
      · replace h := h.1 hc
        refine Ev_sub [] rfl ?_
        exact hK_2 h
      · replace h := h.2 hc
        refine Ev_iload_n dX10_sheet_16 2 rfl ?_
        refine jc_0 (P := Ev mX10_sheet 2 29 [(0, (2, 68)), (1, (0, v1)), (2, (0, v2)), (3, (0, v3))] [] s (poIs 0 post)) h ?_ ?_
        · intro  h
          refine Ev_iload_n dX10_sheet_29 2 rfl ?_
          refine jc_0 (P := Ev mX10_sheet 2 40 [(0, (2, 68)), (1, (0, v1)), (2, (0, v2)), (3, (0, v3))] [] s (poIs 0 post)) h ?_ ?_
          · intro  h
            refine Ev_aload_n dX10_sheet_40 0 rfl ?_
            refine Ev_getr 68 (184) dX10_sheet_41 f_RX10_97 rfl sh_68 rfl ?_
            refine Ev_iload_n dX10_sheet_44 1 rfl ?_
            refine Ev_iload_n dX10_sheet_45 2 rfl ?_
            obtain ⟨hb_6, h⟩ := h
            obtain ⟨s_7, es_7⟩ : ∃ z : Sg, z = (up s 184 (v1.toNat) v2) := ⟨_, rfl⟩
            replace h := h s_7 es_7
            refine Ev_iast (184) dX10_sheet_46 rfl sh_184 hb_6 ?_
            rw [← es_7]
            refine Ev_aload_n dX10_sheet_47 0 rfl ?_
            refine Ev_getr 68 (185) dX10_sheet_48 f_RX10_100 rfl sh_68 rfl ?_
            refine Ev_iload_n dX10_sheet_51 1 rfl ?_
            refine Ev_iload_n dX10_sheet_52 2 rfl ?_
            refine jc_1 (P := fun (t_8 : Int) => Ev mX10_sheet 2 61 [(0, (2, 68)), (1, (0, v1))] [(0, t_8), (0, v1), (2, 185)] s_7 (poIs 0 post)) h ?_ ?_
            · intro t_8 h
              obtain ⟨hb_10, h⟩ := h
              obtain ⟨s_11, es_11⟩ : ∃ z : Sg, z = (up s_7 185 (v1.toNat) t_8) := ⟨_, rfl⟩
              replace h := h s_11 es_11
              refine Ev_iast (185) dX10_sheet_61 rfl sh_185 hb_10 ?_
              rw [← es_11]
              refine Ev_iconst (v := 0) dX10_sheet_62 rfl ⟨by decide, by decide⟩ ?_
              refine Ev_istore dX10_sheet_63 (by decide) rfl ?_
              refine Ev_sub [1, 2, 0] rfl ?_
              refine li_1s (P := fun (v4_12 : Int) (s_13 : Sg) => Ev mX10_sheet 2 65 [(0, (2, 68)), (1, (0, v1)), (4, (0, v4_12))] [] s_13 (poIs 0 post)) ?_ h
              intro again_14 v4_12 s_13 hagain_14 h
              refine Ev_iload dX10_sheet_65 2 rfl ?_
              refine Ev_bipush (v := 40) dX10_sheet_67 (by decide +kernel) ?_
              refine Ev_icmp_ge (tgt := 88) dX10_sheet_69 (by decide) (fun hc => ?_) (fun hc => ?_)
              · replace h := h.1 hc
                refine Ev_iconst (v := 1) dX10_sheet_88 rfl ⟨by decide, by decide⟩ ?_
                exact Ev_ret dX10_sheet_89 trivial (poIs_mk h)
              · replace h := h.2 hc
                refine Ev_aload_n dX10_sheet_72 0 rfl ?_
                refine Ev_getr 68 (186) dX10_sheet_73 f_RX10_103 rfl sh_68 rfl ?_
                refine Ev_iload_n dX10_sheet_76 1 rfl ?_
                obtain ⟨hb_15, h⟩ := h
                refine Ev_aaldi 186 (((187 + v1.toNat : Nat) : Int)) dX10_sheet_77 rfl sh_186 hb_15 (rr_186 hb_15).symm ?_
                refine Ev_iload dX10_sheet_78 2 rfl ?_
                refine Ev_iconst (v := 0) dX10_sheet_80 rfl ⟨by decide, by decide⟩ ?_
                obtain ⟨hb_16, h⟩ := h
                obtain ⟨s_17, es_17⟩ : ∃ z : Sg, z = (up s_13 (187 + v1.toNat) (v4_12.toNat) 0) := ⟨_, rfl⟩
                replace h := h s_17 es_17
                refine Ev_iast (187 + v1.toNat) dX10_sheet_81 rfl (sr_186 hb_15) hb_16 ?_
                rw [← es_17]
                obtain ⟨v4_18, ev4_18⟩ : ∃ z : Int, z = w32 (v4_12 + 1) := ⟨_, rfl⟩
                replace h := h v4_18 ev4_18
                refine Ev_iinc (v := v4_18) dX10_sheet_82 2 rfl ev4_18.symm (by decide) rfl ?_
                refine Ev_goto (tgt := 65) dX10_sheet_85 (by decide) ?_
                refine Ev_sub [1, 2, 0] rfl ?_
                exact hagain_14 _ _ h
            · intro K_9 hK_9 h
              refine Ev_if_ge (tgt := 60) dX10_sheet_53 (by decide) (fun hc => ?_) (fun hc => ?_)
              · replace h := h.1 hc
                refine Ev_iload_n dX10_sheet_60 3 rfl ?_
                refine Ev_sub [0, 1] rfl ?_
                exact hK_9 _ h
              · replace h := h.2 hc
                refine Ev_iconst (v := 0) dX10_sheet_56 rfl ⟨by decide, by decide⟩ ?_
                refine Ev_goto (tgt := 61) dX10_sheet_57 (by decide) ?_
                refine Ev_sub [0, 1] rfl ?_
                exact hK_9 _ h
          · intro K_5 hK_5 h
            refine Ev_if_lt (tgt := 40) dX10_sheet_30 (by decide) (fun hc => ?_) (fun hc => ?_)
            · replace h := h.1 hc
              exact hK_5 h
            · replace h := h.2 hc
              refine Ev_iload_n dX10_sheet_33 3 rfl ?_
              refine Ev_if_ge (tgt := 40) dX10_sheet_34 (by decide) (fun hc => ?_) (fun hc => ?_)
              · replace h := h.1 hc
                exact hK_5 h
              · replace h := h.2 hc
                refine Ev_bipush (v := -14) dX10_sheet_37 (by decide +kernel) ?_
                exact Ev_ret dX10_sheet_39 trivial (poIs_mk h)
        · intro K_4 hK_4 h
          refine Ev_if_lt (tgt := 29) dX10_sheet_17 (by decide) (fun hc => ?_) (fun hc => ?_)
          · replace h := h.1 hc
            exact hK_4 h
          · replace h := h.2 hc
            refine Ev_iload_n dX10_sheet_20 3 rfl ?_
            refine Ev_bipush (v := 40) dX10_sheet_21 (by decide +kernel) ?_
            refine Ev_icmp_le (tgt := 29) dX10_sheet_23 (by decide) (fun hc => ?_) (fun hc => ?_)
            · replace h := h.1 hc
              exact hK_4 h
            · replace h := h.2 hc
              refine Ev_sub [] rfl ?_
              exact hK_2 h
theorem k_X10_slab {s : Sg} {v1 v2 : Int} {post : Int → Sg → Prop} (h : w_X10_slab s v1 v2 post) : EvM mX10_slab 105 [(2, 68), (0, v1), (0, v2)] s (poIs 0 post) := by
  refine EvM_of rfl (by decide +kernel) (Nat.le_of_ble_eq_true rfl) ?_
  unfold w_X10_slab at h
  show Ev mX10_slab 105 0 [(0, (2, 68)), (1, (0, v1)), (2, (0, v2))] [] s (poIs 0 post)
  refine Ev_iload_n dX10_slab_0 2 rfl ?_
  refine Ev_iconst (v := 0) dX10_slab_1 rfl ⟨by decide, by decide⟩ ?_
  refine Ev_iconst (v := 3) dX10_slab_2 rfl ⟨by decide, by decide⟩ ?_
  refine Ev_invS (d' := 0) [(0, v2), (0, 0), (0, 3)] dX10_slab_3 M_X10_in (Or.inl q_1039) (by decide) rfl (Nat.le_of_ble_eq_true rfl) (k_X10_in h) ?_
  rintro _ _ ⟨rfl, r_1, rfl, h⟩
  refine Ev_if_ne (tgt := 12) dX10_slab_6 (by decide) (fun hc => ?_) (fun hc => ?_)
  · replace h := h.1 hc
    refine Ev_aload_n dX10_slab_12 0 rfl ?_
    refine Ev_invV (d' := 104) [] 68 dX10_slab_13 M_X10_tellSheet q_1191 (by decide) rfl rfl sh_68 rfl (Nat.le_of_ble_eq_true rfl) (k_X10_tellSheet h) ?_
    rintro _ s_2 ⟨rfl, h⟩
    refine Ev_iload_n dX10_slab_16 1 rfl ?_
    refine Ev_iconst (v := 0) dX10_slab_17 rfl ⟨by decide, by decide⟩ ?_
    refine Ev_aload_n dX10_slab_18 0 rfl ?_
    refine Ev_geti 68 dX10_slab_19 f_RX10_278 rfl sh_68 ?_
    refine Ev_iconst (v := 1) dX10_slab_22 rfl ⟨by decide, by decide⟩ ?_
    refine Ev_isub dX10_slab_23 ?_
    refine Ev_invS (d' := 0) [(0, v1), (0, 0), (0, w32 ((s_2 68 22) - 1))] dX10_slab_24 M_X10_in (Or.inl q_1039) (by decide) rfl (Nat.le_of_ble_eq_true rfl) (k_X10_in h) ?_
    rintro _ _ ⟨rfl, r_3, rfl, h⟩
    refine Ev_if_ne (tgt := 33) dX10_slab_27 (by decide) (fun hc => ?_) (fun hc => ?_)
    · replace h := h.1 hc
      refine Ev_iload_n dX10_slab_33 2 rfl ?_
      refine Ev_iconst (v := 2) dX10_slab_34 rfl ⟨by decide, by decide⟩ ?_
      refine Ev_icmp_ge (tgt := 68) dX10_slab_35 (by decide) (fun hc => ?_) (fun hc => ?_)
      · replace h := h.1 hc
        refine Ev_iload_n dX10_slab_68 2 rfl ?_
        refine Ev_iconst (v := 2) dX10_slab_69 rfl ⟨by decide, by decide⟩ ?_
        refine jc_1 (P := fun (t_4 : Int) => Ev mX10_slab 105 97 [] [(0, t_4)] s_2 (poIs 0 post)) h ?_ ?_
        · intro t_4 h
          exact Ev_ret dX10_slab_97 trivial (poIs_mk h)
        · intro K_5 hK_5 h
          refine Ev_icmp_ne (tgt := 91) dX10_slab_70 (by decide) (fun hc => ?_) (fun hc => ?_)
          · replace h := h.1 hc
            refine Ev_aload_n dX10_slab_91 0 rfl ?_
            refine Ev_getr 68 (85) dX10_slab_92 f_RX10_60 rfl sh_68 rfl ?_
            refine Ev_iload_n dX10_slab_95 1 rfl ?_
            obtain ⟨hb_6, h⟩ := h
            refine Ev_iald (85) dX10_slab_96 rfl sh_85 hb_6 ?_
            refine Ev_sub [] rfl ?_
            exact hK_5 _ h
          · replace h := h.2 hc
            refine Ev_aload_n dX10_slab_73 0 rfl ?_
            refine Ev_getr 68 (85) dX10_slab_74 f_RX10_60 rfl sh_68 rfl ?_
            refine Ev_iload_n dX10_slab_77 1 rfl ?_
            refine Ev_iconst (v := 1) dX10_slab_78 rfl ⟨by decide, by decide⟩ ?_
            refine Ev_iadd dX10_slab_79 ?_
            obtain ⟨hb_7, h⟩ := h
            refine Ev_iald (85) dX10_slab_80 rfl sh_85 hb_7 ?_
            refine Ev_aload_n dX10_slab_81 0 rfl ?_
            refine Ev_getr 68 (85) dX10_slab_82 f_RX10_60 rfl sh_68 rfl ?_
            refine Ev_iload_n dX10_slab_85 1 rfl ?_
            obtain ⟨hb_8, h⟩ := h
            refine Ev_iald (85) dX10_slab_86 rfl sh_85 hb_8 ?_
            refine Ev_isub dX10_slab_87 ?_
            refine Ev_goto (tgt := 97) dX10_slab_88 (by decide) ?_
            refine Ev_sub [] rfl ?_
            exact hK_5 _ h
      · replace h := h.2 hc
        refine Ev_iload_n dX10_slab_38 1 rfl ?_
        refine jc_1 (P := fun (t_9 : Int) => Ev mX10_slab 105 67 [] [(0, t_9)] s_2 (poIs 0 post)) h ?_ ?_
        · intro t_9 h
          exact Ev_ret dX10_slab_67 trivial (poIs_mk h)
        · intro K_10 hK_10 h
          refine Ev_if_ne (tgt := 47) dX10_slab_39 (by decide) (fun hc => ?_) (fun hc => ?_)
          · replace h := h.1 hc
            refine Ev_iload_n dX10_slab_47 2 rfl ?_
            refine jc_1 (P := fun (t_11 : Int) => Ev mX10_slab 105 66 [] [(1, t_11)] s_2 (poIs 0 post)) h ?_ ?_
            · intro t_11 h
              refine Ev_l2i dX10_slab_66 ?_
              exact hK_10 _ h
            · intro K_12 hK_12 h
              refine Ev_if_ne (tgt := 60) dX10_slab_48 (by decide) (fun hc => ?_) (fun hc => ?_)
              · replace h := h.1 hc
                refine Ev_aload_n dX10_slab_60 0 rfl ?_
                refine Ev_getr 68 (84) dX10_slab_61 f_RX10_57 rfl sh_68 rfl ?_
                refine Ev_iload_n dX10_slab_64 1 rfl ?_
                obtain ⟨hb_13, h⟩ := h
                refine Ev_lald (84) dX10_slab_65 rfl sh_84 hb_13 ?_
                refine Ev_sub [] rfl ?_
                exact hK_12 _ h
              · replace h := h.2 hc
                refine Ev_aload_n dX10_slab_51 0 rfl ?_
                refine Ev_getr 68 (83) dX10_slab_52 f_RX10_54 rfl sh_68 rfl ?_
                refine Ev_iload_n dX10_slab_55 1 rfl ?_
                obtain ⟨hb_14, h⟩ := h
                refine Ev_lald (83) dX10_slab_56 rfl sh_83 hb_14 ?_
                refine Ev_goto (tgt := 66) dX10_slab_57 (by decide) ?_
                refine Ev_sub [] rfl ?_
                exact hK_12 _ h
          · replace h := h.2 hc
            refine Ev_bipush (v := -3) dX10_slab_42 (by decide +kernel) ?_
            refine Ev_goto (tgt := 67) dX10_slab_44 (by decide) ?_
            refine Ev_sub [] rfl ?_
            exact hK_10 _ h
    · replace h := h.2 hc
      refine Ev_bipush (v := -12) dX10_slab_30 (by decide +kernel) ?_
      exact Ev_ret dX10_slab_32 trivial (poIs_mk h)
  · replace h := h.2 hc
    refine Ev_bipush (v := -2) dX10_slab_9 (by decide +kernel) ?_
    exact Ev_ret dX10_slab_11 trivial (poIs_mk h)
theorem k_X10_taken {s : Sg} {v1 v2 : Int} {post : Int → Prop} (h : w_X10_taken s v1 v2 post) : EvM mX10_taken 2 [(2, 68), (0, v1), (0, v2)] s (poI 0 s post) := by
  refine EvM_of rfl (by decide +kernel) (Nat.le_of_ble_eq_true rfl) ?_
  unfold w_X10_taken at h
  show Ev mX10_taken 2 0 [(0, (2, 68)), (1, (0, v1)), (2, (0, v2))] [] s (poI 0 s post)
  refine Ev_aload_n dX10_taken_0 0 rfl ?_
  refine Ev_iload_n dX10_taken_1 1 rfl ?_
  refine Ev_invV (d' := 1) [(0, v1)] 68 dX10_taken_2 M_X10_isLine q_1050 (by decide) rfl rfl sh_68 rfl (Nat.le_of_ble_eq_true rfl) (k_X10_isLine h) ?_
  rintro _ _ ⟨rfl, r_1, rfl, h⟩
  refine jc_0 (P := Ev mX10_taken 2 17 [] [] s (poI 0 s post)) h ?_ ?_
  · intro  h
    refine Ev_bipush (v := -2) dX10_taken_17 (by decide +kernel) ?_
    exact Ev_ret dX10_taken_19 trivial (poI_mk h)
  · intro K_2 hK_2 h
    refine Ev_if_eq (tgt := 17) dX10_taken_5 (by decide) (fun hc => ?_) (fun hc => ?_)
    · replace h := h.1 hc
      refine Ev_sub [] rfl ?_
      exact hK_2 h
    · replace h := h.2 hc
      refine Ev_iload_n dX10_taken_8 2 rfl ?_
      refine Ev_iconst (v := 0) dX10_taken_9 rfl ⟨by decide, by decide⟩ ?_
      refine Ev_iconst (v := 2) dX10_taken_10 rfl ⟨by decide, by decide⟩ ?_
      refine Ev_invS (d' := 0) [(0, v2), (0, 0), (0, 2)] dX10_taken_11 M_X10_in (Or.inl q_1039) (by decide) rfl (Nat.le_of_ble_eq_true rfl) (k_X10_in h) ?_
      rintro _ _ ⟨rfl, r_3, rfl, h⟩
      refine Ev_if_ne (tgt := 20) dX10_taken_14 (by decide) (fun hc => ?_) (fun hc => ?_)
      · replace h := h.1 hc
        refine Ev_iload_n dX10_taken_20 2 rfl ?_
        refine jc_1 (P := fun (t_4 : Int) => Ev mX10_taken 2 65 [(1, (0, v1))] [(0, t_4)] s (poI 0 s post)) h ?_ ?_
        · intro t_4 h
          refine Ev_istore_n dX10_taken_65 (by decide) rfl ?_
          refine Ev_iload_n dX10_taken_66 0 rfl ?_
          refine jc_1 (P := fun (t_6 : Int) => Ev mX10_taken 2 76 [] [(0, t_6)] s (poI 0 s post)) h ?_ ?_
          · intro t_6 h
            exact Ev_ret dX10_taken_76 trivial (poI_mk h)
          · intro K_7 hK_7 h
            refine Ev_if_eq (tgt := 74) dX10_taken_67 (by decide) (fun hc => ?_) (fun hc => ?_)
            · replace h := h.1 hc
              refine Ev_bipush (v := -13) dX10_taken_74 (by decide +kernel) ?_
              refine Ev_sub [] rfl ?_
              exact hK_7 _ h
            · replace h := h.2 hc
              refine Ev_iload_n dX10_taken_70 1 rfl ?_
              refine Ev_goto (tgt := 76) dX10_taken_71 (by decide) ?_
              refine Ev_sub [] rfl ?_
              exact hK_7 _ h
        · intro K_5 hK_5 h
          refine Ev_if_ne (tgt := 32) dX10_taken_21 (by decide) (fun hc => ?_) (fun hc => ?_)
          · replace h := h.1 hc
            refine Ev_aload_n dX10_taken_32 0 rfl ?_
            refine Ev_iload_n dX10_taken_33 1 rfl ?_
            refine Ev_invV (d' := 0) [(0, v1)] 68 dX10_taken_34 M_X10_isUpright q_1139 (by decide) rfl rfl sh_68 rfl (Nat.le_of_ble_eq_true rfl) (k_X10_isUpright h) ?_
            rintro _ _ ⟨rfl, r_8, rfl, h⟩
            refine jc_0 (P := Ev mX10_taken 2 64 [(1, (0, v1))] [] s (poI 0 s post)) h ?_ ?_
            · intro  h
              refine Ev_iconst (v := 0) dX10_taken_64 rfl ⟨by decide, by decide⟩ ?_
              exact hK_5 _ h
            · intro K_9 hK_9 h
              refine Ev_if_ne (tgt := 64) dX10_taken_37 (by decide) (fun hc => ?_) (fun hc => ?_)
              · replace h := h.1 hc
                refine Ev_sub [1] rfl ?_
                exact hK_9 h
              · replace h := h.2 hc
                refine Ev_iload_n dX10_taken_40 2 rfl ?_
                refine Ev_iconst (v := 1) dX10_taken_41 rfl ⟨by decide, by decide⟩ ?_
                refine jc_0 (P := Ev mX10_taken 2 60 [(1, (0, v1))] [] s (poI 0 s post)) h ?_ ?_
                · intro  h
                  refine Ev_iconst (v := 1) dX10_taken_60 rfl ⟨by decide, by decide⟩ ?_
                  refine Ev_goto (tgt := 65) dX10_taken_61 (by decide) ?_
                  exact hK_5 _ h
                · intro K_10 hK_10 h
                  refine Ev_icmp_eq (tgt := 60) dX10_taken_42 (by decide) (fun hc => ?_) (fun hc => ?_)
                  · replace h := h.1 hc
                    refine Ev_sub [1] rfl ?_
                    exact hK_10 h
                  · replace h := h.2 hc
                    refine Ev_aload_n dX10_taken_45 0 rfl ?_
                    refine Ev_getr 68 (70) dX10_taken_46 f_RX10_13 rfl sh_68 rfl ?_
                    refine Ev_iload_n dX10_taken_49 1 rfl ?_
                    obtain ⟨hb_11, h⟩ := h
                    refine Ev_iald (70) dX10_taken_50 rfl sh_70 hb_11 ?_
                    refine Ev_aload_n dX10_taken_51 0 rfl ?_
                    refine Ev_getr 68 (72) dX10_taken_52 f_RX10_19 rfl sh_68 rfl ?_
                    refine Ev_iload_n dX10_taken_55 1 rfl ?_
                    obtain ⟨hb_12, h⟩ := h
                    refine Ev_iald (72) dX10_taken_56 rfl sh_72 hb_12 ?_
                    refine Ev_icmp_ne (tgt := 64) dX10_taken_57 (by decide) (fun hc => ?_) (fun hc => ?_)
                    · replace h := h.1 hc
                      refine Ev_sub [1] rfl ?_
                      exact hK_9 h
                    · replace h := h.2 hc
                      refine Ev_sub [1] rfl ?_
                      exact hK_10 h
          · replace h := h.2 hc
            refine Ev_aload_n dX10_taken_24 0 rfl ?_
            refine Ev_iload_n dX10_taken_25 1 rfl ?_
            refine Ev_invV (d' := 0) [(0, v1)] 68 dX10_taken_26 M_X10_isUpright q_1139 (by decide) rfl rfl sh_68 rfl (Nat.le_of_ble_eq_true rfl) (k_X10_isUpright h) ?_
            rintro _ _ ⟨rfl, r_13, rfl, h⟩
            refine Ev_goto (tgt := 65) dX10_taken_29 (by decide) ?_
            refine Ev_sub [1] rfl ?_
            exact hK_5 _ h
      · replace h := h.2 hc
        refine Ev_sub [] rfl ?_
        exact hK_2 h
theorem k_X10_tells {s : Sg} {v1 v2 v3 : Int} {post : Int → Sg → Prop} (h : w_X10_tells s v1 v2 v3 post) : EvM mX10_tells 4 [(2, 68), (0, v1), (0, v2), (0, v3)] s (poIs 0 post) := by
  refine EvM_of rfl (by decide +kernel) (Nat.le_of_ble_eq_true rfl) ?_
  unfold w_X10_tells at h
  show Ev mX10_tells 4 0 [(0, (2, 68)), (1, (0, v1)), (2, (0, v2)), (3, (0, v3))] [] s (poIs 0 post)
  refine Ev_iload_n dX10_tells_0 1 rfl ?_
  refine Ev_invS (d' := 1) [(0, v1)] dX10_tells_1 M_X10_isSheet (Or.inl q_1350) (by decide) rfl (Nat.le_of_ble_eq_true rfl) (k_X10_isSheet h) ?_
  rintro _ _ ⟨rfl, r_1, rfl, h⟩
  refine jc_0 (P := Ev mX10_tells 4 23 [] [] s (poIs 0 post)) h ?_ ?_
  · intro  h
    refine Ev_bipush (v := -2) dX10_tells_23 (by decide +kernel) ?_
    exact Ev_ret dX10_tells_25 trivial (poIs_mk h)
  · intro K_2 hK_2 h
    refine Ev_if_eq (tgt := 23) dX10_tells_4 (by decide) (fun hc => ?_) (fun hc => ?_)
    · replace h := h.1 hc
      refine Ev_sub [] rfl ?_
      exact hK_2 h
    · replace h := h.2 hc
      refine Ev_iload_n dX10_tells_7 2 rfl ?_
      refine Ev_invS (d' := 1) [(0, v2)] dX10_tells_8 M_X10_isOnSheet (Or.inl q_1036) (by decide) rfl (Nat.le_of_ble_eq_true rfl) (k_X10_isOnSheet h) ?_
      rintro _ _ ⟨rfl, r_3, rfl, h⟩
      refine Ev_if_eq (tgt := 23) dX10_tells_11 (by decide) (fun hc => ?_) (fun hc => ?_)
      · replace h := h.1 hc
        refine Ev_sub [] rfl ?_
        exact hK_2 h
      · replace h := h.2 hc
        refine Ev_iload_n dX10_tells_14 3 rfl ?_
        refine Ev_iconst (v := 0) dX10_tells_15 rfl ⟨by decide, by decide⟩ ?_
        refine Ev_iconst (v := 3) dX10_tells_16 rfl ⟨by decide, by decide⟩ ?_
        refine Ev_invS (d' := 0) [(0, v3), (0, 0), (0, 3)] dX10_tells_17 M_X10_in (Or.inl q_1039) (by decide) rfl (Nat.le_of_ble_eq_true rfl) (k_X10_in h) ?_
        rintro _ _ ⟨rfl, r_4, rfl, h⟩
        refine Ev_if_ne (tgt := 26) dX10_tells_20 (by decide) (fun hc => ?_) (fun hc => ?_)
        · replace h := h.1 hc
          refine Ev_aload_n dX10_tells_26 0 rfl ?_
          refine Ev_getr 68 (184) dX10_tells_27 f_RX10_97 rfl sh_68 rfl ?_
          refine Ev_iload_n dX10_tells_30 1 rfl ?_
          obtain ⟨hb_5, h⟩ := h
          refine Ev_iald (184) dX10_tells_31 rfl sh_184 hb_5 ?_
          refine Ev_if_ge (tgt := 38) dX10_tells_32 (by decide) (fun hc => ?_) (fun hc => ?_)
          · replace h := h.1 hc
            refine Ev_aload_n dX10_tells_38 0 rfl ?_
            refine Ev_getr 68 (185) dX10_tells_39 f_RX10_100 rfl sh_68 rfl ?_
            refine Ev_iload_n dX10_tells_42 1 rfl ?_
            obtain ⟨hb_6, h⟩ := h
            refine Ev_iald (185) dX10_tells_43 rfl sh_185 hb_6 ?_
            refine Ev_bipush (v := 10) dX10_tells_44 (by decide +kernel) ?_
            refine Ev_icmp_le (tgt := 52) dX10_tells_46 (by decide) (fun hc => ?_) (fun hc => ?_)
            · replace h := h.1 hc
              refine Ev_iload_n dX10_tells_52 3 rfl ?_
              refine Ev_if_ne (tgt := 64) dX10_tells_53 (by decide) (fun hc => ?_) (fun hc => ?_)
              · replace h := h.1 hc
                refine Ev_iconst (v := 0) dX10_tells_64 rfl ⟨by decide, by decide⟩ ?_
                refine Ev_istore dX10_tells_65 (by decide) rfl ?_
                refine Ev_iload_n dX10_tells_67 4 rfl ?_
                refine Ev_iconst (v := 3) dX10_tells_68 rfl ⟨by decide, by decide⟩ ?_
                refine Ev_icmp_ne (tgt := 114) dX10_tells_69 (by decide) (fun hc => ?_) (fun hc => ?_)
                · replace h := h.1 hc
                  refine Ev_iconst (v := 0) dX10_tells_114 rfl ⟨by decide, by decide⟩ ?_
                  refine Ev_istore dX10_tells_115 (by decide) rfl ?_
                  refine Ev_iconst (v := -1) dX10_tells_117 rfl ⟨by decide, by decide⟩ ?_
                  refine Ev_istore dX10_tells_118 (by decide) rfl ?_
                  refine Ev_iconst (v := 0) dX10_tells_120 rfl ⟨by decide, by decide⟩ ?_
                  refine Ev_istore dX10_tells_121 (by decide) rfl ?_
                  refine Ev_sub [4, 5, 7, 2, 1, 0] rfl ?_
                  refine li_3s (P := fun (v5_7 v6_8 v7_9 : Int) (s_10 : Sg) => Ev mX10_tells 4 123 [(0, (2, 68)), (1, (0, v1)), (3, (0, v3)), (5, (0, v5_7)), (6, (0, v6_8)), (7, (0, v7_9))] [] s_10 (poIs 0 post)) ?_ h
                  intro again_11 v5_7 v6_8 v7_9 s_10 hagain_11 h
                  refine Ev_iload dX10_tells_123 5 rfl ?_
                  refine Ev_bipush (v := 40) dX10_tells_125 (by decide +kernel) ?_
                  refine Ev_icmp_gt (tgt := 168) dX10_tells_127 (by decide) (fun hc => ?_) (fun hc => ?_)
                  · replace h := h.1 hc
                    refine Ev_iload_n dX10_tells_168 2 rfl ?_
                    refine Ev_iconst (v := 1) dX10_tells_169 rfl ⟨by decide, by decide⟩ ?_
                    refine jc_1 (P := fun (t_12 : Int) => Ev mX10_tells 4 180 [] [(0, t_12)] s_10 (poIs 0 post)) h ?_ ?_
                    · intro t_12 h
                      exact Ev_ret dX10_tells_180 trivial (poIs_mk h)
                    · intro K_13 hK_13 h
                      refine Ev_icmp_ne (tgt := 178) dX10_tells_170 (by decide) (fun hc => ?_) (fun hc => ?_)
                      · replace h := h.1 hc
                        refine Ev_iload dX10_tells_178 4 rfl ?_
                        refine Ev_sub [] rfl ?_
                        exact hK_13 _ h
                      · replace h := h.2 hc
                        refine Ev_iload dX10_tells_173 3 rfl ?_
                        refine Ev_goto (tgt := 180) dX10_tells_175 (by decide) ?_
                        refine Ev_sub [] rfl ?_
                        exact hK_13 _ h
                  · replace h := h.2 hc
                    refine Ev_aload_n dX10_tells_130 0 rfl ?_
                    refine Ev_iload_n dX10_tells_131 1 rfl ?_
                    refine Ev_iload dX10_tells_132 5 rfl ?_
                    refine Ev_iconst (v := -1) dX10_tells_134 rfl ⟨by decide, by decide⟩ ?_
                    refine Ev_invV (d' := 3) [(0, v1), (0, v7_9), (0, (-1))] 68 dX10_tells_135 M_X10_otherwise q_1353 (by decide) rfl rfl sh_68 rfl (Nat.le_of_ble_eq_true rfl) (k_X10_otherwise h) ?_
                    rintro _ s_15 ⟨r_14, rfl, h⟩
                    refine Ev_iconst (v := -1) dX10_tells_138 rfl ⟨by decide, by decide⟩ ?_
                    refine jc_2 (P := fun (v5_16 v6_17 : Int) => Ev mX10_tells 4 162 [(0, (2, 68)), (1, (0, v1)), (3, (0, v3)), (5, (0, v5_16)), (6, (0, v6_17)), (7, (0, v7_9))] [] s_15 (poIs 0 post)) h ?_ ?_
                    · intro v5_16 v6_17 h
                      obtain ⟨v7_19, ev7_19⟩ : ∃ z : Int, z = w32 (v7_9 + 1) := ⟨_, rfl⟩
                      replace h := h v7_19 ev7_19
                      refine Ev_iinc (v := v7_19) dX10_tells_162 5 rfl ev7_19.symm (by decide) rfl ?_
                      refine Ev_goto (tgt := 123) dX10_tells_165 (by decide) ?_
                      refine Ev_sub [1, 2, 3, 4, 5, 0] rfl ?_
                      exact hagain_11 _ _ _ _ h
                    · intro K_18 hK_18 h
                      refine Ev_icmp_eq (tgt := 145) dX10_tells_139 (by decide) (fun hc => ?_) (fun hc => ?_)
                      · replace h := h.1 hc
                        refine Ev_iload dX10_tells_145 3 rfl ?_
                        refine jc_1 (P := fun (t_20 : Int) => Ev mX10_tells 4 157 [(0, (2, 68)), (1, (0, v1)), (3, (0, v3)), (5, (0, v5_7)), (7, (0, v7_9))] [(0, t_20)] s_15 (poIs 0 post)) h ?_ ?_
                        · intro t_20 h
                          refine Ev_istore dX10_tells_157 (by decide) rfl ?_
                          obtain ⟨v5_22, ev5_22⟩ : ∃ z : Int, z = w32 (v5_7 + 1) := ⟨_, rfl⟩
                          replace h := h v5_22 ev5_22
                          refine Ev_iinc (v := v5_22) dX10_tells_159 4 rfl ev5_22.symm (by decide) rfl ?_
                          refine Ev_sub [2, 3, 4, 0, 1, 5] rfl ?_
                          exact hK_18 _ _ h
                        · intro K_21 hK_21 h
                          refine Ev_if_ne (tgt := 155) dX10_tells_147 (by decide) (fun hc => ?_) (fun hc => ?_)
                          · replace h := h.1 hc
                            refine Ev_iload dX10_tells_155 4 rfl ?_
                            refine Ev_sub [0, 1, 2, 3, 5] rfl ?_
                            exact hK_21 _ h
                          · replace h := h.2 hc
                            refine Ev_iload dX10_tells_150 5 rfl ?_
                            refine Ev_goto (tgt := 157) dX10_tells_152 (by decide) ?_
                            refine Ev_sub [0, 1, 2, 3, 5] rfl ?_
                            exact hK_21 _ h
                      · replace h := h.2 hc
                        refine Ev_goto (tgt := 162) dX10_tells_142 (by decide) ?_
                        exact hK_18 _ _ h
                · replace h := h.2 hc
                  refine Ev_iconst (v := 0) dX10_tells_72 rfl ⟨by decide, by decide⟩ ?_
                  refine Ev_istore dX10_tells_73 (by decide) rfl ?_
                  refine Ev_sub [2, 3, 4, 1, 0] rfl ?_
                  refine li_2s (P := fun (v4_23 v5_24 : Int) (s_25 : Sg) => Ev mX10_tells 4 75 [(0, (2, 68)), (1, (0, v1)), (2, (0, v2)), (4, (0, v4_23)), (5, (0, v5_24))] [] s_25 (poIs 0 post)) ?_ h
                  intro again_26 v4_23 v5_24 s_25 hagain_26 h
                  refine Ev_iload dX10_tells_75 4 rfl ?_
                  refine Ev_aload_n dX10_tells_77 0 rfl ?_
                  refine Ev_geti 68 dX10_tells_78 f_RX10_109 rfl sh_68 ?_
                  refine Ev_icmp_ge (tgt := 111) dX10_tells_81 (by decide) (fun hc => ?_) (fun hc => ?_)
                  · replace h := h.1 hc
                    refine Ev_iload dX10_tells_111 3 rfl ?_
                    exact Ev_ret dX10_tells_113 trivial (poIs_mk h)
                  · replace h := h.2 hc
                    refine Ev_aload_n dX10_tells_84 0 rfl ?_
                    refine Ev_iload_n dX10_tells_85 1 rfl ?_
                    refine Ev_iload_n dX10_tells_86 2 rfl ?_
                    refine Ev_iload dX10_tells_87 4 rfl ?_
                    refine Ev_invV (d' := 3) [(0, v1), (0, v2), (0, v5_24)] 68 dX10_tells_89 M_X10_otherwise q_1353 (by decide) rfl rfl sh_68 rfl (Nat.le_of_ble_eq_true rfl) (k_X10_otherwise h) ?_
                    rintro _ s_28 ⟨r_27, rfl, h⟩
                    refine Ev_iconst (v := -1) dX10_tells_92 rfl ⟨by decide, by decide⟩ ?_
                    refine jc_1 (P := fun (v4_29 : Int) => Ev mX10_tells 4 105 [(0, (2, 68)), (1, (0, v1)), (2, (0, v2)), (4, (0, v4_29)), (5, (0, v5_24))] [] s_28 (poIs 0 post)) h ?_ ?_
                    · intro v4_29 h
                      obtain ⟨v5_31, ev5_31⟩ : ∃ z : Int, z = w32 (v5_24 + 1) := ⟨_, rfl⟩
                      replace h := h v5_31 ev5_31
                      refine Ev_iinc (v := v5_31) dX10_tells_105 4 rfl ev5_31.symm (by decide) rfl ?_
                      refine Ev_goto (tgt := 75) dX10_tells_108 (by decide) ?_
                      refine Ev_sub [1, 2, 3, 4, 0] rfl ?_
                      exact hagain_26 _ _ _ h
                    · intro K_30 hK_30 h
                      refine Ev_icmp_ne (tgt := 105) dX10_tells_93 (by decide) (fun hc => ?_) (fun hc => ?_)
                      · replace h := h.1 hc
                        exact hK_30 _ h
                      · replace h := h.2 hc
                        refine Ev_iload dX10_tells_96 3 rfl ?_
                        refine Ev_iconst (v := 1) dX10_tells_98 rfl ⟨by decide, by decide⟩ ?_
                        refine Ev_iload dX10_tells_99 4 rfl ?_
                        refine Ev_ishl dX10_tells_101 ?_
                        refine Ev_ior dX10_tells_102 ?_
                        obtain ⟨v4_32, ev4_32⟩ : ∃ z : Int, z = ior v4_23 (ishl 1 v5_24) := ⟨_, rfl⟩
                        replace h := h v4_32 ev4_32
                        rw [← ev4_32]
                        refine Ev_istore dX10_tells_103 (by decide) rfl ?_
                        refine Ev_sub [1, 2, 3, 0, 4] rfl ?_
                        exact hK_30 _ h
              · replace h := h.2 hc
                refine Ev_aload_n dX10_tells_56 0 rfl ?_
                refine Ev_iload_n dX10_tells_57 1 rfl ?_
                refine Ev_iload_n dX10_tells_58 2 rfl ?_
                refine Ev_iconst (v := -1) dX10_tells_59 rfl ⟨by decide, by decide⟩ ?_
                refine Ev_invV (d' := 3) [(0, v1), (0, v2), (0, (-1))] 68 dX10_tells_60 M_X10_otherwise q_1353 (by decide) rfl rfl sh_68 rfl (Nat.le_of_ble_eq_true rfl) (k_X10_otherwise h) ?_
                rintro _ s_34 ⟨r_33, rfl, h⟩
                exact Ev_ret dX10_tells_63 trivial (poIs_mk h)
            · replace h := h.2 hc
              refine Ev_bipush (v := -2) dX10_tells_49 (by decide +kernel) ?_
              exact Ev_ret dX10_tells_51 trivial (poIs_mk h)
          · replace h := h.2 hc
            refine Ev_bipush (v := -11) dX10_tells_35 (by decide +kernel) ?_
            exact Ev_ret dX10_tells_37 trivial (poIs_mk h)
        · replace h := h.2 hc
          refine Ev_sub [] rfl ?_
          exact hK_2 h
