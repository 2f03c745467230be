theorem k_X10_told {s : Sg} {v1 v2 : Int} {post : Int → Sg → Prop} (h : w_X10_told s v1 v2 post) : EvM mX10_told 104 [(2, 68), (0, v1), (0, v2)] s (poIs 0 post) := by
  refine EvM_of rfl (by decide +kernel) (Nat.le_of_ble_eq_true rfl) ?_
  unfold w_X10_told at h
  show Ev mX10_told 104 0 [(0, (2, 68)), (1, (0, v1)), (2, (0, v2))] [] s (poIs 0 post)
  refine Ev_aload_n dX10_told_0 0 rfl ?_
  refine Ev_iload_n dX10_told_1 1 rfl ?_
  refine Ev_invV (d' := 1) [(0, v1)] 68 dX10_told_2 M_X10_isLine q_1050 (by decide) rfl rfl sh_68 rfl (Nat.le_of_ble_eq_true rfl) (k_X10_isLine h) ?_
  rintro _ _ ⟨rfl, r_1, rfl, h⟩
  refine jc_0 (P := Ev mX10_told 104 18 [] [] s (poIs 0 post)) h ?_ ?_
  · intro  h
    refine Ev_bipush (v := -2) dX10_told_18 (by decide +kernel) ?_
    exact Ev_ret dX10_told_20 trivial (poIs_mk h)
  · intro K_2 hK_2 h
    refine Ev_if_eq (tgt := 18) dX10_told_5 (by decide) (fun hc => ?_) (fun hc => ?_)
    · replace h := h.1 hc
      refine Ev_sub [] rfl ?_
      exact hK_2 h
    · replace h := h.2 hc
      refine Ev_iload_n dX10_told_8 2 rfl ?_
      refine Ev_iconst (v := 0) dX10_told_9 rfl ⟨by decide, by decide⟩ ?_
      refine Ev_bipush (v := 7) dX10_told_10 (by decide +kernel) ?_
      refine Ev_invS (d' := 0) [(0, v2), (0, 0), (0, 7)] dX10_told_12 M_X10_in (Or.inl q_1039) (by decide) rfl (Nat.le_of_ble_eq_true rfl) (k_X10_in h) ?_
      rintro _ _ ⟨rfl, r_3, rfl, h⟩
      refine Ev_if_ne (tgt := 21) dX10_told_15 (by decide) (fun hc => ?_) (fun hc => ?_)
      · replace h := h.1 hc
        refine Ev_iload_n dX10_told_21 2 rfl ?_
        refine Ev_iconst (v := 4) dX10_told_22 rfl ⟨by decide, by decide⟩ ?_
        refine Ev_icmp_ge (tgt := 74) dX10_told_23 (by decide) (fun hc => ?_) (fun hc => ?_)
        · replace h := h.1 hc
          refine Ev_iload_n dX10_told_74 2 rfl ?_
          refine Ev_iconst (v := 4) dX10_told_75 rfl ⟨by decide, by decide⟩ ?_
          refine Ev_icmp_ne (tgt := 93) dX10_told_76 (by decide) (fun hc => ?_) (fun hc => ?_)
          · replace h := h.1 hc
            refine Ev_iload_n dX10_told_93 2 rfl ?_
            refine Ev_iconst (v := 5) dX10_told_94 rfl ⟨by decide, by decide⟩ ?_
            refine Ev_icmp_ne (tgt := 108) dX10_told_95 (by decide) (fun hc => ?_) (fun hc => ?_)
            · replace h := h.1 hc
              refine Ev_aload_n dX10_told_108 0 rfl ?_
              refine Ev_invV (d' := 2) [] 68 dX10_told_109 M_X10_tellHulls q_1147 (by decide) rfl rfl sh_68 rfl (Nat.le_of_ble_eq_true rfl) (k_X10_tellHulls h) ?_
              rintro _ s_5 ⟨r_4, rfl, h⟩
              refine Ev_istore_n dX10_told_112 (by decide) rfl ?_
              refine Ev_aload_n dX10_told_113 1 rfl ?_
              refine Ev_getr 68 (80) dX10_told_114 f_RX10_44 rfl sh_68 rfl ?_
              refine Ev_iload_n dX10_told_117 3 rfl ?_
              refine Ev_bipush (v := 6) dX10_told_118 (by decide +kernel) ?_
              refine jc_1s (P := fun (t_6 : Int) (s_7 : Sg) => Ev mX10_told 104 158 [] [(0, t_6), (2, 80)] s_7 (poIs 0 post)) h ?_ ?_
              · intro t_6 s_7 h
                obtain ⟨hb_9, h⟩ := h
                refine Ev_iald (80) dX10_told_158 rfl sh_80 hb_9 ?_
                exact Ev_ret dX10_told_159 trivial (poIs_mk h)
              · intro K_8 hK_8 h
                refine Ev_icmp_ne (tgt := 142) dX10_told_120 (by decide) (fun hc => ?_) (fun hc => ?_)
                · replace h := h.1 hc
                  refine Ev_aload_n dX10_told_142 1 rfl ?_
                  refine Ev_aload_n dX10_told_143 1 rfl ?_
                  refine Ev_getr 68 (71) dX10_told_144 f_RX10_16 rfl sh_68 rfl ?_
                  refine Ev_iload_n dX10_told_147 2 rfl ?_
                  obtain ⟨hb_10, h⟩ := h
                  refine Ev_iald (71) dX10_told_148 rfl sh_71 hb_10 ?_
                  refine Ev_aload_n dX10_told_149 1 rfl ?_
                  refine Ev_getr 68 (72) dX10_told_150 f_RX10_19 rfl sh_68 rfl ?_
                  refine Ev_iload_n dX10_told_153 2 rfl ?_
                  obtain ⟨hb_11, h⟩ := h
                  refine Ev_iald (72) dX10_told_154 rfl sh_72 hb_11 ?_
                  refine Ev_invV (d' := 0) [(0, s_5 71 v1.toNat), (0, s_5 72 v1.toNat)] 68 dX10_told_155 M_X10_placeAt q_1151 (by decide) rfl rfl sh_68 rfl (Nat.le_of_ble_eq_true rfl) (k_X10_placeAt h) ?_
                  rintro _ s_13 ⟨r_12, rfl, h⟩
                  refine Ev_sub [] rfl ?_
                  exact hK_8 _ _ h
                · replace h := h.2 hc
                  refine Ev_aload_n dX10_told_123 1 rfl ?_
                  refine Ev_aload_n dX10_told_124 1 rfl ?_
                  refine Ev_getr 68 (69) dX10_told_125 f_RX10_9 rfl sh_68 rfl ?_
                  refine Ev_iload_n dX10_told_128 2 rfl ?_
                  obtain ⟨hb_14, h⟩ := h
                  refine Ev_iald (69) dX10_told_129 rfl sh_69 hb_14 ?_
                  refine Ev_aload_n dX10_told_130 1 rfl ?_
                  refine Ev_getr 68 (70) dX10_told_131 f_RX10_13 rfl sh_68 rfl ?_
                  refine Ev_iload_n dX10_told_134 2 rfl ?_
                  obtain ⟨hb_15, h⟩ := h
                  refine Ev_iald (70) dX10_told_135 rfl sh_70 hb_15 ?_
                  refine Ev_invV (d' := 0) [(0, s_5 69 v1.toNat), (0, s_5 70 v1.toNat)] 68 dX10_told_136 M_X10_placeAt q_1151 (by decide) rfl rfl sh_68 rfl (Nat.le_of_ble_eq_true rfl) (k_X10_placeAt h) ?_
                  rintro _ s_17 ⟨r_16, rfl, h⟩
                  refine Ev_goto (tgt := 158) dX10_told_139 (by decide) ?_
                  refine Ev_sub [] rfl ?_
                  exact hK_8 _ _ h
            · replace h := h.2 hc
              refine Ev_aload_n dX10_told_98 0 rfl ?_
              refine Ev_invV (d' := 103) [] 68 dX10_told_99 M_X10_tellPoints q_1094 (by decide) rfl rfl sh_68 rfl (Nat.le_of_ble_eq_true rfl) (k_X10_tellPoints h) ?_
              rintro _ s_18 ⟨rfl, h⟩
              refine Ev_aload_n dX10_told_102 0 rfl ?_
              refine Ev_iload_n dX10_told_103 1 rfl ?_
              refine Ev_invV (d' := 4) [(0, v1)] 68 dX10_told_104 M_X10_pointsOn q_1143 (by decide) rfl rfl sh_68 rfl (Nat.le_of_ble_eq_true rfl) (k_X10_pointsOn h) ?_
              rintro _ _ ⟨rfl, r_19, rfl, h⟩
              exact Ev_ret dX10_told_107 trivial (poIs_mk h)
          · replace h := h.2 hc
            refine Ev_aload_n dX10_told_79 0 rfl ?_
            refine Ev_iload_n dX10_told_80 1 rfl ?_
            refine Ev_invV (d' := 0) [(0, v1)] 68 dX10_told_81 M_X10_isUpright q_1139 (by decide) rfl rfl sh_68 rfl (Nat.le_of_ble_eq_true rfl) (k_X10_isUpright h) ?_
            rintro _ _ ⟨rfl, r_20, rfl, h⟩
            refine jc_1 (P := fun (t_21 : Int) => Ev mX10_told 104 92 [] [(0, t_21)] s (poIs 0 post)) h ?_ ?_
            · intro t_21 h
              exact Ev_ret dX10_told_92 trivial (poIs_mk h)
            · intro K_22 hK_22 h
              refine Ev_if_eq (tgt := 91) dX10_told_84 (by decide) (fun hc => ?_) (fun hc => ?_)
              · replace h := h.1 hc
                refine Ev_iconst (v := 0) dX10_told_91 rfl ⟨by decide, by decide⟩ ?_
                refine Ev_sub [] rfl ?_
                exact hK_22 _ h
              · replace h := h.2 hc
                refine Ev_iconst (v := 1) dX10_told_87 rfl ⟨by decide, by decide⟩ ?_
                refine Ev_goto (tgt := 92) dX10_told_88 (by decide) ?_
                refine Ev_sub [] rfl ?_
                exact hK_22 _ h
        · replace h := h.2 hc
          refine Ev_iload_n dX10_told_26 2 rfl ?_
          refine jc_1 (P := fun (t_23 : Int) => Ev mX10_told 104 73 [] [(0, t_23)] s (poIs 0 post)) h ?_ ?_
          · intro t_23 h
            exact Ev_ret dX10_told_73 trivial (poIs_mk h)
          · intro K_24 hK_24 h
            refine Ev_if_ne (tgt := 39) dX10_told_27 (by decide) (fun hc => ?_) (fun hc => ?_)
            · replace h := h.1 hc
              refine Ev_iload_n dX10_told_39 2 rfl ?_
              refine Ev_iconst (v := 1) dX10_told_40 rfl ⟨by decide, by decide⟩ ?_
              refine Ev_icmp_ne (tgt := 53) dX10_told_41 (by decide) (fun hc => ?_) (fun hc => ?_)
              · replace h := h.1 hc
                refine Ev_iload_n dX10_told_53 2 rfl ?_
                refine Ev_iconst (v := 2) dX10_told_54 rfl ⟨by decide, by decide⟩ ?_
                refine Ev_icmp_ne (tgt := 67) dX10_told_55 (by decide) (fun hc => ?_) (fun hc => ?_)
                · replace h := h.1 hc
                  refine Ev_aload_n dX10_told_67 0 rfl ?_
                  refine Ev_getr 68 (72) dX10_told_68 f_RX10_19 rfl sh_68 rfl ?_
                  refine Ev_iload_n dX10_told_71 1 rfl ?_
                  obtain ⟨hb_25, h⟩ := h
                  refine Ev_iald (72) dX10_told_72 rfl sh_72 hb_25 ?_
                  refine Ev_sub [] rfl ?_
                  exact hK_24 _ h
                · replace h := h.2 hc
                  refine Ev_aload_n dX10_told_58 0 rfl ?_
                  refine Ev_getr 68 (71) dX10_told_59 f_RX10_16 rfl sh_68 rfl ?_
                  refine Ev_iload_n dX10_told_62 1 rfl ?_
                  obtain ⟨hb_26, h⟩ := h
                  refine Ev_iald (71) dX10_told_63 rfl sh_71 hb_26 ?_
                  refine Ev_goto (tgt := 73) dX10_told_64 (by decide) ?_
                  refine Ev_sub [] rfl ?_
                  exact hK_24 _ h
              · replace h := h.2 hc
                refine Ev_aload_n dX10_told_44 0 rfl ?_
                refine Ev_getr 68 (70) dX10_told_45 f_RX10_13 rfl sh_68 rfl ?_
                refine Ev_iload_n dX10_told_48 1 rfl ?_
                obtain ⟨hb_27, h⟩ := h
                refine Ev_iald (70) dX10_told_49 rfl sh_70 hb_27 ?_
                refine Ev_goto (tgt := 73) dX10_told_50 (by decide) ?_
                refine Ev_sub [] rfl ?_
                exact hK_24 _ h
            · replace h := h.2 hc
              refine Ev_aload_n dX10_told_30 0 rfl ?_
              refine Ev_getr 68 (69) dX10_told_31 f_RX10_9 rfl sh_68 rfl ?_
              refine Ev_iload_n dX10_told_34 1 rfl ?_
              obtain ⟨hb_28, h⟩ := h
              refine Ev_iald (69) dX10_told_35 rfl sh_69 hb_28 ?_
              refine Ev_goto (tgt := 73) dX10_told_36 (by decide) ?_
              refine Ev_sub [] rfl ?_
              exact hK_24 _ h
      · replace h := h.2 hc
        refine Ev_sub [] rfl ?_
        exact hK_2 h
theorem k_X10_where {s : Sg} {v1 v2 v3 : Int} {post : Int → Sg → Prop} (h : w_X10_where s v1 v2 v3 post) : EvM mX10_where 105 [(2, 68), (0, v1), (0, v2), (0, v3)] s (poIs 0 post) := by
  refine EvM_of rfl (by decide +kernel) (Nat.le_of_ble_eq_true rfl) ?_
  unfold w_X10_where at h
  show Ev mX10_where 105 0 [(0, (2, 68)), (1, (0, v1)), (2, (0, v2)), (3, (0, v3))] [] s (poIs 0 post)
  refine Ev_iload_n dX10_where_0 1 rfl ?_
  refine Ev_iload_n dX10_where_1 2 rfl ?_
  refine Ev_iload_n dX10_where_2 3 rfl ?_
  refine Ev_invS (d' := 1) [(0, v1), (0, v2), (0, v3)] dX10_where_3 M_X10_isPlace (Or.inl q_1276) (by decide) rfl (Nat.le_of_ble_eq_true rfl) (k_X10_isPlace h) ?_
  rintro _ _ ⟨rfl, r_1, rfl, h⟩
  refine Ev_if_ne (tgt := 12) dX10_where_6 (by decide) (fun hc => ?_) (fun hc => ?_)
  · replace h := h.1 hc
    refine Ev_aload_n dX10_where_12 0 rfl ?_
    refine Ev_iload_n dX10_where_13 1 rfl ?_
    refine Ev_i2l dX10_where_14 ?_
    refine Ev_iload_n dX10_where_15 3 rfl ?_
    refine Ev_i2l dX10_where_16 ?_
    refine Ev_iload_n dX10_where_17 2 rfl ?_
    refine Ev_i2l dX10_where_18 ?_
    refine Ev_iload_n dX10_where_19 3 rfl ?_
    refine Ev_i2l dX10_where_20 ?_
    refine Ev_invV (d' := 2) [(1, v1), (1, v3), (1, v2), (1, v3)] 68 dX10_where_21 M_X10_linesOn q_1113 (by decide) rfl rfl sh_68 rfl (Nat.le_of_ble_eq_true rfl) (k_X10_linesOn h) ?_
    rintro _ _ ⟨rfl, r_2, rfl, h⟩
    refine Ev_if_eq (tgt := 29) dX10_where_24 (by decide) (fun hc => ?_) (fun hc => ?_)
    · replace h := h.1 hc
      refine Ev_aload_n dX10_where_29 0 rfl ?_
      refine Ev_invV (d' := 104) [] 68 dX10_where_30 M_X10_tellSheet q_1191 (by decide) rfl rfl sh_68 rfl (Nat.le_of_ble_eq_true rfl) (k_X10_tellSheet h) ?_
      rintro _ s_3 ⟨rfl, h⟩
      refine Ev_iconst (v := 0) dX10_where_33 rfl ⟨by decide, by decide⟩ ?_
      refine Ev_istore dX10_where_34 (by decide) rfl ?_
      refine Ev_sub [1, 2, 3, 4, 0] rfl ?_
      refine li_1 (P := fun (v4_4 : Int) => Ev mX10_where 105 36 [(0, (2, 68)), (1, (0, v1)), (2, (0, v2)), (3, (0, v3)), (4, (0, v4_4))] [] s_3 (poIs 0 post)) ?_ h
      intro again_5 v4_4 hagain_5 h
      refine Ev_iload dX10_where_36 4 rfl ?_
      refine Ev_iconst (v := 1) dX10_where_38 rfl ⟨by decide, by decide⟩ ?_
      refine Ev_iadd dX10_where_39 ?_
      refine Ev_aload_n dX10_where_40 0 rfl ?_
      refine Ev_geti 68 dX10_where_41 f_RX10_278 rfl sh_68 ?_
      refine jc_0 (P := Ev mX10_where 105 81 [(0, (2, 68)), (1, (0, v1)), (2, (0, v2)), (3, (0, v3)), (4, (0, v4_4))] [] s_3 (poIs 0 post)) h ?_ ?_
      · intro  h
        refine Ev_aload_n dX10_where_81 0 rfl ?_
        refine Ev_getr 68 (85) dX10_where_82 f_RX10_60 rfl sh_68 rfl ?_
        refine Ev_iload dX10_where_85 4 rfl ?_
        obtain ⟨hb_7, h⟩ := h
        refine Ev_iald (85) dX10_where_87 rfl sh_85 hb_7 ?_
        obtain ⟨v5_8, ev5_8⟩ : ∃ z : Int, z = s_3 85 v4_4.toNat := ⟨_, rfl⟩
        replace h := h v5_8 ev5_8
        rw [← ev5_8]
        refine Ev_istore dX10_where_88 (by decide) rfl ?_
        refine Ev_sub [1, 2, 3, 4, 0] rfl ?_
        refine li_1 (P := fun (v5_9 : Int) => Ev mX10_where 105 90 [(0, (2, 68)), (1, (0, v1)), (2, (0, v2)), (3, (0, v3)), (5, (0, v5_9))] [] s_3 (poIs 0 post)) ?_ h
        intro again_10 v5_9 hagain_10 h
        refine Ev_aload_n dX10_where_90 0 rfl ?_
        refine Ev_getr 68 (88) dX10_where_91 f_RX10_69 rfl sh_68 rfl ?_
        refine Ev_iload dX10_where_94 4 rfl ?_
        obtain ⟨hb_11, h⟩ := h
        refine Ev_iald (88) dX10_where_96 rfl sh_88 hb_11 ?_
        refine jc_0 (P := Ev mX10_where 105 150 [(0, (2, 68)), (5, (0, v5_9))] [] s_3 (poIs 0 post)) h ?_ ?_
        · intro  h
          refine Ev_aload_n dX10_where_150 0 rfl ?_
          refine Ev_getr 68 (89) dX10_where_151 f_RX10_72 rfl sh_68 rfl ?_
          refine Ev_iload dX10_where_154 1 rfl ?_
          obtain ⟨hb_13, h⟩ := h
          refine Ev_iald (89) dX10_where_156 rfl sh_89 hb_13 ?_
          exact Ev_ret dX10_where_157 trivial (poIs_mk h)
        · intro K_12 hK_12 h
          refine Ev_if_eq (tgt := 150) dX10_where_97 (by decide) (fun hc => ?_) (fun hc => ?_)
          · replace h := h.1 hc
            refine Ev_sub [0, 4] rfl ?_
            exact hK_12 h
          · replace h := h.2 hc
            refine Ev_aload_n dX10_where_100 0 rfl ?_
            refine Ev_aload_n dX10_where_101 0 rfl ?_
            refine Ev_getr 68 (88) dX10_where_102 f_RX10_69 rfl sh_68 rfl ?_
            refine Ev_iload dX10_where_105 4 rfl ?_
            obtain ⟨hb_14, h⟩ := h
            refine Ev_iald (88) dX10_where_107 rfl sh_88 hb_14 ?_
            refine Ev_invS (d' := 1) [(0, s_3 88 v5_9.toNat)] dX10_where_108 M_X10_leastOf (Or.inl q_1221) (by decide) rfl (Nat.le_of_ble_eq_true rfl) (k_X10_leastOf h) ?_
            rintro _ _ ⟨rfl, r_15, rfl, h⟩
            refine Ev_iload_n dX10_where_111 1 rfl ?_
            refine Ev_i2l dX10_where_112 ?_
            refine Ev_iload_n dX10_where_113 3 rfl ?_
            refine Ev_i2l dX10_where_114 ?_
            refine Ev_invV (d' := 0) [(0, r_15), (1, v1), (1, v3)] 68 dX10_where_115 M_X10_yAbove q_1179 (by decide) rfl rfl sh_68 rfl (Nat.le_of_ble_eq_true rfl) (k_X10_yAbove h) ?_
            rintro _ _ ⟨rfl, r_16, rfl, h⟩
            refine Ev_aload_n dX10_where_118 0 rfl ?_
            refine Ev_aload_n dX10_where_119 0 rfl ?_
            refine Ev_getr 68 (88) dX10_where_120 f_RX10_69 rfl sh_68 rfl ?_
            refine Ev_iload dX10_where_123 4 rfl ?_
            obtain ⟨hb_17, h⟩ := h
            refine Ev_iald (88) dX10_where_125 rfl sh_88 hb_17 ?_
            refine Ev_invS (d' := 1) [(0, s_3 88 v5_9.toNat)] dX10_where_126 M_X10_leastOf (Or.inl q_1221) (by decide) rfl (Nat.le_of_ble_eq_true rfl) (k_X10_leastOf h) ?_
            rintro _ _ ⟨rfl, r_18, rfl, h⟩
            refine Ev_iload_n dX10_where_129 3 rfl ?_
            refine Ev_i2l dX10_where_130 ?_
            refine Ev_invV (d' := 0) [(0, r_18), (1, v3)] 68 dX10_where_131 M_X10_yBelow q_1183 (by decide) rfl rfl sh_68 rfl (Nat.le_of_ble_eq_true rfl) (k_X10_yBelow h) ?_
            rintro _ _ ⟨rfl, r_19, rfl, h⟩
            refine Ev_iload_n dX10_where_134 2 rfl ?_
            refine Ev_i2l dX10_where_135 ?_
            refine Ev_iload_n dX10_where_136 3 rfl ?_
            refine Ev_i2l dX10_where_137 ?_
            refine Ev_invS (d' := 0) [(1, r_16), (1, r_19), (1, v2), (1, v3)] dX10_where_138 M_X10_against (Or.inl q_1106) (by decide) rfl (Nat.le_of_ble_eq_true rfl) (k_X10_against h) ?_
            rintro _ _ ⟨rfl, r_20, rfl, h⟩
            refine Ev_if_ge (tgt := 150) dX10_where_141 (by decide) (fun hc => ?_) (fun hc => ?_)
            · replace h := h.1 hc
              refine Ev_sub [0, 4] rfl ?_
              exact hK_12 h
            · replace h := h.2 hc
              obtain ⟨v5_21, ev5_21⟩ : ∃ z : Int, z = w32 (v5_9 + 1) := ⟨_, rfl⟩
              replace h := h v5_21 ev5_21
              refine Ev_iinc (v := v5_21) dX10_where_144 4 rfl ev5_21.symm (by decide) rfl ?_
              refine Ev_goto (tgt := 90) dX10_where_147 (by decide) ?_
              refine Ev_sub [1, 2, 3, 4, 0] rfl ?_
              exact hagain_10 _ h
      · intro K_6 hK_6 h
        refine Ev_icmp_ge (tgt := 81) dX10_where_44 (by decide) (fun hc => ?_) (fun hc => ?_)
        · replace h := h.1 hc
          exact hK_6 h
        · replace h := h.2 hc
          refine Ev_aload_n dX10_where_47 0 rfl ?_
          refine Ev_getr 68 (83) dX10_where_48 f_RX10_54 rfl sh_68 rfl ?_
          refine Ev_iload dX10_where_51 4 rfl ?_
          refine Ev_iconst (v := 1) dX10_where_53 rfl ⟨by decide, by decide⟩ ?_
          refine Ev_iadd dX10_where_54 ?_
          obtain ⟨hb_22, h⟩ := h
          refine Ev_lald (83) dX10_where_55 rfl sh_83 hb_22 ?_
          refine Ev_iload_n dX10_where_56 3 rfl ?_
          refine Ev_i2l dX10_where_57 ?_
          refine Ev_lmul dX10_where_58 ?_
          refine Ev_iload_n dX10_where_59 1 rfl ?_
          refine Ev_i2l dX10_where_60 ?_
          refine Ev_aload_n dX10_where_61 0 rfl ?_
          refine Ev_getr 68 (84) dX10_where_62 f_RX10_57 rfl sh_68 rfl ?_
          refine Ev_iload dX10_where_65 4 rfl ?_
          refine Ev_iconst (v := 1) dX10_where_67 rfl ⟨by decide, by decide⟩ ?_
          refine Ev_iadd dX10_where_68 ?_
          obtain ⟨hb_23, h⟩ := h
          refine Ev_lald (84) dX10_where_69 rfl sh_84 hb_23 ?_
          refine Ev_lmul dX10_where_70 ?_
          refine Ev_lcmp dX10_where_71 ?_
          refine Ev_if_gt (tgt := 81) dX10_where_72 (by decide) (fun hc => ?_) (fun hc => ?_)
          · replace h := h.1 (lcmp_gt.mp hc)
            exact hK_6 h
          · replace h := h.2 (fun q => hc (lcmp_gt.mpr q))
            obtain ⟨v4_24, ev4_24⟩ : ∃ z : Int, z = w32 (v4_4 + 1) := ⟨_, rfl⟩
            replace h := h v4_24 ev4_24
            refine Ev_iinc (v := v4_24) dX10_where_75 4 rfl ev4_24.symm (by decide) rfl ?_
            refine Ev_goto (tgt := 36) dX10_where_78 (by decide) ?_
            refine Ev_sub [1, 2, 3, 4, 0] rfl ?_
            exact hagain_5 _ h
    · replace h := h.2 hc
      refine Ev_iconst (v := -1) dX10_where_27 rfl ⟨by decide, by decide⟩ ?_
      exact Ev_ret dX10_where_28 trivial (poIs_mk h)
  · replace h := h.2 hc
    refine Ev_bipush (v := -2) dX10_where_9 (by decide +kernel) ?_
    exact Ev_ret dX10_where_11 trivial (poIs_mk h)
theorem k_X10_without {s : Sg} {v1 : Int} {post : Int → Sg → Prop} (h : w_X10_without s v1 post) : EvM mX10_without 107 [(2, 68), (0, v1)] s (poIs 0 post) := by
  refine EvM_of rfl (by decide +kernel) (Nat.le_of_ble_eq_true rfl) ?_
  unfold w_X10_without at h
  show Ev mX10_without 107 0 [(0, (2, 68)), (1, (0, v1))] [] s (poIs 0 post)
  refine Ev_aload_n dX10_without_0 0 rfl ?_
  refine Ev_iload_n dX10_without_1 1 rfl ?_
  refine Ev_invV (d' := 1) [(0, v1)] 68 dX10_without_2 M_X10_isLine q_1050 (by decide) rfl rfl sh_68 rfl (Nat.le_of_ble_eq_true rfl) (k_X10_isLine h) ?_
  rintro _ _ ⟨rfl, r_1, rfl, h⟩
  refine jc_1s (P := fun (t_2 : Int) (s_3 : Sg) => Ev mX10_without 107 18 [] [(0, t_2)] s_3 (poIs 0 post)) h ?_ ?_
  · intro t_2 s_3 h
    exact Ev_ret dX10_without_18 trivial (poIs_mk h)
  · intro K_4 hK_4 h
    refine Ev_if_eq (tgt := 16) dX10_without_5 (by decide) (fun hc => ?_) (fun hc => ?_)
    · replace h := h.1 hc
      refine Ev_bipush (v := -2) dX10_without_16 (by decide +kernel) ?_
      refine Ev_sub [] rfl ?_
      exact hK_4 _ _ h
    · replace h := h.2 hc
      refine Ev_aload_n dX10_without_8 0 rfl ?_
      refine Ev_iload_n dX10_without_9 1 rfl ?_
      refine Ev_invV (d' := 106) [(0, v1)] 68 dX10_without_10 M_X10_facesWithout q_1303 (by decide) rfl rfl sh_68 rfl (Nat.le_of_ble_eq_true rfl) (k_X10_facesWithout h) ?_
      rintro _ s_6 ⟨r_5, rfl, h⟩
      refine Ev_goto (tgt := 18) dX10_without_13 (by decide) ?_
      refine Ev_sub [] rfl ?_
      exact hK_4 _ _ h
theorem k_X1_hullOf {s : Sg} {v1 v2 : Int} {post : Int → Prop} (h : w_X1_hullOf s v1 v2 post) : EvM mX1_hullOf 0 [(2, 60), (0, v1), (0, v2)] s (poI 0 s post) := by
  refine EvM_of rfl (by decide +kernel) (Nat.le_of_ble_eq_true rfl) ?_
  unfold w_X1_hullOf at h
  show Ev mX1_hullOf 0 0 [(0, (2, 60)), (1, (0, v1)), (2, (0, v2))] [] s (poI 0 s post)
  refine Ev_iconst (v := 0) dX1_hullOf_0 rfl ⟨by decide, by decide⟩ ?_
  refine Ev_istore_n dX1_hullOf_1 (by decide) rfl ?_
  refine Ev_sub [1, 2, 3, 0] rfl ?_
  refine li_1 (P := fun (v3_1 : Int) => Ev mX1_hullOf 0 2 [(0, (2, 60)), (1, (0, v1)), (2, (0, v2)), (3, (0, v3_1))] [] s (poI 0 s post)) ?_ h
  intro again_2 v3_1 hagain_2 h
  refine Ev_iload_n dX1_hullOf_2 3 rfl ?_
  refine Ev_aload_n dX1_hullOf_3 0 rfl ?_
  refine Ev_geti 60 dX1_hullOf_4 f_RX1_21 rfl sh_60 ?_
  refine Ev_icmp_ge (tgt := 43) dX1_hullOf_7 (by decide) (fun hc => ?_) (fun hc => ?_)
  · replace h := h.1 hc
    refine Ev_bipush (v := -2) dX1_hullOf_43 (by decide +kernel) ?_
    exact Ev_ret dX1_hullOf_45 trivial (poI_mk h)
  · replace h := h.2 hc
    refine Ev_aload_n dX1_hullOf_10 0 rfl ?_
    refine Ev_getr 60 (61) dX1_hullOf_11 f_RX1_9 rfl sh_60 rfl ?_
    refine Ev_iload_n dX1_hullOf_14 3 rfl ?_
    obtain ⟨hb_3, h⟩ := h
    refine Ev_iald (61) dX1_hullOf_15 rfl sh_61 hb_3 ?_
    refine Ev_iload_n dX1_hullOf_16 1 rfl ?_
    refine jc_0 (P := Ev mX1_hullOf 0 37 [(0, (2, 60)), (1, (0, v1)), (2, (0, v2)), (3, (0, v3_1))] [] s (poI 0 s post)) h ?_ ?_
    · intro  h
      obtain ⟨v3_5, ev3_5⟩ : ∃ z : Int, z = w32 (v3_1 + 1) := ⟨_, rfl⟩
      replace h := h v3_5 ev3_5
      refine Ev_iinc (v := v3_5) dX1_hullOf_37 3 rfl ev3_5.symm (by decide) rfl ?_
      refine Ev_goto (tgt := 2) dX1_hullOf_40 (by decide) ?_
      refine Ev_sub [1, 2, 3, 0] rfl ?_
      exact hagain_2 _ h
    · intro K_4 hK_4 h
      refine Ev_icmp_ne (tgt := 37) dX1_hullOf_17 (by decide) (fun hc => ?_) (fun hc => ?_)
      · replace h := h.1 hc
        exact hK_4 h
      · replace h := h.2 hc
        refine Ev_aload_n dX1_hullOf_20 0 rfl ?_
        refine Ev_getr 60 (62) dX1_hullOf_21 f_RX1_15 rfl sh_60 rfl ?_
        refine Ev_iload_n dX1_hullOf_24 3 rfl ?_
        obtain ⟨hb_6, h⟩ := h
        refine Ev_iald (62) dX1_hullOf_25 rfl sh_62 hb_6 ?_
        refine Ev_iload_n dX1_hullOf_26 2 rfl ?_
        refine Ev_icmp_ne (tgt := 37) dX1_hullOf_27 (by decide) (fun hc => ?_) (fun hc => ?_)
        · replace h := h.1 hc
          exact hK_4 h
        · replace h := h.2 hc
          refine Ev_aload_n dX1_hullOf_30 0 rfl ?_
          refine Ev_getr 60 (63) dX1_hullOf_31 f_RX1_18 rfl sh_60 rfl ?_
          refine Ev_iload_n dX1_hullOf_34 3 rfl ?_
          obtain ⟨hb_7, h⟩ := h
          refine Ev_iald (63) dX1_hullOf_35 rfl sh_63 hb_7 ?_
          exact Ev_ret dX1_hullOf_36 trivial (poI_mk h)
theorem k_X1_add {s : Sg} {v1 v2 : Int} {post : Sg → Prop} (h : w_X1_add s v1 v2 post) : EvM mX1_add 1 [(2, 60), (0, v1), (0, v2)] s (poV post) := by
  refine EvM_of rfl (by decide +kernel) (Nat.le_of_ble_eq_true rfl) ?_
  unfold w_X1_add at h
  show Ev mX1_add 1 0 [(0, (2, 60)), (1, (0, v1)), (2, (0, v2))] [] s (poV post)
  refine Ev_aload_n dX1_add_0 0 rfl ?_
  refine Ev_iload_n dX1_add_1 1 rfl ?_
  refine Ev_iload_n dX1_add_2 2 rfl ?_
  refine Ev_invV (d' := 0) [(0, v1), (0, v2)] 60 dX1_add_3 M_X1_hullOf q_549 (by decide) rfl rfl sh_60 rfl (Nat.le_of_ble_eq_true rfl) (k_X1_hullOf h) ?_
  rintro _ _ ⟨rfl, r_1, rfl, h⟩
  refine Ev_bipush (v := -2) dX1_add_6 (by decide +kernel) ?_
  refine jc_0s (P := fun (s_2 : Sg) => Ev mX1_add 1 60 [] [] s_2 (poV post)) h ?_ ?_
  · intro s_2 h
    exact Ev_retv dX1_add_60 rfl (poV_mk h)
  · intro K_3 hK_3 h
    refine Ev_icmp_ne (tgt := 60) dX1_add_8 (by decide) (fun hc => ?_) (fun hc => ?_)
    · replace h := h.1 hc
      refine Ev_sub [] rfl ?_
      exact hK_3 _ h
    · replace h := h.2 hc
      refine Ev_aload_n dX1_add_11 0 rfl ?_
      refine Ev_geti 60 dX1_add_12 f_RX1_21 rfl sh_60 ?_
      refine Ev_bipush (v := 20) dX1_add_15 (by decide +kernel) ?_
      refine Ev_icmp_ge (tgt := 60) dX1_add_17 (by decide) (fun hc => ?_) (fun hc => ?_)
      · replace h := h.1 hc
        refine Ev_sub [] rfl ?_
        exact hK_3 _ h
      · replace h := h.2 hc
        refine Ev_aload_n dX1_add_20 0 rfl ?_
        refine Ev_getr 60 (61) dX1_add_21 f_RX1_9 rfl sh_60 rfl ?_
        refine Ev_aload_n dX1_add_24 0 rfl ?_
        refine Ev_geti 60 dX1_add_25 f_RX1_21 rfl sh_60 ?_
        refine Ev_iload_n dX1_add_28 1 rfl ?_
        obtain ⟨hb_4, h⟩ := h
        obtain ⟨s_5, es_5⟩ : ∃ z : Sg, z = (up s 61 ((s 60 1).toNat) v1) := ⟨_, rfl⟩
        replace h := h s_5 es_5
        refine Ev_iast (61) dX1_add_29 rfl sh_61 hb_4 ?_
        rw [← es_5]
        refine Ev_aload_n dX1_add_30 0 rfl ?_
        refine Ev_getr 60 (62) dX1_add_31 f_RX1_15 rfl sh_60 rfl ?_
        refine Ev_aload_n dX1_add_34 0 rfl ?_
        refine Ev_geti 60 dX1_add_35 f_RX1_21 rfl sh_60 ?_
        refine Ev_iload_n dX1_add_38 2 rfl ?_
        obtain ⟨hb_6, h⟩ := h
        obtain ⟨s_7, es_7⟩ : ∃ z : Sg, z = (up s_5 62 ((s_5 60 1).toNat) v2) := ⟨_, rfl⟩
        replace h := h s_7 es_7
        refine Ev_iast (62) dX1_add_39 rfl sh_62 hb_6 ?_
        rw [← es_7]
        refine Ev_aload_n dX1_add_40 0 rfl ?_
        refine Ev_getr 60 (63) dX1_add_41 f_RX1_18 rfl sh_60 rfl ?_
        refine Ev_aload_n dX1_add_44 0 rfl ?_
        refine Ev_geti 60 dX1_add_45 f_RX1_21 rfl sh_60 ?_
        refine Ev_iconst (v := -1) dX1_add_48 rfl ⟨by decide, by decide⟩ ?_
        obtain ⟨hb_8, h⟩ := h
        obtain ⟨s_9, es_9⟩ : ∃ z : Sg, z = (up s_7 63 ((s_7 60 1).toNat) (-1)) := ⟨_, rfl⟩
        replace h := h s_9 es_9
        refine Ev_iast (63) dX1_add_49 rfl sh_63 hb_8 ?_
        rw [← es_9]
        refine Ev_aload_n dX1_add_50 0 rfl ?_
        refine Ev_dup dX1_add_51 (show ¬ (2 : Nat) = 1 by decide) ?_
        refine Ev_geti 60 dX1_add_52 f_RX1_21 rfl sh_60 ?_
        refine Ev_iconst (v := 1) dX1_add_55 rfl ⟨by decide, by decide⟩ ?_
        refine Ev_iadd dX1_add_56 ?_
        obtain ⟨s_10, es_10⟩ : ∃ z : Sg, z = (up s_9 60 1 (w32 ((s_9 60 1) + 1))) := ⟨_, rfl⟩
        replace h := h s_10 es_10
        refine Ev_puti 60 dX1_add_57 fp_RX1_21 rfl sh_60 ?_
        rw [← es_10]
        refine Ev_sub [] rfl ?_
        exact hK_3 _ h
theorem k_X1_isLeft {s : Sg} {v1 v2 : Int} {post : Int → Prop} (h : w_X1_isLeft s v1 v2 post) : EvM mX1_isLeft 0 [(2, 60), (0, v1), (0, v2)] s (poI 0 s post) := by
  refine EvM_of rfl (by decide +kernel) (Nat.le_of_ble_eq_true rfl) ?_
  unfold w_X1_isLeft at h
  show Ev mX1_isLeft 0 0 [(0, (2, 60)), (1, (0, v1)), (2, (0, v2))] [] s (poI 0 s post)
  refine Ev_aload_n dX1_isLeft_0 0 rfl ?_
  refine Ev_getr 60 (63) dX1_isLeft_1 f_RX1_18 rfl sh_60 rfl ?_
  refine Ev_iload_n dX1_isLeft_4 1 rfl ?_
  obtain ⟨hb_1, h⟩ := h
  refine Ev_iald (63) dX1_isLeft_5 rfl sh_63 hb_1 ?_
  refine Ev_iconst (v := -1) dX1_isLeft_6 rfl ⟨by decide, by decide⟩ ?_
  refine jc_1 (P := fun (t_2 : Int) => Ev mX1_isLeft 0 25 [] [(0, t_2)] s (poI 0 s post)) h ?_ ?_
  · intro t_2 h
    obtain ⟨hz, h⟩ := h
    exact Ev_ret dX1_isLeft_25 hz (poI_mk h)
  · intro K_3 hK_3 h
    refine jc_0 (P := Ev mX1_isLeft 0 20 [] [] s (poI 0 s post)) h ?_ ?_
    · intro  h
      refine Ev_iconst (v := 1) dX1_isLeft_20 rfl ⟨by decide, by decide⟩ ?_
      refine Ev_goto (tgt := 25) dX1_isLeft_21 (by decide) ?_
      exact hK_3 _ h
    · intro K_4 hK_4 h
      refine Ev_icmp_eq (tgt := 20) dX1_isLeft_7 (by decide) (fun hc => ?_) (fun hc => ?_)
      · replace h := h.1 hc
        refine Ev_sub [] rfl ?_
        exact hK_4 h
      · replace h := h.2 hc
        refine Ev_aload_n dX1_isLeft_10 0 rfl ?_
        refine Ev_getr 60 (63) dX1_isLeft_11 f_RX1_18 rfl sh_60 rfl ?_
        refine Ev_iload_n dX1_isLeft_14 1 rfl ?_
        obtain ⟨hb_5, h⟩ := h
        refine Ev_iald (63) dX1_isLeft_15 rfl sh_63 hb_5 ?_
        refine Ev_iload_n dX1_isLeft_16 2 rfl ?_
        refine Ev_icmp_ne (tgt := 24) dX1_isLeft_17 (by decide) (fun hc => ?_) (fun hc => ?_)
        · replace h := h.1 hc
          refine Ev_iconst (v := 0) dX1_isLeft_24 rfl ⟨by decide, by decide⟩ ?_
          refine Ev_sub [] rfl ?_
          exact hK_3 _ h
        · replace h := h.2 hc
          refine Ev_sub [] rfl ?_
          exact hK_4 h
theorem k_X1_noneAtTheLeft {s : Sg} {v1 v2 v3 : Int} {post : Int → Prop} (h : w_X1_noneAtTheLeft s v1 v2 v3 post) : EvM mX1_noneAtTheLeft 1 [(2, 60), (0, v1), (0, v2), (0, v3)] s (poI 0 s post) := by
  refine EvM_of rfl (by decide +kernel) (Nat.le_of_ble_eq_true rfl) ?_
  unfold w_X1_noneAtTheLeft at h
  show Ev mX1_noneAtTheLeft 1 0 [(0, (2, 60)), (1, (0, v1)), (2, (0, v2)), (3, (0, v3))] [] s (poI 0 s post)
  refine Ev_iconst (v := 0) dX1_noneAtTheLeft_0 rfl ⟨by decide, by decide⟩ ?_
  refine Ev_istore dX1_noneAtTheLeft_1 (by decide) rfl ?_
  refine Ev_sub [1, 2, 3, 4, 0] rfl ?_
  refine li_1 (P := fun (v4_1 : Int) => Ev mX1_noneAtTheLeft 1 3 [(0, (2, 60)), (1, (0, v1)), (2, (0, v2)), (3, (0, v3)), (4, (0, v4_1))] [] s (poI 0 s post)) ?_ h
  intro again_2 v4_1 hagain_2 h
  refine Ev_iload dX1_noneAtTheLeft_3 4 rfl ?_
  refine Ev_aload_n dX1_noneAtTheLeft_5 0 rfl ?_
  refine Ev_geti 60 dX1_noneAtTheLeft_6 f_RX1_21 rfl sh_60 ?_
  refine Ev_icmp_ge (tgt := 94) dX1_noneAtTheLeft_9 (by decide) (fun hc => ?_) (fun hc => ?_)
  · replace h := h.1 hc
    refine Ev_iconst (v := 1) dX1_noneAtTheLeft_94 rfl ⟨by decide, by decide⟩ ?_
    exact Ev_ret dX1_noneAtTheLeft_95 (Or.inr rfl) (poI_mk h)
  · replace h := h.2 hc
    refine Ev_aload_n dX1_noneAtTheLeft_12 0 rfl ?_
    refine Ev_getr 60 (61) dX1_noneAtTheLeft_13 f_RX1_9 rfl sh_60 rfl ?_
    refine Ev_iload_n dX1_noneAtTheLeft_16 2 rfl ?_
    obtain ⟨hb_3, h⟩ := h
    refine Ev_iald (61) dX1_noneAtTheLeft_17 rfl sh_61 hb_3 ?_
    refine Ev_aload_n dX1_noneAtTheLeft_18 0 rfl ?_
    refine Ev_getr 60 (61) dX1_noneAtTheLeft_19 f_RX1_9 rfl sh_60 rfl ?_
    refine Ev_iload_n dX1_noneAtTheLeft_22 1 rfl ?_
    obtain ⟨hb_4, h⟩ := h
    refine Ev_iald (61) dX1_noneAtTheLeft_23 rfl sh_61 hb_4 ?_
    refine Ev_isub dX1_noneAtTheLeft_24 ?_
    refine Ev_aload_n dX1_noneAtTheLeft_25 0 rfl ?_
    refine Ev_getr 60 (62) dX1_noneAtTheLeft_26 f_RX1_15 rfl sh_60 rfl ?_
    refine Ev_iload dX1_noneAtTheLeft_29 4 rfl ?_
    obtain ⟨hb_5, h⟩ := h
    refine Ev_iald (62) dX1_noneAtTheLeft_31 rfl sh_62 hb_5 ?_
    refine Ev_aload_n dX1_noneAtTheLeft_32 0 rfl ?_
    refine Ev_getr 60 (62) dX1_noneAtTheLeft_33 f_RX1_15 rfl sh_60 rfl ?_
    refine Ev_iload_n dX1_noneAtTheLeft_36 1 rfl ?_
    obtain ⟨hb_6, h⟩ := h
    refine Ev_iald (62) dX1_noneAtTheLeft_37 rfl sh_62 hb_6 ?_
    refine Ev_isub dX1_noneAtTheLeft_38 ?_
    refine Ev_imul dX1_noneAtTheLeft_39 ?_
    refine Ev_aload_n dX1_noneAtTheLeft_40 0 rfl ?_
    refine Ev_getr 60 (62) dX1_noneAtTheLeft_41 f_RX1_15 rfl sh_60 rfl ?_
    refine Ev_iload_n dX1_noneAtTheLeft_44 2 rfl ?_
    obtain ⟨hb_7, h⟩ := h
    refine Ev_iald (62) dX1_noneAtTheLeft_45 rfl sh_62 hb_7 ?_
    refine Ev_aload_n dX1_noneAtTheLeft_46 0 rfl ?_
    refine Ev_getr 60 (62) dX1_noneAtTheLeft_47 f_RX1_15 rfl sh_60 rfl ?_
    refine Ev_iload_n dX1_noneAtTheLeft_50 1 rfl ?_
    obtain ⟨hb_8, h⟩ := h
    refine Ev_iald (62) dX1_noneAtTheLeft_51 rfl sh_62 hb_8 ?_
    refine Ev_isub dX1_noneAtTheLeft_52 ?_
    refine Ev_aload_n dX1_noneAtTheLeft_53 0 rfl ?_
    refine Ev_getr 60 (61) dX1_noneAtTheLeft_54 f_RX1_9 rfl sh_60 rfl ?_
    refine Ev_iload dX1_noneAtTheLeft_57 4 rfl ?_
    obtain ⟨hb_9, h⟩ := h
    refine Ev_iald (61) dX1_noneAtTheLeft_59 rfl sh_61 hb_9 ?_
    refine Ev_aload_n dX1_noneAtTheLeft_60 0 rfl ?_
    refine Ev_getr 60 (61) dX1_noneAtTheLeft_61 f_RX1_9 rfl sh_60 rfl ?_
    refine Ev_iload_n dX1_noneAtTheLeft_64 1 rfl ?_
    obtain ⟨hb_10, h⟩ := h
    refine Ev_iald (61) dX1_noneAtTheLeft_65 rfl sh_61 hb_10 ?_
    refine Ev_isub dX1_noneAtTheLeft_66 ?_
    refine Ev_imul dX1_noneAtTheLeft_67 ?_
    refine Ev_isub dX1_noneAtTheLeft_68 ?_
    obtain ⟨v5_11, ev5_11⟩ : ∃ z : Int, z = w32 ((w32 ((w32 ((s 61 v2.toNat) - (s 61 v1.toNat))) * (w32 ((s 62 v4_1.toNat) - (s 62 v1.toNat))))) - (w32 ((w32 ((s 62 v2.toNat) - (s 62 v1.toNat))) * (w32 ((s 61 v4_1.toNat) - (s 61 v1.toNat)))))) := ⟨_, rfl⟩
    replace h := h v5_11 ev5_11
    rw [← ev5_11]
    refine Ev_istore dX1_noneAtTheLeft_69 (by decide) rfl ?_
    refine Ev_iload dX1_noneAtTheLeft_71 0 rfl ?_
    refine jc_0 (P := Ev mX1_noneAtTheLeft 1 88 [(0, (2, 60)), (1, (0, v1)), (2, (0, v2)), (3, (0, v3)), (4, (0, v4_1))] [] s (poI 0 s post)) h ?_ ?_
    · intro  h
      obtain ⟨v4_13, ev4_13⟩ : ∃ z : Int, z = w32 (v4_1 + 1) := ⟨_, rfl⟩
      replace h := h v4_13 ev4_13
      refine Ev_iinc (v := v4_13) dX1_noneAtTheLeft_88 4 rfl ev4_13.symm (by decide) rfl ?_
      refine Ev_goto (tgt := 3) dX1_noneAtTheLeft_91 (by decide) ?_
      refine Ev_sub [1, 2, 3, 4, 0] rfl ?_
      exact hagain_2 _ h
    · intro K_12 hK_12 h
      refine Ev_if_le (tgt := 88) dX1_noneAtTheLeft_73 (by decide) (fun hc => ?_) (fun hc => ?_)
      · replace h := h.1 hc
        refine Ev_sub [1, 2, 3, 4, 5] rfl ?_
        exact hK_12 h
      · replace h := h.2 hc
        refine Ev_aload_n dX1_noneAtTheLeft_76 1 rfl ?_
        refine Ev_iload dX1_noneAtTheLeft_77 5 rfl ?_
        refine Ev_iload_n dX1_noneAtTheLeft_79 4 rfl ?_
        refine Ev_invV (d' := 0) [(0, v4_1), (0, v3)] 60 dX1_noneAtTheLeft_80 M_X1_isLeft q_561 (by decide) rfl rfl sh_60 rfl (Nat.le_of_ble_eq_true rfl) (k_X1_isLeft h) ?_
        rintro _ _ ⟨rfl, r_14, rfl, h⟩
        refine Ev_if_eq (tgt := 88) dX1_noneAtTheLeft_83 (by decide) (fun hc => ?_) (fun hc => ?_)
        · replace h := h.1 hc
          refine Ev_sub [1, 2, 3, 4, 5] rfl ?_
          exact hK_12 h
        · replace h := h.2 hc
          refine Ev_iconst (v := 0) dX1_noneAtTheLeft_86 rfl ⟨by decide, by decide⟩ ?_
          exact Ev_ret dX1_noneAtTheLeft_87 (Or.inl rfl) (poI_mk h)
theorem k_X1_isOnBorder {s : Sg} {v1 v2 : Int} {post : Int → Prop} (h : w_X1_isOnBorder s v1 v2 post) : EvM mX1_isOnBorder 2 [(2, 60), (0, v1), (0, v2)] s (poI 0 s post) := by
  refine EvM_of rfl (by decide +kernel) (Nat.le_of_ble_eq_true rfl) ?_
  unfold w_X1_isOnBorder at h
  show Ev mX1_isOnBorder 2 0 [(0, (2, 60)), (1, (0, v1)), (2, (0, v2))] [] s (poI 0 s post)
  refine Ev_iconst (v := 1) dX1_isOnBorder_0 rfl ⟨by decide, by decide⟩ ?_
  refine Ev_istore_n dX1_isOnBorder_1 (by decide) rfl ?_
  refine Ev_iconst (v := 0) dX1_isOnBorder_2 rfl ⟨by decide, by decide⟩ ?_
  refine Ev_istore dX1_isOnBorder_3 (by decide) rfl ?_
  refine Ev_sub [2, 3, 4, 1, 0] rfl ?_
  refine li_2 (P := fun (v3_1 v4_2 : Int) => Ev mX1_isOnBorder 2 5 [(0, (2, 60)), (1, (0, v1)), (2, (0, v2)), (3, (0, v3_1)), (4, (0, v4_2))] [] s (poI 0 s post)) ?_ h
  intro again_3 v3_1 v4_2 hagain_3 h
  refine Ev_iload dX1_isOnBorder_5 4 rfl ?_
  refine Ev_aload_n dX1_isOnBorder_7 0 rfl ?_
  refine Ev_geti 60 dX1_isOnBorder_8 f_RX1_21 rfl sh_60 ?_
  refine Ev_icmp_ge (tgt := 51) dX1_isOnBorder_11 (by decide) (fun hc => ?_) (fun hc => ?_)
  · replace h := h.1 hc
    refine Ev_iload_n dX1_isOnBorder_51 3 rfl ?_
    obtain ⟨hz, h⟩ := h
    exact Ev_ret dX1_isOnBorder_52 hz (poI_mk h)
  · replace h := h.2 hc
    refine Ev_iload dX1_isOnBorder_14 4 rfl ?_
    refine Ev_iload_n dX1_isOnBorder_16 1 rfl ?_
    refine jc_1 (P := fun (v3_4 : Int) => Ev mX1_isOnBorder 2 45 [(0, (2, 60)), (1, (0, v1)), (2, (0, v2)), (3, (0, v3_4)), (4, (0, v4_2))] [] s (poI 0 s post)) h ?_ ?_
    · intro v3_4 h
      obtain ⟨v4_6, ev4_6⟩ : ∃ z : Int, z = w32 (v4_2 + 1) := ⟨_, rfl⟩
      replace h := h v4_6 ev4_6
      refine Ev_iinc (v := v4_6) dX1_isOnBorder_45 4 rfl ev4_6.symm (by decide) rfl ?_
      refine Ev_goto (tgt := 5) dX1_isOnBorder_48 (by decide) ?_
      refine Ev_sub [1, 2, 3, 4, 0] rfl ?_
      exact hagain_3 _ _ h
    · intro K_5 hK_5 h
      refine Ev_icmp_eq (tgt := 45) dX1_isOnBorder_17 (by decide) (fun hc => ?_) (fun hc => ?_)
      · replace h := h.1 hc
        exact hK_5 _ h
      · replace h := h.2 hc
        refine Ev_aload_n dX1_isOnBorder_20 0 rfl ?_
        refine Ev_iload dX1_isOnBorder_21 4 rfl ?_
        refine Ev_iload_n dX1_isOnBorder_23 2 rfl ?_
        refine Ev_invV (d' := 0) [(0, v4_2), (0, v2)] 60 dX1_isOnBorder_24 M_X1_isLeft q_561 (by decide) rfl rfl sh_60 rfl (Nat.le_of_ble_eq_true rfl) (k_X1_isLeft h) ?_
        rintro _ _ ⟨rfl, r_7, rfl, h⟩
        refine Ev_if_eq (tgt := 45) dX1_isOnBorder_27 (by decide) (fun hc => ?_) (fun hc => ?_)
        · replace h := h.1 hc
          exact hK_5 _ h
        · replace h := h.2 hc
          refine Ev_iconst (v := 0) dX1_isOnBorder_30 rfl ⟨by decide, by decide⟩ ?_
          refine Ev_istore_n dX1_isOnBorder_31 (by decide) rfl ?_
          refine Ev_aload_n dX1_isOnBorder_32 1 rfl ?_
          refine Ev_iload_n dX1_isOnBorder_33 2 rfl ?_
          refine Ev_iload dX1_isOnBorder_34 4 rfl ?_
          refine Ev_iload_n dX1_isOnBorder_36 3 rfl ?_
          refine Ev_invV (d' := 1) [(0, v1), (0, v4_2), (0, v2)] 60 dX1_isOnBorder_37 M_X1_noneAtTheLeft q_565 (by decide) rfl rfl sh_60 rfl (Nat.le_of_ble_eq_true rfl) (k_X1_noneAtTheLeft h) ?_
          rintro _ _ ⟨rfl, r_8, rfl, h⟩
          refine Ev_if_eq (tgt := 45) dX1_isOnBorder_40 (by decide) (fun hc => ?_) (fun hc => ?_)
          · replace h := h.1 hc
            refine Ev_sub [1, 2, 3, 0, 4] rfl ?_
            exact hK_5 _ h
          · replace h := h.2 hc
            refine Ev_iconst (v := 1) dX1_isOnBorder_43 rfl ⟨by decide, by decide⟩ ?_
            exact Ev_ret dX1_isOnBorder_44 (Or.inr rfl) (poI_mk h)
theorem k_X1_peelOff {s : Sg} {v1 : Int} {post : Int → Sg → Prop} (h : w_X1_peelOff s v1 post) : EvM mX1_peelOff 3 [(2, 60), (0, v1)] s (poIs 0 post) := by
  refine EvM_of rfl (by decide +kernel) (Nat.le_of_ble_eq_true rfl) ?_
  unfold w_X1_peelOff at h
  show Ev mX1_peelOff 3 0 [(0, (2, 60)), (1, (0, v1))] [] s (poIs 0 post)
  refine Ev_iconst (v := 0) dX1_peelOff_0 rfl ⟨by decide, by decide⟩ ?_
  refine Ev_istore_n dX1_peelOff_1 (by decide) rfl ?_
  refine Ev_iconst (v := 0) dX1_peelOff_2 rfl ⟨by decide, by decide⟩ ?_
  refine Ev_istore_n dX1_peelOff_3 (by decide) rfl ?_
  refine Ev_sub [2, 3, 1, 0] rfl ?_
  refine li_2s (P := fun (v2_1 v3_2 : Int) (s_3 : Sg) => Ev mX1_peelOff 3 4 [(0, (2, 60)), (1, (0, v1)), (2, (0, v2_1)), (3, (0, v3_2))] [] s_3 (poIs 0 post)) ?_ h
  intro again_4 v2_1 v3_2 s_3 hagain_4 h
  refine Ev_iload_n dX1_peelOff_4 3 rfl ?_
  refine Ev_aload_n dX1_peelOff_5 0 rfl ?_
  refine Ev_geti 60 dX1_peelOff_6 f_RX1_21 rfl sh_60 ?_
  refine Ev_icmp_ge (tgt := 47) dX1_peelOff_9 (by decide) (fun hc => ?_) (fun hc => ?_)
  · replace h := h.1 hc
    refine Ev_iload_n dX1_peelOff_47 2 rfl ?_
    exact Ev_ret dX1_peelOff_48 trivial (poIs_mk h)
  · replace h := h.2 hc
    refine Ev_aload_n dX1_peelOff_12 0 rfl ?_
    refine Ev_getr 60 (63) dX1_peelOff_13 f_RX1_18 rfl sh_60 rfl ?_
    refine Ev_iload_n dX1_peelOff_16 3 rfl ?_
    obtain ⟨hb_5, h⟩ := h
    refine Ev_iald (63) dX1_peelOff_17 rfl sh_63 hb_5 ?_
    refine Ev_iconst (v := -1) dX1_peelOff_18 rfl ⟨by decide, by decide⟩ ?_
    refine jc_1s (P := fun (v2_6 : Int) (s_7 : Sg) => Ev mX1_peelOff 3 41 [(0, (2, 60)), (1, (0, v1)), (2, (0, v2_6)), (3, (0, v3_2))] [] s_7 (poIs 0 post)) h ?_ ?_
    · intro v2_6 s_7 h
      obtain ⟨v3_9, ev3_9⟩ : ∃ z : Int, z = w32 (v3_2 + 1) := ⟨_, rfl⟩
      replace h := h v3_9 ev3_9
      refine Ev_iinc (v := v3_9) dX1_peelOff_41 3 rfl ev3_9.symm (by decide) rfl ?_
      refine Ev_goto (tgt := 4) dX1_peelOff_44 (by decide) ?_
      refine Ev_sub [1, 2, 3, 0] rfl ?_
      exact hagain_4 _ _ _ h
    · intro K_8 hK_8 h
      refine Ev_icmp_ne (tgt := 41) dX1_peelOff_19 (by decide) (fun hc => ?_) (fun hc => ?_)
      · replace h := h.1 hc
        exact hK_8 _ _ h
      · replace h := h.2 hc
        refine Ev_aload_n dX1_peelOff_22 0 rfl ?_
        refine Ev_iload_n dX1_peelOff_23 3 rfl ?_
        refine Ev_iload_n dX1_peelOff_24 1 rfl ?_
        refine Ev_invV (d' := 2) [(0, v3_2), (0, v1)] 60 dX1_peelOff_25 M_X1_isOnBorder q_557 (by decide) rfl rfl sh_60 rfl (Nat.le_of_ble_eq_true rfl) (k_X1_isOnBorder h) ?_
        rintro _ _ ⟨rfl, r_10, rfl, h⟩
        refine Ev_if_eq (tgt := 41) dX1_peelOff_28 (by decide) (fun hc => ?_) (fun hc => ?_)
        · replace h := h.1 hc
          exact hK_8 _ _ h
        · replace h := h.2 hc
          refine Ev_aload_n dX1_peelOff_31 0 rfl ?_
          refine Ev_getr 60 (63) dX1_peelOff_32 f_RX1_18 rfl sh_60 rfl ?_
          refine Ev_iload_n dX1_peelOff_35 3 rfl ?_
          refine Ev_iload_n dX1_peelOff_36 1 rfl ?_
          obtain ⟨hb_11, h⟩ := h
          obtain ⟨s_12, es_12⟩ : ∃ z : Sg, z = (up s_3 63 (v3_2.toNat) v1) := ⟨_, rfl⟩
          replace h := h s_12 es_12
          refine Ev_iast (63) dX1_peelOff_37 rfl sh_63 hb_11 ?_
          rw [← es_12]
          obtain ⟨v2_13, ev2_13⟩ : ∃ z : Int, z = w32 (v2_1 + 1) := ⟨_, rfl⟩
          replace h := h v2_13 ev2_13
          refine Ev_iinc (v := v2_13) dX1_peelOff_38 2 rfl ev2_13.symm (by decide) rfl ?_
          refine Ev_sub [1, 2, 0, 3] rfl ?_
          exact hK_8 _ _ h
theorem k_X1_peel {s : Sg} {post : Sg → Prop} (h : w_X1_peel s post) : EvM mX1_peel 4 [(2, 60), (2, 1)] s (poV post) := by
  refine EvM_of rfl (by decide +kernel) (Nat.le_of_ble_eq_true rfl) ?_
  unfold w_X1_peel at h
  show Ev mX1_peel 4 0 [(0, (2, 60)), (1, (2, 1))] [] s (poV post)
  refine Ev_aload_n dX1_peel_0 0 rfl ?_
  refine Ev_iconst (v := 0) dX1_peel_1 rfl ⟨by decide, by decide⟩ ?_
  obtain ⟨s_1, es_1⟩ : ∃ z : Sg, z = (up s 60 1 0) := ⟨_, rfl⟩
  replace h := h s_1 es_1
  refine Ev_puti 60 dX1_peel_2 fp_RX1_21 rfl sh_60 ?_
  rw [← es_1]
  refine Ev_iconst (v := 0) dX1_peel_5 rfl ⟨by decide, by decide⟩ ?_
  refine Ev_istore_n dX1_peel_6 (by decide) rfl ?_
  refine Ev_sub [1, 2, 0] rfl ?_
  refine li_1s (P := fun (v2_2 : Int) (s_3 : Sg) => Ev mX1_peel 4 7 [(0, (2, 60)), (1, (2, 1)), (2, (0, v2_2))] [] s_3 (poV post)) ?_ h
  intro again_4 v2_2 s_3 hagain_4 h
  refine Ev_iload_n dX1_peel_7 2 rfl ?_
  refine Ev_aload_n dX1_peel_8 1 rfl ?_
  refine Ev_geti 1 dX1_peel_9 f_RX1_25 rfl sh_1 ?_
  refine Ev_icmp_ge (tgt := 53) dX1_peel_12 (by decide) (fun hc => ?_) (fun hc => ?_)
  · replace h := h.1 hc
    refine Ev_aload_n dX1_peel_53 0 rfl ?_
    refine Ev_iconst (v := 0) dX1_peel_54 rfl ⟨by decide, by decide⟩ ?_
    obtain ⟨s_5, es_5⟩ : ∃ z : Sg, z = (up s_3 60 0 0) := ⟨_, rfl⟩
    replace h := h s_5 es_5
    refine Ev_puti 60 dX1_peel_55 fp_RX1_46 rfl sh_60 ?_
    rw [← es_5]
    refine Ev_aload_n dX1_peel_58 0 rfl ?_
    refine Ev_geti 60 dX1_peel_59 f_RX1_21 rfl sh_60 ?_
    obtain ⟨v2_6, ev2_6⟩ : ∃ z : Int, z = s_5 60 1 := ⟨_, rfl⟩
    replace h := h v2_6 ev2_6
    rw [← ev2_6]
    refine Ev_istore_n dX1_peel_62 (by decide) rfl ?_
    refine Ev_iconst (v := 0) dX1_peel_63 rfl ⟨by decide, by decide⟩ ?_
    refine Ev_istore_n dX1_peel_64 (by decide) rfl ?_
    refine Ev_sub [2, 1, 0] rfl ?_
    refine li_2s (P := fun (v2_7 v3_8 : Int) (s_9 : Sg) => Ev mX1_peel 4 65 [(0, (2, 60)), (2, (0, v2_7)), (3, (0, v3_8))] [] s_9 (poV post)) ?_ h
    intro again_10 v2_7 v3_8 s_9 hagain_10 h
    refine Ev_iload_n dX1_peel_65 2 rfl ?_
    refine Ev_aload_n dX1_peel_66 0 rfl ?_
    refine Ev_geti 60 dX1_peel_67 f_RX1_21 rfl sh_60 ?_
    refine jc_0 (P := Ev mX1_peel 4 101 [] [] s_9 (poV post)) h ?_ ?_
    · intro  h
      exact Ev_retv dX1_peel_101 rfl (poV_mk h)
    · intro K_11 hK_11 h
      refine Ev_icmp_ge (tgt := 101) dX1_peel_70 (by decide) (fun hc => ?_) (fun hc => ?_)
      · replace h := h.1 hc
        refine Ev_sub [] rfl ?_
        exact hK_11 h
      · replace h := h.2 hc
        refine Ev_iload_n dX1_peel_73 1 rfl ?_
        refine Ev_if_le (tgt := 101) dX1_peel_74 (by decide) (fun hc => ?_) (fun hc => ?_)
        · replace h := h.1 hc
          refine Ev_sub [] rfl ?_
          exact hK_11 h
        · replace h := h.2 hc
          refine Ev_iload_n dX1_peel_77 1 rfl ?_
          refine Ev_aload_n dX1_peel_78 0 rfl ?_
          refine Ev_iload_n dX1_peel_79 2 rfl ?_
          refine Ev_invV (d' := 3) [(0, v3_8)] 60 dX1_peel_80 M_X1_peelOff q_553 (by decide) rfl rfl sh_60 rfl (Nat.le_of_ble_eq_true rfl) (k_X1_peelOff h) ?_
          rintro _ s_13 ⟨r_12, rfl, h⟩
          refine Ev_isub dX1_peel_83 ?_
          obtain ⟨v2_14, ev2_14⟩ : ∃ z : Int, z = w32 (v2_7 - r_12) := ⟨_, rfl⟩
          replace h := h v2_14 ev2_14
          rw [← ev2_14]
          refine Ev_istore_n dX1_peel_84 (by decide) rfl ?_
          refine Ev_aload_n dX1_peel_85 1 rfl ?_
          refine Ev_dup dX1_peel_86 (show ¬ (2 : Nat) = 1 by decide) ?_
          refine Ev_geti 60 dX1_peel_87 f_RX1_46 rfl sh_60 ?_
          refine Ev_iconst (v := 1) dX1_peel_90 rfl ⟨by decide, by decide⟩ ?_
          refine Ev_iadd dX1_peel_91 ?_
          obtain ⟨s_15, es_15⟩ : ∃ z : Sg, z = (up s_13 60 0 (w32 ((s_13 60 0) + 1))) := ⟨_, rfl⟩
          replace h := h s_15 es_15
          refine Ev_puti 60 dX1_peel_92 fp_RX1_46 rfl sh_60 ?_
          rw [← es_15]
          obtain ⟨v3_16, ev3_16⟩ : ∃ z : Int, z = w32 (v3_8 + 1) := ⟨_, rfl⟩
          replace h := h v3_16 ev3_16
          refine Ev_iinc (v := v3_16) dX1_peel_95 2 rfl ev3_16.symm (by decide) rfl ?_
          refine Ev_goto (tgt := 65) dX1_peel_98 (by decide) ?_
          refine Ev_sub [2, 1, 0] rfl ?_
          exact hagain_10 _ _ _ h
  · replace h := h.2 hc
    refine Ev_aload_n dX1_peel_15 0 rfl ?_
    refine Ev_aload_n dX1_peel_16 1 rfl ?_
    refine Ev_getr 1 (2) dX1_peel_17 f_RX1_30 rfl sh_1 rfl ?_
    refine Ev_iload_n dX1_peel_20 2 rfl ?_
    obtain ⟨hb_17, h⟩ := h
    refine Ev_iald (2) dX1_peel_21 rfl sh_2 hb_17 ?_
    refine Ev_aload_n dX1_peel_22 1 rfl ?_
    refine Ev_getr 1 (3) dX1_peel_23 f_RX1_33 rfl sh_1 rfl ?_
    refine Ev_iload_n dX1_peel_26 2 rfl ?_
    obtain ⟨hb_18, h⟩ := h
    refine Ev_iald (3) dX1_peel_27 rfl sh_3 hb_18 ?_
    refine Ev_invV (d' := 1) [(0, s_3 2 v2_2.toNat), (0, s_3 3 v2_2.toNat)] 60 dX1_peel_28 M_X1_add q_545 (by decide) rfl rfl sh_60 rfl (Nat.le_of_ble_eq_true rfl) (k_X1_add h) ?_
    rintro _ s_19 ⟨rfl, h⟩
    refine Ev_aload_n dX1_peel_31 0 rfl ?_
    refine Ev_aload_n dX1_peel_32 1 rfl ?_
    refine Ev_getr 1 (4) dX1_peel_33 f_RX1_40 rfl sh_1 rfl ?_
    refine Ev_iload_n dX1_peel_36 2 rfl ?_
    obtain ⟨hb_20, h⟩ := h
    refine Ev_iald (4) dX1_peel_37 rfl sh_4 hb_20 ?_
    refine Ev_aload_n dX1_peel_38 1 rfl ?_
    refine Ev_getr 1 (5) dX1_peel_39 f_RX1_43 rfl sh_1 rfl ?_
    refine Ev_iload_n dX1_peel_42 2 rfl ?_
    obtain ⟨hb_21, h⟩ := h
    refine Ev_iald (5) dX1_peel_43 rfl sh_5 hb_21 ?_
    refine Ev_invV (d' := 1) [(0, s_19 4 v2_2.toNat), (0, s_19 5 v2_2.toNat)] 60 dX1_peel_44 M_X1_add q_545 (by decide) rfl rfl sh_60 rfl (Nat.le_of_ble_eq_true rfl) (k_X1_add h) ?_
    rintro _ s_22 ⟨rfl, h⟩
    obtain ⟨v2_23, ev2_23⟩ : ∃ z : Int, z = w32 (v2_2 + 1) := ⟨_, rfl⟩
    replace h := h v2_23 ev2_23
    refine Ev_iinc (v := v2_23) dX1_peel_47 2 rfl ev2_23.symm (by decide) rfl ?_
    refine Ev_goto (tgt := 7) dX1_peel_50 (by decide) ?_
    refine Ev_sub [1, 2, 0] rfl ?_
    exact hagain_4 _ _ h
theorem k_X2_isFull_1 {s : Sg} {post : Int → Prop} (h : w_X2_isFull s 1 post) : EvM mX2_isFull 0 [(2, 1)] s (poI 0 s post) := by
  refine EvM_of rfl (by decide +kernel) (Nat.le_of_ble_eq_true rfl) ?_
  unfold w_X2_isFull at h
  show Ev mX2_isFull 0 0 [(0, (2, 1))] [] s (poI 0 s post)
  refine Ev_aload_n dX2_isFull_0 0 rfl ?_
  refine Ev_geti 1 dX2_isFull_1 f_RX2_24 rfl sh_1 ?_
  refine Ev_bipush (v := 10) dX2_isFull_4 (by decide +kernel) ?_
  refine jc_1 (P := fun (t_1 : Int) => Ev mX2_isFull 0 14 [] [(0, t_1)] s (poI 0 s post)) h ?_ ?_
  · intro t_1 h
    obtain ⟨hz, h⟩ := h
    exact Ev_ret dX2_isFull_14 hz (poI_mk h)
  · intro K_2 hK_2 h
    refine Ev_icmp_lt (tgt := 13) dX2_isFull_6 (by decide) (fun hc => ?_) (fun hc => ?_)
    · replace h := h.1 hc
      refine Ev_iconst (v := 0) dX2_isFull_13 rfl ⟨by decide, by decide⟩ ?_
      refine Ev_sub [] rfl ?_
      exact hK_2 _ h
    · replace h := h.2 hc
      refine Ev_iconst (v := 1) dX2_isFull_9 rfl ⟨by decide, by decide⟩ ?_
      refine Ev_goto (tgt := 14) dX2_isFull_10 (by decide) ?_
      refine Ev_sub [] rfl ?_
      exact hK_2 _ h
theorem k_X2_isFull_11 {s : Sg} {post : Int → Prop} (h : w_X2_isFull s 11 post) : EvM mX2_isFull 0 [(2, 11)] s (poI 0 s post) := by
  refine EvM_of rfl (by decide +kernel) (Nat.le_of_ble_eq_true rfl) ?_
  unfold w_X2_isFull at h
  show Ev mX2_isFull 0 0 [(0, (2, 11))] [] s (poI 0 s post)
  refine Ev_aload_n dX2_isFull_0 0 rfl ?_
  refine Ev_geti 11 dX2_isFull_1 f_RX2_24 rfl sh_11 ?_
  refine Ev_bipush (v := 10) dX2_isFull_4 (by decide +kernel) ?_
  refine jc_1 (P := fun (t_1 : Int) => Ev mX2_isFull 0 14 [] [(0, t_1)] s (poI 0 s post)) h ?_ ?_
  · intro t_1 h
    obtain ⟨hz, h⟩ := h
    exact Ev_ret dX2_isFull_14 hz (poI_mk h)
  · intro K_2 hK_2 h
    refine Ev_icmp_lt (tgt := 13) dX2_isFull_6 (by decide) (fun hc => ?_) (fun hc => ?_)
    · replace h := h.1 hc
      refine Ev_iconst (v := 0) dX2_isFull_13 rfl ⟨by decide, by decide⟩ ?_
      refine Ev_sub [] rfl ?_
      exact hK_2 _ h
    · replace h := h.2 hc
      refine Ev_iconst (v := 1) dX2_isFull_9 rfl ⟨by decide, by decide⟩ ?_
      refine Ev_goto (tgt := 14) dX2_isFull_10 (by decide) ?_
      refine Ev_sub [] rfl ?_
      exact hK_2 _ h
theorem k_X2_has_1 {s : Sg} {v1 : Int} {post : Int → Prop} (h : w_X2_has s 1 v1 post) : EvM mX2_has 0 [(2, 1), (0, v1)] s (poI 0 s post) := by
  refine EvM_of rfl (by decide +kernel) (Nat.le_of_ble_eq_true rfl) ?_
  unfold w_X2_has at h
  show Ev mX2_has 0 0 [(0, (2, 1)), (1, (0, v1))] [] s (poI 0 s post)
  refine Ev_iload_n dX2_has_0 1 rfl ?_
  refine jc_1 (P := fun (t_1 : Int) => Ev mX2_has 0 17 [] [(0, t_1)] s (poI 0 s post)) h ?_ ?_
  · intro t_1 h
    obtain ⟨hz, h⟩ := h
    exact Ev_ret dX2_has_17 hz (poI_mk h)
  · intro K_2 hK_2 h
    refine jc_0 (P := Ev mX2_has 0 16 [] [] s (poI 0 s post)) h ?_ ?_
    · intro  h
      refine Ev_iconst (v := 0) dX2_has_16 rfl ⟨by decide, by decide⟩ ?_
      exact hK_2 _ h
    · intro K_3 hK_3 h
      refine Ev_if_lt (tgt := 16) dX2_has_1 (by decide) (fun hc => ?_) (fun hc => ?_)
      · replace h := h.1 hc
        refine Ev_sub [] rfl ?_
        exact hK_3 h
      · replace h := h.2 hc
        refine Ev_iload_n dX2_has_4 1 rfl ?_
        refine Ev_aload_n dX2_has_5 0 rfl ?_
        refine Ev_geti 1 dX2_has_6 f_RX2_24 rfl sh_1 ?_
        refine Ev_icmp_ge (tgt := 16) dX2_has_9 (by decide) (fun hc => ?_) (fun hc => ?_)
        · replace h := h.1 hc
          refine Ev_sub [] rfl ?_
          exact hK_3 h
        · replace h := h.2 hc
          refine Ev_iconst (v := 1) dX2_has_12 rfl ⟨by decide, by decide⟩ ?_
          refine Ev_goto (tgt := 17) dX2_has_13 (by decide) ?_
          refine Ev_sub [] rfl ?_
          exact hK_2 _ h
theorem k_X2_has_11 {s : Sg} {v1 : Int} {post : Int → Prop} (h : w_X2_has s 11 v1 post) : EvM mX2_has 0 [(2, 11), (0, v1)] s (poI 0 s post) := by
  refine EvM_of rfl (by decide +kernel) (Nat.le_of_ble_eq_true rfl) ?_
  unfold w_X2_has at h
  show Ev mX2_has 0 0 [(0, (2, 11)), (1, (0, v1))] [] s (poI 0 s post)
  refine Ev_iload_n dX2_has_0 1 rfl ?_
  refine jc_1 (P := fun (t_1 : Int) => Ev mX2_has 0 17 [] [(0, t_1)] s (poI 0 s post)) h ?_ ?_
  · intro t_1 h
    obtain ⟨hz, h⟩ := h
    exact Ev_ret dX2_has_17 hz (poI_mk h)
  · intro K_2 hK_2 h
    refine jc_0 (P := Ev mX2_has 0 16 [] [] s (poI 0 s post)) h ?_ ?_
    · intro  h
      refine Ev_iconst (v := 0) dX2_has_16 rfl ⟨by decide, by decide⟩ ?_
      exact hK_2 _ h
    · intro K_3 hK_3 h
      refine Ev_if_lt (tgt := 16) dX2_has_1 (by decide) (fun hc => ?_) (fun hc => ?_)
      · replace h := h.1 hc
        refine Ev_sub [] rfl ?_
        exact hK_3 h
      · replace h := h.2 hc
        refine Ev_iload_n dX2_has_4 1 rfl ?_
        refine Ev_aload_n dX2_has_5 0 rfl ?_
        refine Ev_geti 11 dX2_has_6 f_RX2_24 rfl sh_11 ?_
        refine Ev_icmp_ge (tgt := 16) dX2_has_9 (by decide) (fun hc => ?_) (fun hc => ?_)
        · replace h := h.1 hc
          refine Ev_sub [] rfl ?_
          exact hK_3 h
        · replace h := h.2 hc
          refine Ev_iconst (v := 1) dX2_has_12 rfl ⟨by decide, by decide⟩ ?_
          refine Ev_goto (tgt := 17) dX2_has_13 (by decide) ?_
          refine Ev_sub [] rfl ?_
          exact hK_2 _ h
theorem k_X2_lay_1 {s : Sg} {v1 v2 v3 v4 v5 : Int} {post : Sg → Prop} (h : w_X2_lay s 1 v1 v2 v3 v4 v5 post) : EvM mX2_lay 1 [(2, 1), (0, v1), (0, v2), (0, v3), (0, v4), (0, v5)] s (poV post) := by
  refine EvM_of rfl (by decide +kernel) (Nat.le_of_ble_eq_true rfl) ?_
  unfold w_X2_lay at h
  show Ev mX2_lay 1 0 [(0, (2, 1)), (1, (0, v1)), (2, (0, v2)), (3, (0, v3)), (4, (0, v4)), (5, (0, v5))] [] s (poV post)
  refine Ev_aload_n dX2_lay_0 0 rfl ?_
  refine Ev_iload_n dX2_lay_1 1 rfl ?_
  refine Ev_invV (d' := 0) [(0, v1)] 1 dX2_lay_2 M_X2_has q_417 (by decide) rfl rfl sh_1 rfl (Nat.le_of_ble_eq_true rfl) (k_X2_has_1 h) ?_
  rintro _ _ ⟨rfl, r_1, rfl, h⟩
  refine Ev_if_ne (tgt := 9) dX2_lay_5 (by decide) (fun hc => ?_) (fun hc => ?_)
  · replace h := h.1 hc
    refine Ev_iload_n dX2_lay_9 2 rfl ?_
    refine Ev_iload dX2_lay_10 4 rfl ?_
    refine jc_1 (P := fun (t_2 : Int) => Ev mX2_lay 1 32 [(0, (2, 1)), (1, (0, v1)), (2, (0, v2)), (3, (0, v3)), (4, (0, v4)), (5, (0, v5))] [(0, t_2)] s (poV post)) h ?_ ?_
    · intro t_2 h
      refine Ev_istore dX2_lay_32 (by decide) rfl ?_
      refine Ev_aload_n dX2_lay_34 1 rfl ?_
      refine Ev_getr 1 (2) dX2_lay_35 f_RX2_9 rfl sh_1 rfl ?_
      refine Ev_iload_n dX2_lay_38 2 rfl ?_
      refine Ev_iload dX2_lay_39 0 rfl ?_
      refine jc_1 (P := fun (t_4 : Int) => Ev mX2_lay 1 50 [(0, (2, 1)), (1, (0, v1)), (2, (0, v2)), (3, (0, v3)), (4, (0, v4)), (5, (0, v5)), (6, (0, t_2))] [(0, t_4), (0, v1), (2, 2)] s (poV post)) h ?_ ?_
      · intro t_4 h
        obtain ⟨hb_6, h⟩ := h
        obtain ⟨s_7, es_7⟩ : ∃ z : Sg, z = (up s 2 (v1.toNat) t_4) := ⟨_, rfl⟩
        replace h := h s_7 es_7
        refine Ev_iast (2) dX2_lay_50 rfl sh_2 hb_6 ?_
        rw [← es_7]
        refine Ev_aload_n dX2_lay_51 0 rfl ?_
        refine Ev_getr 1 (3) dX2_lay_52 f_RX2_15 rfl sh_1 rfl ?_
        refine Ev_iload_n dX2_lay_55 1 rfl ?_
        refine Ev_iload dX2_lay_56 6 rfl ?_
        refine jc_1 (P := fun (t_8 : Int) => Ev mX2_lay 1 67 [(0, (2, 1)), (1, (0, v1)), (2, (0, v2)), (3, (0, v3)), (4, (0, v4)), (5, (0, v5)), (6, (0, t_2))] [(0, t_8), (0, v1), (2, 3)] s_7 (poV post)) h ?_ ?_
        · intro t_8 h
          obtain ⟨hb_10, h⟩ := h
          obtain ⟨s_11, es_11⟩ : ∃ z : Sg, z = (up s_7 3 (v1.toNat) t_8) := ⟨_, rfl⟩
          replace h := h s_11 es_11
          refine Ev_iast (3) dX2_lay_67 rfl sh_3 hb_10 ?_
          rw [← es_11]
          refine Ev_aload_n dX2_lay_68 0 rfl ?_
          refine Ev_getr 1 (4) dX2_lay_69 f_RX2_18 rfl sh_1 rfl ?_
          refine Ev_iload_n dX2_lay_72 1 rfl ?_
          refine Ev_iload dX2_lay_73 6 rfl ?_
          refine jc_1 (P := fun (t_12 : Int) => Ev mX2_lay 1 84 [(0, (2, 1)), (1, (0, v1)), (3, (0, v3)), (5, (0, v5)), (6, (0, t_2))] [(0, t_12), (0, v1), (2, 4)] s_11 (poV post)) h ?_ ?_
          · intro t_12 h
            obtain ⟨hb_14, h⟩ := h
            obtain ⟨s_15, es_15⟩ : ∃ z : Sg, z = (up s_11 4 (v1.toNat) t_12) := ⟨_, rfl⟩
            replace h := h s_15 es_15
            refine Ev_iast (4) dX2_lay_84 rfl sh_4 hb_14 ?_
            rw [← es_15]
            refine Ev_aload_n dX2_lay_85 0 rfl ?_
            refine Ev_getr 1 (5) dX2_lay_86 f_RX2_21 rfl sh_1 rfl ?_
            refine Ev_iload_n dX2_lay_89 1 rfl ?_
            refine Ev_iload dX2_lay_90 4 rfl ?_
            refine jc_1 (P := fun (t_16 : Int) => Ev mX2_lay 1 101 [] [(0, t_16), (0, v1), (2, 5)] s_15 (poV post)) h ?_ ?_
            · intro t_16 h
              obtain ⟨hb_18, h⟩ := h
              obtain ⟨s_19, es_19⟩ : ∃ z : Sg, z = (up s_15 5 (v1.toNat) t_16) := ⟨_, rfl⟩
              replace h := h s_19 es_19
              refine Ev_iast (5) dX2_lay_101 rfl sh_5 hb_18 ?_
              rw [← es_19]
              exact Ev_retv dX2_lay_102 rfl (poV_mk h)
            · intro K_17 hK_17 h
              refine Ev_if_eq (tgt := 100) dX2_lay_92 (by decide) (fun hc => ?_) (fun hc => ?_)
              · replace h := h.1 hc
                refine Ev_iload_n dX2_lay_100 2 rfl ?_
                refine Ev_sub [] rfl ?_
                exact hK_17 _ h
              · replace h := h.2 hc
                refine Ev_iload dX2_lay_95 3 rfl ?_
                refine Ev_goto (tgt := 101) dX2_lay_97 (by decide) ?_
                refine Ev_sub [] rfl ?_
                exact hK_17 _ h
          · intro K_13 hK_13 h
            refine Ev_if_eq (tgt := 83) dX2_lay_75 (by decide) (fun hc => ?_) (fun hc => ?_)
            · replace h := h.1 hc
              refine Ev_iload_n dX2_lay_83 2 rfl ?_
              refine Ev_sub [0, 1, 3, 5, 6] rfl ?_
              exact hK_13 _ h
            · replace h := h.2 hc
              refine Ev_iload dX2_lay_78 4 rfl ?_
              refine Ev_goto (tgt := 84) dX2_lay_80 (by decide) ?_
              refine Ev_sub [0, 1, 3, 5, 6] rfl ?_
              exact hK_13 _ h
        · intro K_9 hK_9 h
          refine Ev_if_eq (tgt := 65) dX2_lay_58 (by decide) (fun hc => ?_) (fun hc => ?_)
          · replace h := h.1 hc
            refine Ev_iload dX2_lay_65 5 rfl ?_
            exact hK_9 _ h
          · replace h := h.2 hc
            refine Ev_iload_n dX2_lay_61 3 rfl ?_
            refine Ev_goto (tgt := 67) dX2_lay_62 (by decide) ?_
            exact hK_9 _ h
      · intro K_5 hK_5 h
        refine Ev_if_eq (tgt := 48) dX2_lay_41 (by decide) (fun hc => ?_) (fun hc => ?_)
        · replace h := h.1 hc
          refine Ev_iload dX2_lay_48 5 rfl ?_
          refine Ev_sub [1, 2, 3, 4, 5, 6, 0] rfl ?_
          exact hK_5 _ h
        · replace h := h.2 hc
          refine Ev_iload_n dX2_lay_44 3 rfl ?_
          refine Ev_goto (tgt := 50) dX2_lay_45 (by decide) ?_
          refine Ev_sub [1, 2, 3, 4, 5, 6, 0] rfl ?_
          exact hK_5 _ h
    · intro K_3 hK_3 h
      refine jc_0 (P := Ev mX2_lay 1 27 [(0, (2, 1)), (1, (0, v1)), (2, (0, v2)), (3, (0, v3)), (4, (0, v4)), (5, (0, v5))] [] s (poV post)) h ?_ ?_
      · intro  h
        refine Ev_iconst (v := 1) dX2_lay_27 rfl ⟨by decide, by decide⟩ ?_
        refine Ev_goto (tgt := 32) dX2_lay_28 (by decide) ?_
        exact hK_3 _ h
      · intro K_20 hK_20 h
        refine Ev_icmp_lt (tgt := 27) dX2_lay_12 (by decide) (fun hc => ?_) (fun hc => ?_)
        · replace h := h.1 hc
          exact hK_20 h
        · replace h := h.2 hc
          refine Ev_iload_n dX2_lay_15 2 rfl ?_
          refine Ev_iload dX2_lay_16 4 rfl ?_
          refine jc_0 (P := Ev mX2_lay 1 31 [(0, (2, 1)), (1, (0, v1)), (2, (0, v2)), (3, (0, v3)), (4, (0, v4)), (5, (0, v5))] [] s (poV post)) h ?_ ?_
          · intro  h
            refine Ev_iconst (v := 0) dX2_lay_31 rfl ⟨by decide, by decide⟩ ?_
            exact hK_3 _ h
          · intro K_21 hK_21 h
            refine Ev_icmp_ne (tgt := 31) dX2_lay_18 (by decide) (fun hc => ?_) (fun hc => ?_)
            · replace h := h.1 hc
              exact hK_21 h
            · replace h := h.2 hc
              refine Ev_iload_n dX2_lay_21 3 rfl ?_
              refine Ev_iload dX2_lay_22 5 rfl ?_
              refine Ev_icmp_ge (tgt := 31) dX2_lay_24 (by decide) (fun hc => ?_) (fun hc => ?_)
              · replace h := h.1 hc
                exact hK_21 h
              · replace h := h.2 hc
                exact hK_20 h
  · replace h := h.2 hc
    exact Ev_retv dX2_lay_8 rfl (poV_mk h)
theorem k_X2_lay_11 {s : Sg} {v1 v2 v3 v4 v5 : Int} {post : Sg → Prop} (h : w_X2_lay s 11 v1 v2 v3 v4 v5 post) : EvM mX2_lay 1 [(2, 11), (0, v1), (0, v2), (0, v3), (0, v4), (0, v5)] s (poV post) := by
  refine EvM_of rfl (by decide +kernel) (Nat.le_of_ble_eq_true rfl) ?_
  unfold w_X2_lay at h
  show Ev mX2_lay 1 0 [(0, (2, 11)), (1, (0, v1)), (2, (0, v2)), (3, (0, v3)), (4, (0, v4)), (5, (0, v5))] [] s (poV post)
  refine Ev_aload_n dX2_lay_0 0 rfl ?_
  refine Ev_iload_n dX2_lay_1 1 rfl ?_
  refine Ev_invV (d' := 0) [(0, v1)] 11 dX2_lay_2 M_X2_has q_417 (by decide) rfl rfl sh_11 rfl (Nat.le_of_ble_eq_true rfl) (k_X2_has_11 h) ?_
  rintro _ _ ⟨rfl, r_1, rfl, h⟩
  refine Ev_if_ne (tgt := 9) dX2_lay_5 (by decide) (fun hc => ?_) (fun hc => ?_)
  · replace h := h.1 hc
    refine Ev_iload_n dX2_lay_9 2 rfl ?_
    refine Ev_iload dX2_lay_10 4 rfl ?_
    refine jc_1 (P := fun (t_2 : Int) => Ev mX2_lay 1 32 [(0, (2, 11)), (1, (0, v1)), (2, (0, v2)), (3, (0, v3)), (4, (0, v4)), (5, (0, v5))] [(0, t_2)] s (poV post)) h ?_ ?_
    · intro t_2 h
      refine Ev_istore dX2_lay_32 (by decide) rfl ?_
      refine Ev_aload_n dX2_lay_34 1 rfl ?_
      refine Ev_getr 11 (12) dX2_lay_35 f_RX2_9 rfl sh_11 rfl ?_
      refine Ev_iload_n dX2_lay_38 2 rfl ?_
      refine Ev_iload dX2_lay_39 0 rfl ?_
      refine jc_1 (P := fun (t_4 : Int) => Ev mX2_lay 1 50 [(0, (2, 11)), (1, (0, v1)), (2, (0, v2)), (3, (0, v3)), (4, (0, v4)), (5, (0, v5)), (6, (0, t_2))] [(0, t_4), (0, v1), (2, 12)] s (poV post)) h ?_ ?_
      · intro t_4 h
        obtain ⟨hb_6, h⟩ := h
        obtain ⟨s_7, es_7⟩ : ∃ z : Sg, z = (up s 12 (v1.toNat) t_4) := ⟨_, rfl⟩
        replace h := h s_7 es_7
        refine Ev_iast (12) dX2_lay_50 rfl sh_12 hb_6 ?_
        rw [← es_7]
        refine Ev_aload_n dX2_lay_51 0 rfl ?_
        refine Ev_getr 11 (13) dX2_lay_52 f_RX2_15 rfl sh_11 rfl ?_
        refine Ev_iload_n dX2_lay_55 1 rfl ?_
        refine Ev_iload dX2_lay_56 6 rfl ?_
        refine jc_1 (P := fun (t_8 : Int) => Ev mX2_lay 1 67 [(0, (2, 11)), (1, (0, v1)), (2, (0, v2)), (3, (0, v3)), (4, (0, v4)), (5, (0, v5)), (6, (0, t_2))] [(0, t_8), (0, v1), (2, 13)] s_7 (poV post)) h ?_ ?_
        · intro t_8 h
          obtain ⟨hb_10, h⟩ := h
          obtain ⟨s_11, es_11⟩ : ∃ z : Sg, z = (up s_7 13 (v1.toNat) t_8) := ⟨_, rfl⟩
          replace h := h s_11 es_11
          refine Ev_iast (13) dX2_lay_67 rfl sh_13 hb_10 ?_
          rw [← es_11]
          refine Ev_aload_n dX2_lay_68 0 rfl ?_
          refine Ev_getr 11 (14) dX2_lay_69 f_RX2_18 rfl sh_11 rfl ?_
          refine Ev_iload_n dX2_lay_72 1 rfl ?_
          refine Ev_iload dX2_lay_73 6 rfl ?_
          refine jc_1 (P := fun (t_12 : Int) => Ev mX2_lay 1 84 [(0, (2, 11)), (1, (0, v1)), (3, (0, v3)), (5, (0, v5)), (6, (0, t_2))] [(0, t_12), (0, v1), (2, 14)] s_11 (poV post)) h ?_ ?_
          · intro t_12 h
            obtain ⟨hb_14, h⟩ := h
            obtain ⟨s_15, es_15⟩ : ∃ z : Sg, z = (up s_11 14 (v1.toNat) t_12) := ⟨_, rfl⟩
            replace h := h s_15 es_15
            refine Ev_iast (14) dX2_lay_84 rfl sh_14 hb_14 ?_
            rw [← es_15]
            refine Ev_aload_n dX2_lay_85 0 rfl ?_
            refine Ev_getr 11 (15) dX2_lay_86 f_RX2_21 rfl sh_11 rfl ?_
            refine Ev_iload_n dX2_lay_89 1 rfl ?_
            refine Ev_iload dX2_lay_90 4 rfl ?_
            refine jc_1 (P := fun (t_16 : Int) => Ev mX2_lay 1 101 [] [(0, t_16), (0, v1), (2, 15)] s_15 (poV post)) h ?_ ?_
            · intro t_16 h
              obtain ⟨hb_18, h⟩ := h
              obtain ⟨s_19, es_19⟩ : ∃ z : Sg, z = (up s_15 15 (v1.toNat) t_16) := ⟨_, rfl⟩
              replace h := h s_19 es_19
              refine Ev_iast (15) dX2_lay_101 rfl sh_15 hb_18 ?_
              rw [← es_19]
              exact Ev_retv dX2_lay_102 rfl (poV_mk h)
            · intro K_17 hK_17 h
              refine Ev_if_eq (tgt := 100) dX2_lay_92 (by decide) (fun hc => ?_) (fun hc => ?_)
              · replace h := h.1 hc
                refine Ev_iload_n dX2_lay_100 2 rfl ?_
                refine Ev_sub [] rfl ?_
                exact hK_17 _ h
              · replace h := h.2 hc
                refine Ev_iload dX2_lay_95 3 rfl ?_
                refine Ev_goto (tgt := 101) dX2_lay_97 (by decide) ?_
                refine Ev_sub [] rfl ?_
                exact hK_17 _ h
          · intro K_13 hK_13 h
            refine Ev_if_eq (tgt := 83) dX2_lay_75 (by decide) (fun hc => ?_) (fun hc => ?_)
            · replace h := h.1 hc
              refine Ev_iload_n dX2_lay_83 2 rfl ?_
              refine Ev_sub [0, 1, 3, 5, 6] rfl ?_
              exact hK_13 _ h
            · replace h := h.2 hc
              refine Ev_iload dX2_lay_78 4 rfl ?_
              refine Ev_goto (tgt := 84) dX2_lay_80 (by decide) ?_
              refine Ev_sub [0, 1, 3, 5, 6] rfl ?_
              exact hK_13 _ h
        · intro K_9 hK_9 h
          refine Ev_if_eq (tgt := 65) dX2_lay_58 (by decide) (fun hc => ?_) (fun hc => ?_)
          · replace h := h.1 hc
            refine Ev_iload dX2_lay_65 5 rfl ?_
            exact hK_9 _ h
          · replace h := h.2 hc
            refine Ev_iload_n dX2_lay_61 3 rfl ?_
            refine Ev_goto (tgt := 67) dX2_lay_62 (by decide) ?_
            exact hK_9 _ h
      · intro K_5 hK_5 h
        refine Ev_if_eq (tgt := 48) dX2_lay_41 (by decide) (fun hc => ?_) (fun hc => ?_)
        · replace h := h.1 hc
          refine Ev_iload dX2_lay_48 5 rfl ?_
          refine Ev_sub [1, 2, 3, 4, 5, 6, 0] rfl ?_
          exact hK_5 _ h
        · replace h := h.2 hc
          refine Ev_iload_n dX2_lay_44 3 rfl ?_
          refine Ev_goto (tgt := 50) dX2_lay_45 (by decide) ?_
          refine Ev_sub [1, 2, 3, 4, 5, 6, 0] rfl ?_
          exact hK_5 _ h
    · intro K_3 hK_3 h
      refine jc_0 (P := Ev mX2_lay 1 27 [(0, (2, 11)), (1, (0, v1)), (2, (0, v2)), (3, (0, v3)), (4, (0, v4)), (5, (0, v5))] [] s (poV post)) h ?_ ?_
      · intro  h
        refine Ev_iconst (v := 1) dX2_lay_27 rfl ⟨by decide, by decide⟩ ?_
        refine Ev_goto (tgt := 32) dX2_lay_28 (by decide) ?_
        exact hK_3 _ h
      · intro K_20 hK_20 h
        refine Ev_icmp_lt (tgt := 27) dX2_lay_12 (by decide) (fun hc => ?_) (fun hc => ?_)
        · replace h := h.1 hc
          exact hK_20 h
        · replace h := h.2 hc
          refine Ev_iload_n dX2_lay_15 2 rfl ?_
          refine Ev_iload dX2_lay_16 4 rfl ?_
          refine jc_0 (P := Ev mX2_lay 1 31 [(0, (2, 11)), (1, (0, v1)), (2, (0, v2)), (3, (0, v3)), (4, (0, v4)), (5, (0, v5))] [] s (poV post)) h ?_ ?_
          · intro  h
            refine Ev_iconst (v := 0) dX2_lay_31 rfl ⟨by decide, by decide⟩ ?_
            exact hK_3 _ h
          · intro K_21 hK_21 h
            refine Ev_icmp_ne (tgt := 31) dX2_lay_18 (by decide) (fun hc => ?_) (fun hc => ?_)
            · replace h := h.1 hc
              exact hK_21 h
            · replace h := h.2 hc
              refine Ev_iload_n dX2_lay_21 3 rfl ?_
              refine Ev_iload dX2_lay_22 5 rfl ?_
              refine Ev_icmp_ge (tgt := 31) dX2_lay_24 (by decide) (fun hc => ?_) (fun hc => ?_)
              · replace h := h.1 hc
                exact hK_21 h
              · replace h := h.2 hc
                exact hK_20 h
  · replace h := h.2 hc
    exact Ev_retv dX2_lay_8 rfl (poV_mk h)
theorem k_X2_add_1 {s : Sg} {v1 v2 v3 v4 : Int} {post : Int → Sg → Prop} (h : w_X2_add s 1 v1 v2 v3 v4 post) : EvM mX2_add 2 [(2, 1), (0, v1), (0, v2), (0, v3), (0, v4)] s (poIs 0 post) := by
  refine EvM_of rfl (by decide +kernel) (Nat.le_of_ble_eq_true rfl) ?_
  unfold w_X2_add at h
  show Ev mX2_add 2 0 [(0, (2, 1)), (1, (0, v1)), (2, (0, v2)), (3, (0, v3)), (4, (0, v4))] [] s (poIs 0 post)
  refine Ev_aload_n dX2_add_0 0 rfl ?_
  refine Ev_invV (d' := 0) [] 1 dX2_add_1 M_X2_isFull q_412 (by decide) rfl rfl sh_1 rfl (Nat.le_of_ble_eq_true rfl) (k_X2_isFull_1 h) ?_
  rintro _ _ ⟨rfl, r_1, rfl, h⟩
  refine Ev_if_eq (tgt := 10) dX2_add_4 (by decide) (fun hc => ?_) (fun hc => ?_)
  · replace h := h.1 hc
    refine Ev_aload_n dX2_add_10 0 rfl ?_
    refine Ev_dup dX2_add_11 (show ¬ (2 : Nat) = 1 by decide) ?_
    refine Ev_geti 1 dX2_add_12 f_RX2_24 rfl sh_1 ?_
    refine Ev_iconst (v := 1) dX2_add_15 rfl ⟨by decide, by decide⟩ ?_
    refine Ev_iadd dX2_add_16 ?_
    obtain ⟨s_2, es_2⟩ : ∃ z : Sg, z = (up s 1 0 (w32 ((s 1 0) + 1))) := ⟨_, rfl⟩
    replace h := h s_2 es_2
    refine Ev_puti 1 dX2_add_17 fp_RX2_24 rfl sh_1 ?_
    rw [← es_2]
    refine Ev_aload_n dX2_add_20 0 rfl ?_
    refine Ev_aload_n dX2_add_21 0 rfl ?_
    refine Ev_geti 1 dX2_add_22 f_RX2_24 rfl sh_1 ?_
    refine Ev_iconst (v := 1) dX2_add_25 rfl ⟨by decide, by decide⟩ ?_
    refine Ev_isub dX2_add_26 ?_
    refine Ev_iload_n dX2_add_27 1 rfl ?_
    refine Ev_iload_n dX2_add_28 2 rfl ?_
    refine Ev_iload_n dX2_add_29 3 rfl ?_
    refine Ev_iload dX2_add_30 4 rfl ?_
    refine Ev_invV (d' := 1) [(0, w32 ((s_2 1 0) - 1)), (0, v1), (0, v2), (0, v3), (0, v4)] 1 dX2_add_32 M_X2_lay q_413 (by decide) rfl rfl sh_1 rfl (Nat.le_of_ble_eq_true rfl) (k_X2_lay_1 h) ?_
    rintro _ s_3 ⟨rfl, h⟩
    refine Ev_aload_n dX2_add_35 0 rfl ?_
    refine Ev_geti 1 dX2_add_36 f_RX2_24 rfl sh_1 ?_
    refine Ev_iconst (v := 1) dX2_add_39 rfl ⟨by decide, by decide⟩ ?_
    refine Ev_isub dX2_add_40 ?_
    exact Ev_ret dX2_add_41 trivial (poIs_mk h)
  · replace h := h.2 hc
    refine Ev_bipush (v := -4) dX2_add_7 (by decide +kernel) ?_
    exact Ev_ret dX2_add_9 trivial (poIs_mk h)
theorem k_X2_add_11 {s : Sg} {v1 v2 v3 v4 : Int} {post : Int → Sg → Prop} (h : w_X2_add s 11 v1 v2 v3 v4 post) : EvM mX2_add 2 [(2, 11), (0, v1), (0, v2), (0, v3), (0, v4)] s (poIs 0 post) := by
  refine EvM_of rfl (by decide +kernel) (Nat.le_of_ble_eq_true rfl) ?_
  unfold w_X2_add at h
  show Ev mX2_add 2 0 [(0, (2, 11)), (1, (0, v1)), (2, (0, v2)), (3, (0, v3)), (4, (0, v4))] [] s (poIs 0 post)
  refine Ev_aload_n dX2_add_0 0 rfl ?_
  refine Ev_invV (d' := 0) [] 11 dX2_add_1 M_X2_isFull q_412 (by decide) rfl rfl sh_11 rfl (Nat.le_of_ble_eq_true rfl) (k_X2_isFull_11 h) ?_
  rintro _ _ ⟨rfl, r_1, rfl, h⟩
  refine Ev_if_eq (tgt := 10) dX2_add_4 (by decide) (fun hc => ?_) (fun hc => ?_)
  · replace h := h.1 hc
    refine Ev_aload_n dX2_add_10 0 rfl ?_
    refine Ev_dup dX2_add_11 (show ¬ (2 : Nat) = 1 by decide) ?_
    refine Ev_geti 11 dX2_add_12 f_RX2_24 rfl sh_11 ?_
    refine Ev_iconst (v := 1) dX2_add_15 rfl ⟨by decide, by decide⟩ ?_
    refine Ev_iadd dX2_add_16 ?_
    obtain ⟨s_2, es_2⟩ : ∃ z : Sg, z = (up s 11 0 (w32 ((s 11 0) + 1))) := ⟨_, rfl⟩
    replace h := h s_2 es_2
    refine Ev_puti 11 dX2_add_17 fp_RX2_24 rfl sh_11 ?_
    rw [← es_2]
    refine Ev_aload_n dX2_add_20 0 rfl ?_
    refine Ev_aload_n dX2_add_21 0 rfl ?_
    refine Ev_geti 11 dX2_add_22 f_RX2_24 rfl sh_11 ?_
    refine Ev_iconst (v := 1) dX2_add_25 rfl ⟨by decide, by decide⟩ ?_
    refine Ev_isub dX2_add_26 ?_
    refine Ev_iload_n dX2_add_27 1 rfl ?_
    refine Ev_iload_n dX2_add_28 2 rfl ?_
    refine Ev_iload_n dX2_add_29 3 rfl ?_
    refine Ev_iload dX2_add_30 4 rfl ?_
    refine Ev_invV (d' := 1) [(0, w32 ((s_2 11 0) - 1)), (0, v1), (0, v2), (0, v3), (0, v4)] 11 dX2_add_32 M_X2_lay q_413 (by decide) rfl rfl sh_11 rfl (Nat.le_of_ble_eq_true rfl) (k_X2_lay_11 h) ?_
    rintro _ s_3 ⟨rfl, h⟩
    refine Ev_aload_n dX2_add_35 0 rfl ?_
    refine Ev_geti 11 dX2_add_36 f_RX2_24 rfl sh_11 ?_
    refine Ev_iconst (v := 1) dX2_add_39 rfl ⟨by decide, by decide⟩ ?_
    refine Ev_isub dX2_add_40 ?_
    exact Ev_ret dX2_add_41 trivial (poIs_mk h)
  · replace h := h.2 hc
    refine Ev_bipush (v := -4) dX2_add_7 (by decide +kernel) ?_
    exact Ev_ret dX2_add_9 trivial (poIs_mk h)
theorem k_X2_become_1_6 {s : Sg} {post : Sg → Prop} (h : w_X2_become s 1 6 post) : EvM mX2_become 0 [(2, 1), (2, 6)] s (poV post) := by
  refine EvM_of rfl (by decide +kernel) (Nat.le_of_ble_eq_true rfl) ?_
  unfold w_X2_become at h
  show Ev mX2_become 0 0 [(0, (2, 1)), (1, (2, 6))] [] s (poV post)
  refine Ev_aload_n dX2_become_0 0 rfl ?_
  refine Ev_aload_n dX2_become_1 1 rfl ?_
  refine Ev_geti 6 dX2_become_2 f_RX2_24 rfl sh_6 ?_
  obtain ⟨s_1, es_1⟩ : ∃ z : Sg, z = (up s 1 0 (s 6 0)) := ⟨_, rfl⟩
  replace h := h s_1 es_1
  refine Ev_puti 1 dX2_become_5 fp_RX2_24 rfl sh_1 ?_
  rw [← es_1]
  refine Ev_iconst (v := 0) dX2_become_8 rfl ⟨by decide, by decide⟩ ?_
  refine Ev_istore_n dX2_become_9 (by decide) rfl ?_
  refine Ev_sub [1, 2, 0] rfl ?_
  refine li_1s (P := fun (v2_2 : Int) (s_3 : Sg) => Ev mX2_become 0 10 [(0, (2, 1)), (1, (2, 6)), (2, (0, v2_2))] [] s_3 (poV post)) ?_ h
  intro again_4 v2_2 s_3 hagain_4 h
  refine Ev_iload_n dX2_become_10 2 rfl ?_
  refine Ev_aload_n dX2_become_11 0 rfl ?_
  refine Ev_geti 1 dX2_become_12 f_RX2_24 rfl sh_1 ?_
  refine Ev_icmp_ge (tgt := 72) dX2_become_15 (by decide) (fun hc => ?_) (fun hc => ?_)
  · replace h := h.1 hc
    exact Ev_retv dX2_become_72 rfl (poV_mk h)
  · replace h := h.2 hc
    refine Ev_aload_n dX2_become_18 0 rfl ?_
    refine Ev_getr 1 (2) dX2_become_19 f_RX2_9 rfl sh_1 rfl ?_
    refine Ev_iload_n dX2_become_22 2 rfl ?_
    refine Ev_aload_n dX2_become_23 1 rfl ?_
    refine Ev_getr 6 (7) dX2_become_24 f_RX2_9 rfl sh_6 rfl ?_
    refine Ev_iload_n dX2_become_27 2 rfl ?_
    obtain ⟨hb_5, h⟩ := h
    refine Ev_iald (7) dX2_become_28 rfl sh_7 hb_5 ?_
    obtain ⟨hb_6, h⟩ := h
    obtain ⟨s_7, es_7⟩ : ∃ z : Sg, z = (up s_3 2 (v2_2.toNat) (s_3 7 v2_2.toNat)) := ⟨_, rfl⟩
    replace h := h s_7 es_7
    refine Ev_iast (2) dX2_become_29 rfl sh_2 hb_6 ?_
    rw [← es_7]
    refine Ev_aload_n dX2_become_30 0 rfl ?_
    refine Ev_getr 1 (3) dX2_become_31 f_RX2_15 rfl sh_1 rfl ?_
    refine Ev_iload_n dX2_become_34 2 rfl ?_
    refine Ev_aload_n dX2_become_35 1 rfl ?_
    refine Ev_getr 6 (8) dX2_become_36 f_RX2_15 rfl sh_6 rfl ?_
    refine Ev_iload_n dX2_become_39 2 rfl ?_
    obtain ⟨hb_8, h⟩ := h
    refine Ev_iald (8) dX2_become_40 rfl sh_8 hb_8 ?_
    obtain ⟨hb_9, h⟩ := h
    obtain ⟨s_10, es_10⟩ : ∃ z : Sg, z = (up s_7 3 (v2_2.toNat) (s_7 8 v2_2.toNat)) := ⟨_, rfl⟩
    replace h := h s_10 es_10
    refine Ev_iast (3) dX2_become_41 rfl sh_3 hb_9 ?_
    rw [← es_10]
    refine Ev_aload_n dX2_become_42 0 rfl ?_
    refine Ev_getr 1 (4) dX2_become_43 f_RX2_18 rfl sh_1 rfl ?_
    refine Ev_iload_n dX2_become_46 2 rfl ?_
    refine Ev_aload_n dX2_become_47 1 rfl ?_
    refine Ev_getr 6 (9) dX2_become_48 f_RX2_18 rfl sh_6 rfl ?_
    refine Ev_iload_n dX2_become_51 2 rfl ?_
    obtain ⟨hb_11, h⟩ := h
    refine Ev_iald (9) dX2_become_52 rfl sh_9 hb_11 ?_
    obtain ⟨hb_12, h⟩ := h
    obtain ⟨s_13, es_13⟩ : ∃ z : Sg, z = (up s_10 4 (v2_2.toNat) (s_10 9 v2_2.toNat)) := ⟨_, rfl⟩
    replace h := h s_13 es_13
    refine Ev_iast (4) dX2_become_53 rfl sh_4 hb_12 ?_
    rw [← es_13]
    refine Ev_aload_n dX2_become_54 0 rfl ?_
    refine Ev_getr 1 (5) dX2_become_55 f_RX2_21 rfl sh_1 rfl ?_
    refine Ev_iload_n dX2_become_58 2 rfl ?_
    refine Ev_aload_n dX2_become_59 1 rfl ?_
    refine Ev_getr 6 (10) dX2_become_60 f_RX2_21 rfl sh_6 rfl ?_
    refine Ev_iload_n dX2_become_63 2 rfl ?_
    obtain ⟨hb_14, h⟩ := h
    refine Ev_iald (10) dX2_become_64 rfl sh_10 hb_14 ?_
    obtain ⟨hb_15, h⟩ := h
    obtain ⟨s_16, es_16⟩ : ∃ z : Sg, z = (up s_13 5 (v2_2.toNat) (s_13 10 v2_2.toNat)) := ⟨_, rfl⟩
    replace h := h s_16 es_16
    refine Ev_iast (5) dX2_become_65 rfl sh_5 hb_15 ?_
    rw [← es_16]
    obtain ⟨v2_17, ev2_17⟩ : ∃ z : Int, z = w32 (v2_2 + 1) := ⟨_, rfl⟩
    replace h := h v2_17 ev2_17
    refine Ev_iinc (v := v2_17) dX2_become_66 2 rfl ev2_17.symm (by decide) rfl ?_
    refine Ev_goto (tgt := 10) dX2_become_69 (by decide) ?_
    refine Ev_sub [1, 2, 0] rfl ?_
    exact hagain_4 _ _ h
theorem k_X2_become_6_1 {s : Sg} {post : Sg → Prop} (h : w_X2_become s 6 1 post) : EvM mX2_become 0 [(2, 6), (2, 1)] s (poV post) := by
  refine EvM_of rfl (by decide +kernel) (Nat.le_of_ble_eq_true rfl) ?_
  unfold w_X2_become at h
  show Ev mX2_become 0 0 [(0, (2, 6)), (1, (2, 1))] [] s (poV post)
  refine Ev_aload_n dX2_become_0 0 rfl ?_
  refine Ev_aload_n dX2_become_1 1 rfl ?_
  refine Ev_geti 1 dX2_become_2 f_RX2_24 rfl sh_1 ?_
  obtain ⟨s_1, es_1⟩ : ∃ z : Sg, z = (up s 6 0 (s 1 0)) := ⟨_, rfl⟩
  replace h := h s_1 es_1
  refine Ev_puti 6 dX2_become_5 fp_RX2_24 rfl sh_6 ?_
  rw [← es_1]
  refine Ev_iconst (v := 0) dX2_become_8 rfl ⟨by decide, by decide⟩ ?_
  refine Ev_istore_n dX2_become_9 (by decide) rfl ?_
  refine Ev_sub [1, 2, 0] rfl ?_
  refine li_1s (P := fun (v2_2 : Int) (s_3 : Sg) => Ev mX2_become 0 10 [(0, (2, 6)), (1, (2, 1)), (2, (0, v2_2))] [] s_3 (poV post)) ?_ h
  intro again_4 v2_2 s_3 hagain_4 h
  refine Ev_iload_n dX2_become_10 2 rfl ?_
  refine Ev_aload_n dX2_become_11 0 rfl ?_
  refine Ev_geti 6 dX2_become_12 f_RX2_24 rfl sh_6 ?_
  refine Ev_icmp_ge (tgt := 72) dX2_become_15 (by decide) (fun hc => ?_) (fun hc => ?_)
  · replace h := h.1 hc
    exact Ev_retv dX2_become_72 rfl (poV_mk h)
  · replace h := h.2 hc
    refine Ev_aload_n dX2_become_18 0 rfl ?_
    refine Ev_getr 6 (7) dX2_become_19 f_RX2_9 rfl sh_6 rfl ?_
    refine Ev_iload_n dX2_become_22 2 rfl ?_
    refine Ev_aload_n dX2_become_23 1 rfl ?_
    refine Ev_getr 1 (2) dX2_become_24 f_RX2_9 rfl sh_1 rfl ?_
    refine Ev_iload_n dX2_become_27 2 rfl ?_
    obtain ⟨hb_5, h⟩ := h
    refine Ev_iald (2) dX2_become_28 rfl sh_2 hb_5 ?_
    obtain ⟨hb_6, h⟩ := h
    obtain ⟨s_7, es_7⟩ : ∃ z : Sg, z = (up s_3 7 (v2_2.toNat) (s_3 2 v2_2.toNat)) := ⟨_, rfl⟩
    replace h := h s_7 es_7
    refine Ev_iast (7) dX2_become_29 rfl sh_7 hb_6 ?_
    rw [← es_7]
    refine Ev_aload_n dX2_become_30 0 rfl ?_
    refine Ev_getr 6 (8) dX2_become_31 f_RX2_15 rfl sh_6 rfl ?_
    refine Ev_iload_n dX2_become_34 2 rfl ?_
    refine Ev_aload_n dX2_become_35 1 rfl ?_
    refine Ev_getr 1 (3) dX2_become_36 f_RX2_15 rfl sh_1 rfl ?_
    refine Ev_iload_n dX2_become_39 2 rfl ?_
    obtain ⟨hb_8, h⟩ := h
    refine Ev_iald (3) dX2_become_40 rfl sh_3 hb_8 ?_
    obtain ⟨hb_9, h⟩ := h
    obtain ⟨s_10, es_10⟩ : ∃ z : Sg, z = (up s_7 8 (v2_2.toNat) (s_7 3 v2_2.toNat)) := ⟨_, rfl⟩
    replace h := h s_10 es_10
    refine Ev_iast (8) dX2_become_41 rfl sh_8 hb_9 ?_
    rw [← es_10]
    refine Ev_aload_n dX2_become_42 0 rfl ?_
    refine Ev_getr 6 (9) dX2_become_43 f_RX2_18 rfl sh_6 rfl ?_
    refine Ev_iload_n dX2_become_46 2 rfl ?_
    refine Ev_aload_n dX2_become_47 1 rfl ?_
    refine Ev_getr 1 (4) dX2_become_48 f_RX2_18 rfl sh_1 rfl ?_
    refine Ev_iload_n dX2_become_51 2 rfl ?_
    obtain ⟨hb_11, h⟩ := h
    refine Ev_iald (4) dX2_become_52 rfl sh_4 hb_11 ?_
    obtain ⟨hb_12, h⟩ := h
    obtain ⟨s_13, es_13⟩ : ∃ z : Sg, z = (up s_10 9 (v2_2.toNat) (s_10 4 v2_2.toNat)) := ⟨_, rfl⟩
    replace h := h s_13 es_13
    refine Ev_iast (9) dX2_become_53 rfl sh_9 hb_12 ?_
    rw [← es_13]
    refine Ev_aload_n dX2_become_54 0 rfl ?_
    refine Ev_getr 6 (10) dX2_become_55 f_RX2_21 rfl sh_6 rfl ?_
    refine Ev_iload_n dX2_become_58 2 rfl ?_
    refine Ev_aload_n dX2_become_59 1 rfl ?_
    refine Ev_getr 1 (5) dX2_become_60 f_RX2_21 rfl sh_1 rfl ?_
    refine Ev_iload_n dX2_become_63 2 rfl ?_
    obtain ⟨hb_14, h⟩ := h
    refine Ev_iald (5) dX2_become_64 rfl sh_5 hb_14 ?_
    obtain ⟨hb_15, h⟩ := h
    obtain ⟨s_16, es_16⟩ : ∃ z : Sg, z = (up s_13 10 (v2_2.toNat) (s_13 5 v2_2.toNat)) := ⟨_, rfl⟩
    replace h := h s_16 es_16
    refine Ev_iast (10) dX2_become_65 rfl sh_10 hb_15 ?_
    rw [← es_16]
    obtain ⟨v2_17, ev2_17⟩ : ∃ z : Int, z = w32 (v2_2 + 1) := ⟨_, rfl⟩
    replace h := h v2_17 ev2_17
    refine Ev_iinc (v := v2_17) dX2_become_66 2 rfl ev2_17.symm (by decide) rfl ?_
    refine Ev_goto (tgt := 10) dX2_become_69 (by decide) ?_
    refine Ev_sub [1, 2, 0] rfl ?_
    exact hagain_4 _ _ h
theorem k_X2_become_11_1 {s : Sg} {post : Sg → Prop} (h : w_X2_become s 11 1 post) : EvM mX2_become 0 [(2, 11), (2, 1)] s (poV post) := by
  refine EvM_of rfl (by decide +kernel) (Nat.le_of_ble_eq_true rfl) ?_
  unfold w_X2_become at h
  show Ev mX2_become 0 0 [(0, (2, 11)), (1, (2, 1))] [] s (poV post)
  refine Ev_aload_n dX2_become_0 0 rfl ?_
  refine Ev_aload_n dX2_become_1 1 rfl ?_
  refine Ev_geti 1 dX2_become_2 f_RX2_24 rfl sh_1 ?_
  obtain ⟨s_1, es_1⟩ : ∃ z : Sg, z = (up s 11 0 (s 1 0)) := ⟨_, rfl⟩
  replace h := h s_1 es_1
  refine Ev_puti 11 dX2_become_5 fp_RX2_24 rfl sh_11 ?_
  rw [← es_1]
  refine Ev_iconst (v := 0) dX2_become_8 rfl ⟨by decide, by decide⟩ ?_
  refine Ev_istore_n dX2_become_9 (by decide) rfl ?_
  refine Ev_sub [1, 2, 0] rfl ?_
  refine li_1s (P := fun (v2_2 : Int) (s_3 : Sg) => Ev mX2_become 0 10 [(0, (2, 11)), (1, (2, 1)), (2, (0, v2_2))] [] s_3 (poV post)) ?_ h
  intro again_4 v2_2 s_3 hagain_4 h
  refine Ev_iload_n dX2_become_10 2 rfl ?_
  refine Ev_aload_n dX2_become_11 0 rfl ?_
  refine Ev_geti 11 dX2_become_12 f_RX2_24 rfl sh_11 ?_
  refine Ev_icmp_ge (tgt := 72) dX2_become_15 (by decide) (fun hc => ?_) (fun hc => ?_)
  · replace h := h.1 hc
    exact Ev_retv dX2_become_72 rfl (poV_mk h)
  · replace h := h.2 hc
    refine Ev_aload_n dX2_become_18 0 rfl ?_
    refine Ev_getr 11 (12) dX2_become_19 f_RX2_9 rfl sh_11 rfl ?_
    refine Ev_iload_n dX2_become_22 2 rfl ?_
    refine Ev_aload_n dX2_become_23 1 rfl ?_
    refine Ev_getr 1 (2) dX2_become_24 f_RX2_9 rfl sh_1 rfl ?_
    refine Ev_iload_n dX2_become_27 2 rfl ?_
    obtain ⟨hb_5, h⟩ := h
    refine Ev_iald (2) dX2_become_28 rfl sh_2 hb_5 ?_
    obtain ⟨hb_6, h⟩ := h
    obtain ⟨s_7, es_7⟩ : ∃ z : Sg, z = (up s_3 12 (v2_2.toNat) (s_3 2 v2_2.toNat)) := ⟨_, rfl⟩
    replace h := h s_7 es_7
    refine Ev_iast (12) dX2_become_29 rfl sh_12 hb_6 ?_
    rw [← es_7]
    refine Ev_aload_n dX2_become_30 0 rfl ?_
    refine Ev_getr 11 (13) dX2_become_31 f_RX2_15 rfl sh_11 rfl ?_
    refine Ev_iload_n dX2_become_34 2 rfl ?_
    refine Ev_aload_n dX2_become_35 1 rfl ?_
    refine Ev_getr 1 (3) dX2_become_36 f_RX2_15 rfl sh_1 rfl ?_
    refine Ev_iload_n dX2_become_39 2 rfl ?_
    obtain ⟨hb_8, h⟩ := h
    refine Ev_iald (3) dX2_become_40 rfl sh_3 hb_8 ?_
    obtain ⟨hb_9, h⟩ := h
    obtain ⟨s_10, es_10⟩ : ∃ z : Sg, z = (up s_7 13 (v2_2.toNat) (s_7 3 v2_2.toNat)) := ⟨_, rfl⟩
    replace h := h s_10 es_10
    refine Ev_iast (13) dX2_become_41 rfl sh_13 hb_9 ?_
    rw [← es_10]
    refine Ev_aload_n dX2_become_42 0 rfl ?_
    refine Ev_getr 11 (14) dX2_become_43 f_RX2_18 rfl sh_11 rfl ?_
    refine Ev_iload_n dX2_become_46 2 rfl ?_
    refine Ev_aload_n dX2_become_47 1 rfl ?_
    refine Ev_getr 1 (4) dX2_become_48 f_RX2_18 rfl sh_1 rfl ?_
    refine Ev_iload_n dX2_become_51 2 rfl ?_
    obtain ⟨hb_11, h⟩ := h
    refine Ev_iald (4) dX2_become_52 rfl sh_4 hb_11 ?_
    obtain ⟨hb_12, h⟩ := h
    obtain ⟨s_13, es_13⟩ : ∃ z : Sg, z = (up s_10 14 (v2_2.toNat) (s_10 4 v2_2.toNat)) := ⟨_, rfl⟩
    replace h := h s_13 es_13
    refine Ev_iast (14) dX2_become_53 rfl sh_14 hb_12 ?_
    rw [← es_13]
    refine Ev_aload_n dX2_become_54 0 rfl ?_
    refine Ev_getr 11 (15) dX2_become_55 f_RX2_21 rfl sh_11 rfl ?_
    refine Ev_iload_n dX2_become_58 2 rfl ?_
    refine Ev_aload_n dX2_become_59 1 rfl ?_
    refine Ev_getr 1 (5) dX2_become_60 f_RX2_21 rfl sh_1 rfl ?_
    refine Ev_iload_n dX2_become_63 2 rfl ?_
    obtain ⟨hb_14, h⟩ := h
    refine Ev_iald (5) dX2_become_64 rfl sh_5 hb_14 ?_
    obtain ⟨hb_15, h⟩ := h
    obtain ⟨s_16, es_16⟩ : ∃ z : Sg, z = (up s_13 15 (v2_2.toNat) (s_13 5 v2_2.toNat)) := ⟨_, rfl⟩
    replace h := h s_16 es_16
    refine Ev_iast (15) dX2_become_65 rfl sh_15 hb_15 ?_
    rw [← es_16]
    obtain ⟨v2_17, ev2_17⟩ : ∃ z : Int, z = w32 (v2_2 + 1) := ⟨_, rfl⟩
    replace h := h v2_17 ev2_17
    refine Ev_iinc (v := v2_17) dX2_become_66 2 rfl ev2_17.symm (by decide) rfl ?_
    refine Ev_goto (tgt := 10) dX2_become_69 (by decide) ?_
    refine Ev_sub [1, 2, 0] rfl ?_
    exact hagain_4 _ _ h
theorem k_X2_height {s : Sg} {v1 v2 v4 : Int} {post : Int → Prop} (h : w_X2_height s v1 v2 v4 post) : EvM mX2_height 0 [(2, 1), (0, v1), (1, v2), (1, v4)] s (poI 1 s post) := by
  refine EvM_of rfl (by decide +kernel) (Nat.le_of_ble_eq_true rfl) ?_
  unfold w_X2_height at h
  show Ev mX2_height 0 0 [(0, (2, 1)), (1, (0, v1)), (2, (1, v2)), (4, (1, v4))] [] s (poI 1 s post)
  refine Ev_aload_n dX2_height_0 0 rfl ?_
  refine Ev_getr 1 (3) dX2_height_1 f_RX2_15 rfl sh_1 rfl ?_
  refine Ev_iload_n dX2_height_4 1 rfl ?_
  obtain ⟨hb_1, h⟩ := h
  refine Ev_iald (3) dX2_height_5 rfl sh_3 hb_1 ?_
  refine Ev_aload_n dX2_height_6 0 rfl ?_
  refine Ev_getr 1 (4) dX2_height_7 f_RX2_18 rfl sh_1 rfl ?_
  refine Ev_iload_n dX2_height_10 1 rfl ?_
  obtain ⟨hb_2, h⟩ := h
  refine Ev_iald (4) dX2_height_11 rfl sh_4 hb_2 ?_
  refine Ev_aload_n dX2_height_12 0 rfl ?_
  refine Ev_getr 1 (2) dX2_height_13 f_RX2_9 rfl sh_1 rfl ?_
  refine Ev_iload_n dX2_height_16 1 rfl ?_
  obtain ⟨hb_3, h⟩ := h
  refine Ev_iald (2) dX2_height_17 rfl sh_2 hb_3 ?_
  refine Ev_isub dX2_height_18 ?_
  refine Ev_imul dX2_height_19 ?_
  refine Ev_i2l dX2_height_20 ?_
  refine Ev_lload dX2_height_21 3 rfl ?_
  refine Ev_lmul dX2_height_23 ?_
  refine Ev_aload_n dX2_height_24 0 rfl ?_
  refine Ev_getr 1 (5) dX2_height_25 f_RX2_21 rfl sh_1 rfl ?_
  refine Ev_iload_n dX2_height_28 1 rfl ?_
  obtain ⟨hb_4, h⟩ := h
  refine Ev_iald (5) dX2_height_29 rfl sh_5 hb_4 ?_
  refine Ev_aload_n dX2_height_30 0 rfl ?_
  refine Ev_getr 1 (3) dX2_height_31 f_RX2_15 rfl sh_1 rfl ?_
  refine Ev_iload_n dX2_height_34 1 rfl ?_
  obtain ⟨hb_5, h⟩ := h
  refine Ev_iald (3) dX2_height_35 rfl sh_3 hb_5 ?_
  refine Ev_isub dX2_height_36 ?_
  refine Ev_i2l dX2_height_37 ?_
  refine Ev_lload_n dX2_height_38 2 rfl ?_
  refine Ev_aload_n dX2_height_39 0 rfl ?_
  refine Ev_getr 1 (2) dX2_height_40 f_RX2_9 rfl sh_1 rfl ?_
  refine Ev_iload_n dX2_height_43 1 rfl ?_
  obtain ⟨hb_6, h⟩ := h
  refine Ev_iald (2) dX2_height_44 rfl sh_2 hb_6 ?_
  refine Ev_i2l dX2_height_45 ?_
  refine Ev_lload dX2_height_46 3 rfl ?_
  refine Ev_lmul dX2_height_48 ?_
  refine Ev_lsub dX2_height_49 ?_
  refine Ev_lmul dX2_height_50 ?_
  refine Ev_ladd dX2_height_51 ?_
  exact Ev_ret dX2_height_52 trivial (poI_mk h)
theorem k_X2_reaches_1 {s : Sg} {v1 v2 v4 : Int} {post : Int → Prop} (h : w_X2_reaches s 1 v1 v2 v4 post) : EvM mX2_reaches 0 [(2, 1), (0, v1), (1, v2), (1, v4)] s (poI 0 s post) := by
  refine EvM_of rfl (by decide +kernel) (Nat.le_of_ble_eq_true rfl) ?_
  unfold w_X2_reaches at h
  show Ev mX2_reaches 0 0 [(0, (2, 1)), (1, (0, v1)), (2, (1, v2)), (4, (1, v4))] [] s (poI 0 s post)
  refine Ev_aload_n dX2_reaches_0 0 rfl ?_
  refine Ev_getr 1 (2) dX2_reaches_1 f_RX2_9 rfl sh_1 rfl ?_
  refine Ev_iload_n dX2_reaches_4 1 rfl ?_
  obtain ⟨hb_1, h⟩ := h
  refine Ev_iald (2) dX2_reaches_5 rfl sh_2 hb_1 ?_
  refine Ev_i2l dX2_reaches_6 ?_
  refine Ev_lload dX2_reaches_7 3 rfl ?_
  refine Ev_lmul dX2_reaches_9 ?_
  refine Ev_lload_n dX2_reaches_10 2 rfl ?_
  refine Ev_lcmp dX2_reaches_11 ?_
  refine jc_1 (P := fun (t_2 : Int) => Ev mX2_reaches 0 35 [] [(0, t_2)] s (poI 0 s post)) h ?_ ?_
  · intro t_2 h
    obtain ⟨hz, h⟩ := h
    exact Ev_ret dX2_reaches_35 hz (poI_mk h)
  · intro K_3 hK_3 h
    refine jc_0 (P := Ev mX2_reaches 0 34 [] [] s (poI 0 s post)) h ?_ ?_
    · intro  h
      refine Ev_iconst (v := 0) dX2_reaches_34 rfl ⟨by decide, by decide⟩ ?_
      exact hK_3 _ h
    · intro K_4 hK_4 h
      refine Ev_if_gt (tgt := 34) dX2_reaches_12 (by decide) (fun hc => ?_) (fun hc => ?_)
      · replace h := h.1 (lcmp_gt.mp hc)
        refine Ev_sub [] rfl ?_
        exact hK_4 h
      · replace h := h.2 (fun q => hc (lcmp_gt.mpr q))
        refine Ev_lload_n dX2_reaches_15 2 rfl ?_
        refine Ev_aload_n dX2_reaches_16 0 rfl ?_
        refine Ev_getr 1 (4) dX2_reaches_17 f_RX2_18 rfl sh_1 rfl ?_
        refine Ev_iload_n dX2_reaches_20 1 rfl ?_
        obtain ⟨hb_5, h⟩ := h
        refine Ev_iald (4) dX2_reaches_21 rfl sh_4 hb_5 ?_
        refine Ev_i2l dX2_reaches_22 ?_
        refine Ev_lload dX2_reaches_23 3 rfl ?_
        refine Ev_lmul dX2_reaches_25 ?_
        refine Ev_lcmp dX2_reaches_26 ?_
        refine Ev_if_gt (tgt := 34) dX2_reaches_27 (by decide) (fun hc => ?_) (fun hc => ?_)
        · replace h := h.1 (lcmp_gt.mp hc)
          refine Ev_sub [] rfl ?_
          exact hK_4 h
        · replace h := h.2 (fun q => hc (lcmp_gt.mpr q))
          refine Ev_iconst (v := 1) dX2_reaches_30 rfl ⟨by decide, by decide⟩ ?_
          refine Ev_goto (tgt := 35) dX2_reaches_31 (by decide) ?_
          refine Ev_sub [] rfl ?_
          exact hK_3 _ h
theorem k_X2_reaches_11 {s : Sg} {v1 v2 v4 : Int} {post : Int → Prop} (h : w_X2_reaches s 11 v1 v2 v4 post) : EvM mX2_reaches 0 [(2, 11), (0, v1), (1, v2), (1, v4)] s (poI 0 s post) := by
  refine EvM_of rfl (by decide +kernel) (Nat.le_of_ble_eq_true rfl) ?_
  unfold w_X2_reaches at h
  show Ev mX2_reaches 0 0 [(0, (2, 11)), (1, (0, v1)), (2, (1, v2)), (4, (1, v4))] [] s (poI 0 s post)
  refine Ev_aload_n dX2_reaches_0 0 rfl ?_
  refine Ev_getr 11 (12) dX2_reaches_1 f_RX2_9 rfl sh_11 rfl ?_
  refine Ev_iload_n dX2_reaches_4 1 rfl ?_
  obtain ⟨hb_1, h⟩ := h
  refine Ev_iald (12) dX2_reaches_5 rfl sh_12 hb_1 ?_
  refine Ev_i2l dX2_reaches_6 ?_
  refine Ev_lload dX2_reaches_7 3 rfl ?_
  refine Ev_lmul dX2_reaches_9 ?_
  refine Ev_lload_n dX2_reaches_10 2 rfl ?_
  refine Ev_lcmp dX2_reaches_11 ?_
  refine jc_1 (P := fun (t_2 : Int) => Ev mX2_reaches 0 35 [] [(0, t_2)] s (poI 0 s post)) h ?_ ?_
  · intro t_2 h
    obtain ⟨hz, h⟩ := h
    exact Ev_ret dX2_reaches_35 hz (poI_mk h)
  · intro K_3 hK_3 h
    refine jc_0 (P := Ev mX2_reaches 0 34 [] [] s (poI 0 s post)) h ?_ ?_
    · intro  h
      refine Ev_iconst (v := 0) dX2_reaches_34 rfl ⟨by decide, by decide⟩ ?_
      exact hK_3 _ h
    · intro K_4 hK_4 h
      refine Ev_if_gt (tgt := 34) dX2_reaches_12 (by decide) (fun hc => ?_) (fun hc => ?_)
      · replace h := h.1 (lcmp_gt.mp hc)
        refine Ev_sub [] rfl ?_
        exact hK_4 h
      · replace h := h.2 (fun q => hc (lcmp_gt.mpr q))
        refine Ev_lload_n dX2_reaches_15 2 rfl ?_
        refine Ev_aload_n dX2_reaches_16 0 rfl ?_
        refine Ev_getr 11 (14) dX2_reaches_17 f_RX2_18 rfl sh_11 rfl ?_
        refine Ev_iload_n dX2_reaches_20 1 rfl ?_
        obtain ⟨hb_5, h⟩ := h
        refine Ev_iald (14) dX2_reaches_21 rfl sh_14 hb_5 ?_
        refine Ev_i2l dX2_reaches_22 ?_
        refine Ev_lload dX2_reaches_23 3 rfl ?_
        refine Ev_lmul dX2_reaches_25 ?_
        refine Ev_lcmp dX2_reaches_26 ?_
        refine Ev_if_gt (tgt := 34) dX2_reaches_27 (by decide) (fun hc => ?_) (fun hc => ?_)
        · replace h := h.1 (lcmp_gt.mp hc)
          refine Ev_sub [] rfl ?_
          exact hK_4 h
        · replace h := h.2 (fun q => hc (lcmp_gt.mpr q))
          refine Ev_iconst (v := 1) dX2_reaches_30 rfl ⟨by decide, by decide⟩ ?_
          refine Ev_goto (tgt := 35) dX2_reaches_31 (by decide) ?_
          refine Ev_sub [] rfl ?_
          exact hK_3 _ h
theorem k_X2_rise_1 {s : Sg} {v1 : Int} {post : Int → Prop} (h : w_X2_rise s 1 v1 post) : EvM mX2_rise 0 [(2, 1), (0, v1)] s (poI 1 s post) := by
  refine EvM_of rfl (by decide +kernel) (Nat.le_of_ble_eq_true rfl) ?_
  unfold w_X2_rise at h
  show Ev mX2_rise 0 0 [(0, (2, 1)), (1, (0, v1))] [] s (poI 1 s post)
  refine Ev_aload_n dX2_rise_0 0 rfl ?_
  refine Ev_getr 1 (5) dX2_rise_1 f_RX2_21 rfl sh_1 rfl ?_
  refine Ev_iload_n dX2_rise_4 1 rfl ?_
  obtain ⟨hb_1, h⟩ := h
  refine Ev_iald (5) dX2_rise_5 rfl sh_5 hb_1 ?_
  refine Ev_aload_n dX2_rise_6 0 rfl ?_
  refine Ev_getr 1 (3) dX2_rise_7 f_RX2_15 rfl sh_1 rfl ?_
  refine Ev_iload_n dX2_rise_10 1 rfl ?_
  obtain ⟨hb_2, h⟩ := h
  refine Ev_iald (3) dX2_rise_11 rfl sh_3 hb_2 ?_
  refine Ev_isub dX2_rise_12 ?_
  refine Ev_i2l dX2_rise_13 ?_
  exact Ev_ret dX2_rise_14 trivial (poI_mk h)
theorem k_X2_rise_11 {s : Sg} {v1 : Int} {post : Int → Prop} (h : w_X2_rise s 11 v1 post) : EvM mX2_rise 0 [(2, 11), (0, v1)] s (poI 1 s post) := by
  refine EvM_of rfl (by decide +kernel) (Nat.le_of_ble_eq_true rfl) ?_
  unfold w_X2_rise at h
  show Ev mX2_rise 0 0 [(0, (2, 11)), (1, (0, v1))] [] s (poI 1 s post)
  refine Ev_aload_n dX2_rise_0 0 rfl ?_
  refine Ev_getr 11 (15) dX2_rise_1 f_RX2_21 rfl sh_11 rfl ?_
  refine Ev_iload_n dX2_rise_4 1 rfl ?_
  obtain ⟨hb_1, h⟩ := h
  refine Ev_iald (15) dX2_rise_5 rfl sh_15 hb_1 ?_
  refine Ev_aload_n dX2_rise_6 0 rfl ?_
  refine Ev_getr 11 (13) dX2_rise_7 f_RX2_15 rfl sh_11 rfl ?_
  refine Ev_iload_n dX2_rise_10 1 rfl ?_
  obtain ⟨hb_2, h⟩ := h
  refine Ev_iald (13) dX2_rise_11 rfl sh_13 hb_2 ?_
  refine Ev_isub dX2_rise_12 ?_
  refine Ev_i2l dX2_rise_13 ?_
  exact Ev_ret dX2_rise_14 trivial (poI_mk h)
theorem k_X2_run_1 {s : Sg} {v1 : Int} {post : Int → Prop} (h : w_X2_run s 1 v1 post) : EvM mX2_run 0 [(2, 1), (0, v1)] s (poI 1 s post) := by
  refine EvM_of rfl (by decide +kernel) (Nat.le_of_ble_eq_true rfl) ?_
  unfold w_X2_run at h
  show Ev mX2_run 0 0 [(0, (2, 1)), (1, (0, v1))] [] s (poI 1 s post)
  refine Ev_aload_n dX2_run_0 0 rfl ?_
  refine Ev_getr 1 (4) dX2_run_1 f_RX2_18 rfl sh_1 rfl ?_
  refine Ev_iload_n dX2_run_4 1 rfl ?_
  obtain ⟨hb_1, h⟩ := h
  refine Ev_iald (4) dX2_run_5 rfl sh_4 hb_1 ?_
  refine Ev_aload_n dX2_run_6 0 rfl ?_
  refine Ev_getr 1 (2) dX2_run_7 f_RX2_9 rfl sh_1 rfl ?_
  refine Ev_iload_n dX2_run_10 1 rfl ?_
  obtain ⟨hb_2, h⟩ := h
  refine Ev_iald (2) dX2_run_11 rfl sh_2 hb_2 ?_
  refine Ev_isub dX2_run_12 ?_
  refine Ev_i2l dX2_run_13 ?_
  exact Ev_ret dX2_run_14 trivial (poI_mk h)
theorem k_X2_run_11 {s : Sg} {v1 : Int} {post : Int → Prop} (h : w_X2_run s 11 v1 post) : EvM mX2_run 0 [(2, 11), (0, v1)] s (poI 1 s post) := by
  refine EvM_of rfl (by decide +kernel) (Nat.le_of_ble_eq_true rfl) ?_
  unfold w_X2_run at h
  show Ev mX2_run 0 0 [(0, (2, 11)), (1, (0, v1))] [] s (poI 1 s post)
  refine Ev_aload_n dX2_run_0 0 rfl ?_
  refine Ev_getr 11 (14) dX2_run_1 f_RX2_18 rfl sh_11 rfl ?_
  refine Ev_iload_n dX2_run_4 1 rfl ?_
  obtain ⟨hb_1, h⟩ := h
  refine Ev_iald (14) dX2_run_5 rfl sh_14 hb_1 ?_
  refine Ev_aload_n dX2_run_6 0 rfl ?_
  refine Ev_getr 11 (12) dX2_run_7 f_RX2_9 rfl sh_11 rfl ?_
  refine Ev_iload_n dX2_run_10 1 rfl ?_
  obtain ⟨hb_2, h⟩ := h
  refine Ev_iald (12) dX2_run_11 rfl sh_12 hb_2 ?_
  refine Ev_isub dX2_run_12 ?_
  refine Ev_i2l dX2_run_13 ?_
  exact Ev_ret dX2_run_14 trivial (poI_mk h)
theorem k_X2_holds_1 {s : Sg} {v1 v2 v4 v6 v8 : Int} {post : Int → Prop} (h : w_X2_holds s 1 v1 v2 v4 v6 v8 post) : EvM mX2_holds 1 [(2, 1), (0, v1), (1, v2), (1, v4), (1, v6), (1, v8)] s (poI 0 s post) := by
  refine EvM_of rfl (by decide +kernel) (Nat.le_of_ble_eq_true rfl) ?_
  unfold w_X2_holds at h
  show Ev mX2_holds 1 0 [(0, (2, 1)), (1, (0, v1)), (2, (1, v2)), (4, (1, v4)), (6, (1, v6)), (8, (1, v8))] [] s (poI 0 s post)
  refine Ev_aload_n dX2_holds_0 0 rfl ?_
  refine Ev_iload_n dX2_holds_1 1 rfl ?_
  refine Ev_lload_n dX2_holds_2 2 rfl ?_
  refine Ev_lload dX2_holds_3 3 rfl ?_
  refine Ev_invV (d' := 0) [(0, v1), (1, v2), (1, v4)] 1 dX2_holds_5 M_X2_reaches q_500 (by decide) rfl rfl sh_1 rfl (Nat.le_of_ble_eq_true rfl) (k_X2_reaches_1 h) ?_
  rintro _ _ ⟨rfl, r_1, rfl, h⟩
  refine Ev_if_ne (tgt := 13) dX2_holds_8 (by decide) (fun hc => ?_) (fun hc => ?_)
  · replace h := h.1 hc
    refine Ev_lload dX2_holds_13 4 rfl ?_
    refine Ev_aload_n dX2_holds_15 0 rfl ?_
    refine Ev_getr 1 (3) dX2_holds_16 f_RX2_15 rfl sh_1 rfl ?_
    refine Ev_iload_n dX2_holds_19 1 rfl ?_
    obtain ⟨hb_2, h⟩ := h
    refine Ev_iald (3) dX2_holds_20 rfl sh_3 hb_2 ?_
    refine Ev_aload_n dX2_holds_21 0 rfl ?_
    refine Ev_getr 1 (5) dX2_holds_22 f_RX2_21 rfl sh_1 rfl ?_
    refine Ev_iload_n dX2_holds_25 1 rfl ?_
    obtain ⟨hb_3, h⟩ := h
    refine Ev_iald (5) dX2_holds_26 rfl sh_5 hb_3 ?_
    refine Ev_min dX2_holds_27 ⟨q_504, q_505, q_12, q_506⟩ (by decide) (Nat.le_of_ble_eq_true rfl) ?_
    refine Ev_i2l dX2_holds_30 ?_
    refine Ev_lload dX2_holds_31 5 rfl ?_
    refine Ev_lmul dX2_holds_33 ?_
    refine Ev_lcmp dX2_holds_34 ?_
    refine jc_0 (P := Ev mX2_holds 1 63 [] [] s (poI 0 s post)) h ?_ ?_
    · intro  h
      refine Ev_iconst (v := 0) dX2_holds_63 rfl ⟨by decide, by decide⟩ ?_
      exact Ev_ret dX2_holds_64 (Or.inl rfl) (poI_mk h)
    · intro K_4 hK_4 h
      refine Ev_if_lt (tgt := 63) dX2_holds_35 (by decide) (fun hc => ?_) (fun hc => ?_)
      · replace h := h.1 (lcmp_lt.mp hc)
        refine Ev_sub [] rfl ?_
        exact hK_4 h
      · replace h := h.2 (fun q => hc (lcmp_lt.mpr q))
        refine Ev_lload dX2_holds_38 4 rfl ?_
        refine Ev_aload_n dX2_holds_40 0 rfl ?_
        refine Ev_getr 1 (3) dX2_holds_41 f_RX2_15 rfl sh_1 rfl ?_
        refine Ev_iload_n dX2_holds_44 1 rfl ?_
        obtain ⟨hb_5, h⟩ := h
        refine Ev_iald (3) dX2_holds_45 rfl sh_3 hb_5 ?_
        refine Ev_aload_n dX2_holds_46 0 rfl ?_
        refine Ev_getr 1 (5) dX2_holds_47 f_RX2_21 rfl sh_1 rfl ?_
        refine Ev_iload_n dX2_holds_50 1 rfl ?_
        obtain ⟨hb_6, h⟩ := h
        refine Ev_iald (5) dX2_holds_51 rfl sh_5 hb_6 ?_
        refine Ev_max dX2_holds_52 ⟨q_507, q_508, q_12, q_509⟩ (by decide) (Nat.le_of_ble_eq_true rfl) ?_
        refine Ev_i2l dX2_holds_55 ?_
        refine Ev_lload dX2_holds_56 5 rfl ?_
        refine Ev_lmul dX2_holds_58 ?_
        refine Ev_lcmp dX2_holds_59 ?_
        refine Ev_if_le (tgt := 65) dX2_holds_60 (by decide) (fun hc => ?_) (fun hc => ?_)
        · replace h := h.1 (lcmp_le.mp hc)
          refine Ev_lload_n dX2_holds_65 2 rfl ?_
          refine Ev_aload_n dX2_holds_66 0 rfl ?_
          refine Ev_getr 1 (2) dX2_holds_67 f_RX2_9 rfl sh_1 rfl ?_
          refine Ev_iload_n dX2_holds_70 1 rfl ?_
          obtain ⟨hb_7, h⟩ := h
          refine Ev_iald (2) dX2_holds_71 rfl sh_2 hb_7 ?_
          refine Ev_i2l dX2_holds_72 ?_
          refine Ev_lload dX2_holds_73 3 rfl ?_
          refine Ev_lmul dX2_holds_75 ?_
          refine Ev_lsub dX2_holds_76 ?_
          refine Ev_lload dX2_holds_77 5 rfl ?_
          refine Ev_lmul dX2_holds_79 ?_
          refine Ev_aload_n dX2_holds_80 0 rfl ?_
          refine Ev_iload_n dX2_holds_81 1 rfl ?_
          refine Ev_invV (d' := 0) [(0, v1)] 1 dX2_holds_82 M_X2_rise q_510 (by decide) rfl rfl sh_1 rfl (Nat.le_of_ble_eq_true rfl) (k_X2_rise_1 h) ?_
          rintro _ _ ⟨rfl, r_8, rfl, h⟩
          refine Ev_lmul dX2_holds_85 ?_
          refine Ev_lload dX2_holds_86 4 rfl ?_
          refine Ev_aload_n dX2_holds_88 0 rfl ?_
          refine Ev_getr 1 (3) dX2_holds_89 f_RX2_15 rfl sh_1 rfl ?_
          refine Ev_iload_n dX2_holds_92 1 rfl ?_
          obtain ⟨hb_9, h⟩ := h
          refine Ev_iald (3) dX2_holds_93 rfl sh_3 hb_9 ?_
          refine Ev_i2l dX2_holds_94 ?_
          refine Ev_lload dX2_holds_95 5 rfl ?_
          refine Ev_lmul dX2_holds_97 ?_
          refine Ev_lsub dX2_holds_98 ?_
          refine Ev_lload dX2_holds_99 3 rfl ?_
          refine Ev_lmul dX2_holds_101 ?_
          refine Ev_aload_n dX2_holds_102 0 rfl ?_
          refine Ev_iload_n dX2_holds_103 1 rfl ?_
          refine Ev_invV (d' := 0) [(0, v1)] 1 dX2_holds_104 M_X2_run q_511 (by decide) rfl rfl sh_1 rfl (Nat.le_of_ble_eq_true rfl) (k_X2_run_1 h) ?_
          rintro _ _ ⟨rfl, r_10, rfl, h⟩
          refine Ev_lmul dX2_holds_107 ?_
          refine Ev_lcmp dX2_holds_108 ?_
          refine jc_1 (P := fun (t_11 : Int) => Ev mX2_holds 1 117 [] [(0, t_11)] s (poI 0 s post)) h ?_ ?_
          · intro t_11 h
            obtain ⟨hz, h⟩ := h
            exact Ev_ret dX2_holds_117 hz (poI_mk h)
          · intro K_12 hK_12 h
            refine Ev_if_ne (tgt := 116) dX2_holds_109 (by decide) (fun hc => ?_) (fun hc => ?_)
            · replace h := h.1 (fun q => hc (lcmp_eq.mpr q))
              refine Ev_iconst (v := 0) dX2_holds_116 rfl ⟨by decide, by decide⟩ ?_
              refine Ev_sub [] rfl ?_
              exact hK_12 _ h
            · replace h := h.2 (lcmp_eq.mp hc)
              refine Ev_iconst (v := 1) dX2_holds_112 rfl ⟨by decide, by decide⟩ ?_
              refine Ev_goto (tgt := 117) dX2_holds_113 (by decide) ?_
              refine Ev_sub [] rfl ?_
              exact hK_12 _ h
        · replace h := h.2 (fun q => hc (lcmp_le.mpr q))
          refine Ev_sub [] rfl ?_
          exact hK_4 h
  · replace h := h.2 hc
    refine Ev_iconst (v := 0) dX2_holds_11 rfl ⟨by decide, by decide⟩ ?_
    exact Ev_ret dX2_holds_12 (Or.inl rfl) (poI_mk h)
theorem k_X2_holds_11 {s : Sg} {v1 v2 v4 v6 v8 : Int} {post : Int → Prop} (h : w_X2_holds s 11 v1 v2 v4 v6 v8 post) : EvM mX2_holds 1 [(2, 11), (0, v1), (1, v2), (1, v4), (1, v6), (1, v8)] s (poI 0 s post) := by
  refine EvM_of rfl (by decide +kernel) (Nat.le_of_ble_eq_true rfl) ?_
  unfold w_X2_holds at h
  show Ev mX2_holds 1 0 [(0, (2, 11)), (1, (0, v1)), (2, (1, v2)), (4, (1, v4)), (6, (1, v6)), (8, (1, v8))] [] s (poI 0 s post)
  refine Ev_aload_n dX2_holds_0 0 rfl ?_
  refine Ev_iload_n dX2_holds_1 1 rfl ?_
  refine Ev_lload_n dX2_holds_2 2 rfl ?_
  refine Ev_lload dX2_holds_3 3 rfl ?_
  refine Ev_invV (d' := 0) [(0, v1), (1, v2), (1, v4)] 11 dX2_holds_5 M_X2_reaches q_500 (by decide) rfl rfl sh_11 rfl (Nat.le_of_ble_eq_true rfl) (k_X2_reaches_11 h) ?_
  rintro _ _ ⟨rfl, r_1, rfl, h⟩
  refine Ev_if_ne (tgt := 13) dX2_holds_8 (by decide) (fun hc => ?_) (fun hc => ?_)
  · replace h := h.1 hc
    refine Ev_lload dX2_holds_13 4 rfl ?_
    refine Ev_aload_n dX2_holds_15 0 rfl ?_
    refine Ev_getr 11 (13) dX2_holds_16 f_RX2_15 rfl sh_11 rfl ?_
    refine Ev_iload_n dX2_holds_19 1 rfl ?_
    obtain ⟨hb_2, h⟩ := h
    refine Ev_iald (13) dX2_holds_20 rfl sh_13 hb_2 ?_
    refine Ev_aload_n dX2_holds_21 0 rfl ?_
    refine Ev_getr 11 (15) dX2_holds_22 f_RX2_21 rfl sh_11 rfl ?_
    refine Ev_iload_n dX2_holds_25 1 rfl ?_
    obtain ⟨hb_3, h⟩ := h
    refine Ev_iald (15) dX2_holds_26 rfl sh_15 hb_3 ?_
    refine Ev_min dX2_holds_27 ⟨q_504, q_505, q_12, q_506⟩ (by decide) (Nat.le_of_ble_eq_true rfl) ?_
    refine Ev_i2l dX2_holds_30 ?_
    refine Ev_lload dX2_holds_31 5 rfl ?_
    refine Ev_lmul dX2_holds_33 ?_
    refine Ev_lcmp dX2_holds_34 ?_
    refine jc_0 (P := Ev mX2_holds 1 63 [] [] s (poI 0 s post)) h ?_ ?_
    · intro  h
      refine Ev_iconst (v := 0) dX2_holds_63 rfl ⟨by decide, by decide⟩ ?_
      exact Ev_ret dX2_holds_64 (Or.inl rfl) (poI_mk h)
    · intro K_4 hK_4 h
      refine Ev_if_lt (tgt := 63) dX2_holds_35 (by decide) (fun hc => ?_) (fun hc => ?_)
      · replace h := h.1 (lcmp_lt.mp hc)
        refine Ev_sub [] rfl ?_
        exact hK_4 h
      · replace h := h.2 (fun q => hc (lcmp_lt.mpr q))
        refine Ev_lload dX2_holds_38 4 rfl ?_
        refine Ev_aload_n dX2_holds_40 0 rfl ?_
        refine Ev_getr 11 (13) dX2_holds_41 f_RX2_15 rfl sh_11 rfl ?_
        refine Ev_iload_n dX2_holds_44 1 rfl ?_
        obtain ⟨hb_5, h⟩ := h
        refine Ev_iald (13) dX2_holds_45 rfl sh_13 hb_5 ?_
        refine Ev_aload_n dX2_holds_46 0 rfl ?_
        refine Ev_getr 11 (15) dX2_holds_47 f_RX2_21 rfl sh_11 rfl ?_
        refine Ev_iload_n dX2_holds_50 1 rfl ?_
        obtain ⟨hb_6, h⟩ := h
        refine Ev_iald (15) dX2_holds_51 rfl sh_15 hb_6 ?_
        refine Ev_max dX2_holds_52 ⟨q_507, q_508, q_12, q_509⟩ (by decide) (Nat.le_of_ble_eq_true rfl) ?_
        refine Ev_i2l dX2_holds_55 ?_
        refine Ev_lload dX2_holds_56 5 rfl ?_
        refine Ev_lmul dX2_holds_58 ?_
        refine Ev_lcmp dX2_holds_59 ?_
        refine Ev_if_le (tgt := 65) dX2_holds_60 (by decide) (fun hc => ?_) (fun hc => ?_)
        · replace h := h.1 (lcmp_le.mp hc)
          refine Ev_lload_n dX2_holds_65 2 rfl ?_
          refine Ev_aload_n dX2_holds_66 0 rfl ?_
          refine Ev_getr 11 (12) dX2_holds_67 f_RX2_9 rfl sh_11 rfl ?_
          refine Ev_iload_n dX2_holds_70 1 rfl ?_
          obtain ⟨hb_7, h⟩ := h
          refine Ev_iald (12) dX2_holds_71 rfl sh_12 hb_7 ?_
          refine Ev_i2l dX2_holds_72 ?_
          refine Ev_lload dX2_holds_73 3 rfl ?_
          refine Ev_lmul dX2_holds_75 ?_
          refine Ev_lsub dX2_holds_76 ?_
          refine Ev_lload dX2_holds_77 5 rfl ?_
          refine Ev_lmul dX2_holds_79 ?_
          refine Ev_aload_n dX2_holds_80 0 rfl ?_
          refine Ev_iload_n dX2_holds_81 1 rfl ?_
          refine Ev_invV (d' := 0) [(0, v1)] 11 dX2_holds_82 M_X2_rise q_510 (by decide) rfl rfl sh_11 rfl (Nat.le_of_ble_eq_true rfl) (k_X2_rise_11 h) ?_
          rintro _ _ ⟨rfl, r_8, rfl, h⟩
          refine Ev_lmul dX2_holds_85 ?_
          refine Ev_lload dX2_holds_86 4 rfl ?_
          refine Ev_aload_n dX2_holds_88 0 rfl ?_
          refine Ev_getr 11 (13) dX2_holds_89 f_RX2_15 rfl sh_11 rfl ?_
          refine Ev_iload_n dX2_holds_92 1 rfl ?_
          obtain ⟨hb_9, h⟩ := h
          refine Ev_iald (13) dX2_holds_93 rfl sh_13 hb_9 ?_
          refine Ev_i2l dX2_holds_94 ?_
          refine Ev_lload dX2_holds_95 5 rfl ?_
          refine Ev_lmul dX2_holds_97 ?_
          refine Ev_lsub dX2_holds_98 ?_
          refine Ev_lload dX2_holds_99 3 rfl ?_
          refine Ev_lmul dX2_holds_101 ?_
          refine Ev_aload_n dX2_holds_102 0 rfl ?_
          refine Ev_iload_n dX2_holds_103 1 rfl ?_
          refine Ev_invV (d' := 0) [(0, v1)] 11 dX2_holds_104 M_X2_run q_511 (by decide) rfl rfl sh_11 rfl (Nat.le_of_ble_eq_true rfl) (k_X2_run_11 h) ?_
          rintro _ _ ⟨rfl, r_10, rfl, h⟩
          refine Ev_lmul dX2_holds_107 ?_
          refine Ev_lcmp dX2_holds_108 ?_
          refine jc_1 (P := fun (t_11 : Int) => Ev mX2_holds 1 117 [] [(0, t_11)] s (poI 0 s post)) h ?_ ?_
          · intro t_11 h
            obtain ⟨hz, h⟩ := h
            exact Ev_ret dX2_holds_117 hz (poI_mk h)
          · intro K_12 hK_12 h
            refine Ev_if_ne (tgt := 116) dX2_holds_109 (by decide) (fun hc => ?_) (fun hc => ?_)
            · replace h := h.1 (fun q => hc (lcmp_eq.mpr q))
              refine Ev_iconst (v := 0) dX2_holds_116 rfl ⟨by decide, by decide⟩ ?_
              refine Ev_sub [] rfl ?_
              exact hK_12 _ h
            · replace h := h.2 (lcmp_eq.mp hc)
              refine Ev_iconst (v := 1) dX2_holds_112 rfl ⟨by decide, by decide⟩ ?_
              refine Ev_goto (tgt := 117) dX2_holds_113 (by decide) ?_
              refine Ev_sub [] rfl ?_
              exact hK_12 _ h
        · replace h := h.2 (fun q => hc (lcmp_le.mpr q))
          refine Ev_sub [] rfl ?_
          exact hK_4 h
  · replace h := h.2 hc
    refine Ev_iconst (v := 0) dX2_holds_11 rfl ⟨by decide, by decide⟩ ?_
    exact Ev_ret dX2_holds_12 (Or.inl rfl) (poI_mk h)
theorem k_X2_isUpright {s : Sg} {v1 : Int} {post : Int → Prop} (h : w_X2_isUpright s v1 post) : EvM mX2_isUpright 0 [(2, 1), (0, v1)] s (poI 0 s post) := by
  refine EvM_of rfl (by decide +kernel) (Nat.le_of_ble_eq_true rfl) ?_
  unfold w_X2_isUpright at h
  show Ev mX2_isUpright 0 0 [(0, (2, 1)), (1, (0, v1))] [] s (poI 0 s post)
  refine Ev_aload_n dX2_isUpright_0 0 rfl ?_
  refine Ev_getr 1 (2) dX2_isUpright_1 f_RX2_9 rfl sh_1 rfl ?_
  refine Ev_iload_n dX2_isUpright_4 1 rfl ?_
  obtain ⟨hb_1, h⟩ := h
  refine Ev_iald (2) dX2_isUpright_5 rfl sh_2 hb_1 ?_
  refine Ev_aload_n dX2_isUpright_6 0 rfl ?_
  refine Ev_getr 1 (4) dX2_isUpright_7 f_RX2_18 rfl sh_1 rfl ?_
  refine Ev_iload_n dX2_isUpright_10 1 rfl ?_
  obtain ⟨hb_2, h⟩ := h
  refine Ev_iald (4) dX2_isUpright_11 rfl sh_4 hb_2 ?_
  refine jc_1 (P := fun (t_3 : Int) => Ev mX2_isUpright 0 20 [] [(0, t_3)] s (poI 0 s post)) h ?_ ?_
  · intro t_3 h
    obtain ⟨hz, h⟩ := h
    exact Ev_ret dX2_isUpright_20 hz (poI_mk h)
  · intro K_4 hK_4 h
    refine Ev_icmp_ne (tgt := 19) dX2_isUpright_12 (by decide) (fun hc => ?_) (fun hc => ?_)
    · replace h := h.1 hc
      refine Ev_iconst (v := 0) dX2_isUpright_19 rfl ⟨by decide, by decide⟩ ?_
      refine Ev_sub [] rfl ?_
      exact hK_4 _ h
    · replace h := h.2 hc
      refine Ev_iconst (v := 1) dX2_isUpright_15 rfl ⟨by decide, by decide⟩ ?_
      refine Ev_goto (tgt := 20) dX2_isUpright_16 (by decide) ?_
      refine Ev_sub [] rfl ?_
      exact hK_4 _ h
theorem k_X2_remove_1 {s : Sg} {v1 : Int} {post : Sg → Prop} (h : w_X2_remove s 1 v1 post) : EvM mX2_remove 1 [(2, 1), (0, v1)] s (poV post) := by
  refine EvM_of rfl (by decide +kernel) (Nat.le_of_ble_eq_true rfl) ?_
  unfold w_X2_remove at h
  show Ev mX2_remove 1 0 [(0, (2, 1)), (1, (0, v1))] [] s (poV post)
  refine Ev_aload_n dX2_remove_0 0 rfl ?_
  refine Ev_iload_n dX2_remove_1 1 rfl ?_
  refine Ev_invV (d' := 0) [(0, v1)] 1 dX2_remove_2 M_X2_has q_417 (by decide) rfl rfl sh_1 rfl (Nat.le_of_ble_eq_true rfl) (k_X2_has_1 h) ?_
  rintro _ _ ⟨rfl, r_1, rfl, h⟩
  refine Ev_if_ne (tgt := 9) dX2_remove_5 (by decide) (fun hc => ?_) (fun hc => ?_)
  · replace h := h.1 hc
    refine Ev_iload_n dX2_remove_9 1 rfl ?_
    refine Ev_istore_n dX2_remove_10 (by decide) rfl ?_
    refine Ev_sub [1, 0] rfl ?_
    refine li_1s (P := fun (v2_2 : Int) (s_3 : Sg) => Ev mX2_remove 1 11 [(0, (2, 1)), (2, (0, v2_2))] [] s_3 (poV post)) ?_ h
    intro again_4 v2_2 s_3 hagain_4 h
    refine Ev_iload_n dX2_remove_11 1 rfl ?_
    refine Ev_iconst (v := 1) dX2_remove_12 rfl ⟨by decide, by decide⟩ ?_
    refine Ev_iadd dX2_remove_13 ?_
    refine Ev_aload_n dX2_remove_14 0 rfl ?_
    refine Ev_geti 1 dX2_remove_15 f_RX2_24 rfl sh_1 ?_
    refine Ev_icmp_ge (tgt := 83) dX2_remove_18 (by decide) (fun hc => ?_) (fun hc => ?_)
    · replace h := h.1 hc
      refine Ev_aload_n dX2_remove_83 0 rfl ?_
      refine Ev_dup dX2_remove_84 (show ¬ (2 : Nat) = 1 by decide) ?_
      refine Ev_geti 1 dX2_remove_85 f_RX2_24 rfl sh_1 ?_
      refine Ev_iconst (v := 1) dX2_remove_88 rfl ⟨by decide, by decide⟩ ?_
      refine Ev_isub dX2_remove_89 ?_
      obtain ⟨s_5, es_5⟩ : ∃ z : Sg, z = (up s_3 1 0 (w32 ((s_3 1 0) - 1))) := ⟨_, rfl⟩
      replace h := h s_5 es_5
      refine Ev_puti 1 dX2_remove_90 fp_RX2_24 rfl sh_1 ?_
      rw [← es_5]
      exact Ev_retv dX2_remove_93 rfl (poV_mk h)
    · replace h := h.2 hc
      refine Ev_aload_n dX2_remove_21 0 rfl ?_
      refine Ev_getr 1 (2) dX2_remove_22 f_RX2_9 rfl sh_1 rfl ?_
      refine Ev_iload_n dX2_remove_25 1 rfl ?_
      refine Ev_aload_n dX2_remove_26 0 rfl ?_
      refine Ev_getr 1 (2) dX2_remove_27 f_RX2_9 rfl sh_1 rfl ?_
      refine Ev_iload_n dX2_remove_30 1 rfl ?_
      refine Ev_iconst (v := 1) dX2_remove_31 rfl ⟨by decide, by decide⟩ ?_
      refine Ev_iadd dX2_remove_32 ?_
      obtain ⟨hb_6, h⟩ := h
      refine Ev_iald (2) dX2_remove_33 rfl sh_2 hb_6 ?_
      obtain ⟨hb_7, h⟩ := h
      obtain ⟨s_8, es_8⟩ : ∃ z : Sg, z = (up s_3 2 (v2_2.toNat) (s_3 2 (w32 (v2_2 + 1)).toNat)) := ⟨_, rfl⟩
      replace h := h s_8 es_8
      refine Ev_iast (2) dX2_remove_34 rfl sh_2 hb_7 ?_
      rw [← es_8]
      refine Ev_aload_n dX2_remove_35 0 rfl ?_
      refine Ev_getr 1 (3) dX2_remove_36 f_RX2_15 rfl sh_1 rfl ?_
      refine Ev_iload_n dX2_remove_39 1 rfl ?_
      refine Ev_aload_n dX2_remove_40 0 rfl ?_
      refine Ev_getr 1 (3) dX2_remove_41 f_RX2_15 rfl sh_1 rfl ?_
      refine Ev_iload_n dX2_remove_44 1 rfl ?_
      refine Ev_iconst (v := 1) dX2_remove_45 rfl ⟨by decide, by decide⟩ ?_
      refine Ev_iadd dX2_remove_46 ?_
      obtain ⟨hb_9, h⟩ := h
      refine Ev_iald (3) dX2_remove_47 rfl sh_3 hb_9 ?_
      obtain ⟨hb_10, h⟩ := h
      obtain ⟨s_11, es_11⟩ : ∃ z : Sg, z = (up s_8 3 (v2_2.toNat) (s_8 3 (w32 (v2_2 + 1)).toNat)) := ⟨_, rfl⟩
      replace h := h s_11 es_11
      refine Ev_iast (3) dX2_remove_48 rfl sh_3 hb_10 ?_
      rw [← es_11]
      refine Ev_aload_n dX2_remove_49 0 rfl ?_
      refine Ev_getr 1 (4) dX2_remove_50 f_RX2_18 rfl sh_1 rfl ?_
      refine Ev_iload_n dX2_remove_53 1 rfl ?_
      refine Ev_aload_n dX2_remove_54 0 rfl ?_
      refine Ev_getr 1 (4) dX2_remove_55 f_RX2_18 rfl sh_1 rfl ?_
      refine Ev_iload_n dX2_remove_58 1 rfl ?_
      refine Ev_iconst (v := 1) dX2_remove_59 rfl ⟨by decide, by decide⟩ ?_
      refine Ev_iadd dX2_remove_60 ?_
      obtain ⟨hb_12, h⟩ := h
      refine Ev_iald (4) dX2_remove_61 rfl sh_4 hb_12 ?_
      obtain ⟨hb_13, h⟩ := h
      obtain ⟨s_14, es_14⟩ : ∃ z : Sg, z = (up s_11 4 (v2_2.toNat) (s_11 4 (w32 (v2_2 + 1)).toNat)) := ⟨_, rfl⟩
      replace h := h s_14 es_14
      refine Ev_iast (4) dX2_remove_62 rfl sh_4 hb_13 ?_
      rw [← es_14]
      refine Ev_aload_n dX2_remove_63 0 rfl ?_
      refine Ev_getr 1 (5) dX2_remove_64 f_RX2_21 rfl sh_1 rfl ?_
      refine Ev_iload_n dX2_remove_67 1 rfl ?_
      refine Ev_aload_n dX2_remove_68 0 rfl ?_
      refine Ev_getr 1 (5) dX2_remove_69 f_RX2_21 rfl sh_1 rfl ?_
      refine Ev_iload_n dX2_remove_72 1 rfl ?_
      refine Ev_iconst (v := 1) dX2_remove_73 rfl ⟨by decide, by decide⟩ ?_
      refine Ev_iadd dX2_remove_74 ?_
      obtain ⟨hb_15, h⟩ := h
      refine Ev_iald (5) dX2_remove_75 rfl sh_5 hb_15 ?_
      obtain ⟨hb_16, h⟩ := h
      obtain ⟨s_17, es_17⟩ : ∃ z : Sg, z = (up s_14 5 (v2_2.toNat) (s_14 5 (w32 (v2_2 + 1)).toNat)) := ⟨_, rfl⟩
      replace h := h s_17 es_17
      refine Ev_iast (5) dX2_remove_76 rfl sh_5 hb_16 ?_
      rw [← es_17]
      obtain ⟨v2_18, ev2_18⟩ : ∃ z : Int, z = w32 (v2_2 + 1) := ⟨_, rfl⟩
      replace h := h v2_18 ev2_18
      refine Ev_iinc (v := v2_18) dX2_remove_77 1 rfl ev2_18.symm (by decide) rfl ?_
      refine Ev_goto (tgt := 11) dX2_remove_80 (by decide) ?_
      refine Ev_sub [1, 0] rfl ?_
      exact hagain_4 _ _ h
  · replace h := h.2 hc
    exact Ev_retv dX2_remove_8 rfl (poV_mk h)
theorem k_X2_remove_11 {s : Sg} {v1 : Int} {post : Sg → Prop} (h : w_X2_remove s 11 v1 post) : EvM mX2_remove 1 [(2, 11), (0, v1)] s (poV post) := by
  refine EvM_of rfl (by decide +kernel) (Nat.le_of_ble_eq_true rfl) ?_
  unfold w_X2_remove at h
  show Ev mX2_remove 1 0 [(0, (2, 11)), (1, (0, v1))] [] s (poV post)
  refine Ev_aload_n dX2_remove_0 0 rfl ?_
  refine Ev_iload_n dX2_remove_1 1 rfl ?_
  refine Ev_invV (d' := 0) [(0, v1)] 11 dX2_remove_2 M_X2_has q_417 (by decide) rfl rfl sh_11 rfl (Nat.le_of_ble_eq_true rfl) (k_X2_has_11 h) ?_
  rintro _ _ ⟨rfl, r_1, rfl, h⟩
  refine Ev_if_ne (tgt := 9) dX2_remove_5 (by decide) (fun hc => ?_) (fun hc => ?_)
  · replace h := h.1 hc
    refine Ev_iload_n dX2_remove_9 1 rfl ?_
    refine Ev_istore_n dX2_remove_10 (by decide) rfl ?_
    refine Ev_sub [1, 0] rfl ?_
    refine li_1s (P := fun (v2_2 : Int) (s_3 : Sg) => Ev mX2_remove 1 11 [(0, (2, 11)), (2, (0, v2_2))] [] s_3 (poV post)) ?_ h
    intro again_4 v2_2 s_3 hagain_4 h
    refine Ev_iload_n dX2_remove_11 1 rfl ?_
    refine Ev_iconst (v := 1) dX2_remove_12 rfl ⟨by decide, by decide⟩ ?_
    refine Ev_iadd dX2_remove_13 ?_
    refine Ev_aload_n dX2_remove_14 0 rfl ?_
    refine Ev_geti 11 dX2_remove_15 f_RX2_24 rfl sh_11 ?_
    refine Ev_icmp_ge (tgt := 83) dX2_remove_18 (by decide) (fun hc => ?_) (fun hc => ?_)
    · replace h := h.1 hc
      refine Ev_aload_n dX2_remove_83 0 rfl ?_
      refine Ev_dup dX2_remove_84 (show ¬ (2 : Nat) = 1 by decide) ?_
      refine Ev_geti 11 dX2_remove_85 f_RX2_24 rfl sh_11 ?_
      refine Ev_iconst (v := 1) dX2_remove_88 rfl ⟨by decide, by decide⟩ ?_
      refine Ev_isub dX2_remove_89 ?_
      obtain ⟨s_5, es_5⟩ : ∃ z : Sg, z = (up s_3 11 0 (w32 ((s_3 11 0) - 1))) := ⟨_, rfl⟩
      replace h := h s_5 es_5
      refine Ev_puti 11 dX2_remove_90 fp_RX2_24 rfl sh_11 ?_
      rw [← es_5]
      exact Ev_retv dX2_remove_93 rfl (poV_mk h)
    · replace h := h.2 hc
      refine Ev_aload_n dX2_remove_21 0 rfl ?_
      refine Ev_getr 11 (12) dX2_remove_22 f_RX2_9 rfl sh_11 rfl ?_
      refine Ev_iload_n dX2_remove_25 1 rfl ?_
      refine Ev_aload_n dX2_remove_26 0 rfl ?_
      refine Ev_getr 11 (12) dX2_remove_27 f_RX2_9 rfl sh_11 rfl ?_
      refine Ev_iload_n dX2_remove_30 1 rfl ?_
      refine Ev_iconst (v := 1) dX2_remove_31 rfl ⟨by decide, by decide⟩ ?_
      refine Ev_iadd dX2_remove_32 ?_
      obtain ⟨hb_6, h⟩ := h
      refine Ev_iald (12) dX2_remove_33 rfl sh_12 hb_6 ?_
      obtain ⟨hb_7, h⟩ := h
      obtain ⟨s_8, es_8⟩ : ∃ z : Sg, z = (up s_3 12 (v2_2.toNat) (s_3 12 (w32 (v2_2 + 1)).toNat)) := ⟨_, rfl⟩
      replace h := h s_8 es_8
      refine Ev_iast (12) dX2_remove_34 rfl sh_12 hb_7 ?_
      rw [← es_8]
      refine Ev_aload_n dX2_remove_35 0 rfl ?_
      refine Ev_getr 11 (13) dX2_remove_36 f_RX2_15 rfl sh_11 rfl ?_
      refine Ev_iload_n dX2_remove_39 1 rfl ?_
      refine Ev_aload_n dX2_remove_40 0 rfl ?_
      refine Ev_getr 11 (13) dX2_remove_41 f_RX2_15 rfl sh_11 rfl ?_
      refine Ev_iload_n dX2_remove_44 1 rfl ?_
      refine Ev_iconst (v := 1) dX2_remove_45 rfl ⟨by decide, by decide⟩ ?_
      refine Ev_iadd dX2_remove_46 ?_
      obtain ⟨hb_9, h⟩ := h
      refine Ev_iald (13) dX2_remove_47 rfl sh_13 hb_9 ?_
      obtain ⟨hb_10, h⟩ := h
      obtain ⟨s_11, es_11⟩ : ∃ z : Sg, z = (up s_8 13 (v2_2.toNat) (s_8 13 (w32 (v2_2 + 1)).toNat)) := ⟨_, rfl⟩
      replace h := h s_11 es_11
      refine Ev_iast (13) dX2_remove_48 rfl sh_13 hb_10 ?_
      rw [← es_11]
      refine Ev_aload_n dX2_remove_49 0 rfl ?_
      refine Ev_getr 11 (14) dX2_remove_50 f_RX2_18 rfl sh_11 rfl ?_
      refine Ev_iload_n dX2_remove_53 1 rfl ?_
      refine Ev_aload_n dX2_remove_54 0 rfl ?_
      refine Ev_getr 11 (14) dX2_remove_55 f_RX2_18 rfl sh_11 rfl ?_
      refine Ev_iload_n dX2_remove_58 1 rfl ?_
      refine Ev_iconst (v := 1) dX2_remove_59 rfl ⟨by decide, by decide⟩ ?_
      refine Ev_iadd dX2_remove_60 ?_
      obtain ⟨hb_12, h⟩ := h
      refine Ev_iald (14) dX2_remove_61 rfl sh_14 hb_12 ?_
      obtain ⟨hb_13, h⟩ := h
      obtain ⟨s_14, es_14⟩ : ∃ z : Sg, z = (up s_11 14 (v2_2.toNat) (s_11 14 (w32 (v2_2 + 1)).toNat)) := ⟨_, rfl⟩
      replace h := h s_14 es_14
      refine Ev_iast (14) dX2_remove_62 rfl sh_14 hb_13 ?_
      rw [← es_14]
      refine Ev_aload_n dX2_remove_63 0 rfl ?_
      refine Ev_getr 11 (15) dX2_remove_64 f_RX2_21 rfl sh_11 rfl ?_
      refine Ev_iload_n dX2_remove_67 1 rfl ?_
      refine Ev_aload_n dX2_remove_68 0 rfl ?_
      refine Ev_getr 11 (15) dX2_remove_69 f_RX2_21 rfl sh_11 rfl ?_
      refine Ev_iload_n dX2_remove_72 1 rfl ?_
      refine Ev_iconst (v := 1) dX2_remove_73 rfl ⟨by decide, by decide⟩ ?_
      refine Ev_iadd dX2_remove_74 ?_
      obtain ⟨hb_15, h⟩ := h
      refine Ev_iald (15) dX2_remove_75 rfl sh_15 hb_15 ?_
      obtain ⟨hb_16, h⟩ := h
      obtain ⟨s_17, es_17⟩ : ∃ z : Sg, z = (up s_14 15 (v2_2.toNat) (s_14 15 (w32 (v2_2 + 1)).toNat)) := ⟨_, rfl⟩
      replace h := h s_17 es_17
      refine Ev_iast (15) dX2_remove_76 rfl sh_15 hb_16 ?_
      rw [← es_17]
      obtain ⟨v2_18, ev2_18⟩ : ∃ z : Int, z = w32 (v2_2 + 1) := ⟨_, rfl⟩
      replace h := h v2_18 ev2_18
      refine Ev_iinc (v := v2_18) dX2_remove_77 1 rfl ev2_18.symm (by decide) rfl ?_
      refine Ev_goto (tgt := 11) dX2_remove_80 (by decide) ?_
      refine Ev_sub [1, 0] rfl ?_
      exact hagain_4 _ _ h
  · replace h := h.2 hc
    exact Ev_retv dX2_remove_8 rfl (poV_mk h)
theorem k_X3_isAhead {s : Sg} {v0 v1 v2 v3 : Int} {post : Int → Prop} (h : w_X3_isAhead v0 v1 v2 v3 post) : EvM mX3_isAhead 0 [(0, v0), (0, v1), (0, v2), (0, v3)] s (poI 0 s post) := by
  refine EvM_of rfl (by decide +kernel) (Nat.le_of_ble_eq_true rfl) ?_
  unfold w_X3_isAhead at h
  show Ev mX3_isAhead 0 0 [(0, (0, v0)), (1, (0, v1)), (2, (0, v2)), (3, (0, v3))] [] s (poI 0 s post)
  refine Ev_iload_n dX3_isAhead_0 0 rfl ?_
  refine Ev_iload_n dX3_isAhead_1 2 rfl ?_
  refine jc_1 (P := fun (t_1 : Int) => Ev mX3_isAhead 0 20 [] [(0, t_1)] s (poI 0 s post)) h ?_ ?_
  · intro t_1 h
    obtain ⟨hz, h⟩ := h
    exact Ev_ret dX3_isAhead_20 hz (poI_mk h)
  · intro K_2 hK_2 h
    refine jc_0 (P := Ev mX3_isAhead 0 15 [] [] s (poI 0 s post)) h ?_ ?_
    · intro  h
      refine Ev_iconst (v := 1) dX3_isAhead_15 rfl ⟨by decide, by decide⟩ ?_
      refine Ev_goto (tgt := 20) dX3_isAhead_16 (by decide) ?_
      exact hK_2 _ h
    · intro K_3 hK_3 h
      refine Ev_icmp_lt (tgt := 15) dX3_isAhead_2 (by decide) (fun hc => ?_) (fun hc => ?_)
      · replace h := h.1 hc
        refine Ev_sub [] rfl ?_
        exact hK_3 h
      · replace h := h.2 hc
        refine Ev_iload_n dX3_isAhead_5 0 rfl ?_
        refine Ev_iload_n dX3_isAhead_6 2 rfl ?_
        refine jc_0 (P := Ev mX3_isAhead 0 19 [] [] s (poI 0 s post)) h ?_ ?_
        · intro  h
          refine Ev_iconst (v := 0) dX3_isAhead_19 rfl ⟨by decide, by decide⟩ ?_
          exact hK_2 _ h
        · intro K_4 hK_4 h
          refine Ev_icmp_ne (tgt := 19) dX3_isAhead_7 (by decide) (fun hc => ?_) (fun hc => ?_)
          · replace h := h.1 hc
            refine Ev_sub [] rfl ?_
            exact hK_4 h
          · replace h := h.2 hc
            refine Ev_iload_n dX3_isAhead_10 1 rfl ?_
            refine Ev_iload_n dX3_isAhead_11 3 rfl ?_
            refine Ev_icmp_ge (tgt := 19) dX3_isAhead_12 (by decide) (fun hc => ?_) (fun hc => ?_)
            · replace h := h.1 hc
              refine Ev_sub [] rfl ?_
              exact hK_4 h
            · replace h := h.2 hc
              refine Ev_sub [] rfl ?_
              exact hK_3 h
