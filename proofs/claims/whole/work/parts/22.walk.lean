theorem k_X10_chance {s : Sg} {v1 v2 v3 v4 : Int} {post : Int → Sg → Prop} (h : w_X10_chance s v1 v2 v3 v4 post) : EvM mX10_chance 107 [(2, 68), (0, v1), (0, v2), (0, v3), (0, v4)] s (poIs 0 post) := by
  refine EvM_of rfl (by decide +kernel) (Nat.le_of_ble_eq_true rfl) ?_
  unfold w_X10_chance at h
  show Ev mX10_chance 107 0 [(0, (2, 68)), (1, (0, v1)), (2, (0, v2)), (3, (0, v3)), (4, (0, v4))] [] s (poIs 0 post)
  refine Ev_iload_n dX10_chance_0 2 rfl ?_
  refine Ev_iconst (v := 1) dX10_chance_1 rfl ⟨by decide, by decide⟩ ?_
  refine Ev_iconst (v := 5) dX10_chance_2 rfl ⟨by decide, by decide⟩ ?_
  refine Ev_invS (d' := 0) [(0, v2), (0, 1), (0, 5)] dX10_chance_3 M_X10_in (Or.inl q_1039) (by decide) rfl (Nat.le_of_ble_eq_true rfl) (k_X10_in h) ?_
  rintro _ _ ⟨rfl, r_1, rfl, h⟩
  refine jc_0 (P := Ev mX10_chance 107 29 [] [] s (poIs 0 post)) h ?_ ?_
  · intro  h
    refine Ev_bipush (v := -2) dX10_chance_29 (by decide +kernel) ?_
    exact Ev_ret dX10_chance_31 trivial (poIs_mk h)
  · intro K_2 hK_2 h
    refine Ev_if_eq (tgt := 29) dX10_chance_6 (by decide) (fun hc => ?_) (fun hc => ?_)
    · replace h := h.1 hc
      refine Ev_sub [] rfl ?_
      exact hK_2 h
    · replace h := h.2 hc
      refine Ev_iload_n dX10_chance_9 3 rfl ?_
      refine Ev_iconst (v := 0) dX10_chance_10 rfl ⟨by decide, by decide⟩ ?_
      refine Ev_bipush (v := 99) dX10_chance_11 (by decide +kernel) ?_
      refine Ev_invS (d' := 0) [(0, v3), (0, 0), (0, 99)] dX10_chance_13 M_X10_in (Or.inl q_1039) (by decide) rfl (Nat.le_of_ble_eq_true rfl) (k_X10_in h) ?_
      rintro _ _ ⟨rfl, r_3, rfl, h⟩
      refine Ev_if_eq (tgt := 29) dX10_chance_16 (by decide) (fun hc => ?_) (fun hc => ?_)
      · replace h := h.1 hc
        refine Ev_sub [] rfl ?_
        exact hK_2 h
      · replace h := h.2 hc
        refine Ev_iload dX10_chance_19 4 rfl ?_
        refine Ev_iconst (v := 0) dX10_chance_21 rfl ⟨by decide, by decide⟩ ?_
        refine Ev_iconst (v := 1) dX10_chance_22 rfl ⟨by decide, by decide⟩ ?_
        refine Ev_invS (d' := 0) [(0, v4), (0, 0), (0, 1)] dX10_chance_23 M_X10_in (Or.inl q_1039) (by decide) rfl (Nat.le_of_ble_eq_true rfl) (k_X10_in h) ?_
        rintro _ _ ⟨rfl, r_4, rfl, h⟩
        refine Ev_if_ne (tgt := 32) dX10_chance_26 (by decide) (fun hc => ?_) (fun hc => ?_)
        · replace h := h.1 hc
          refine Ev_iconst (v := 0) dX10_chance_32 rfl ⟨by decide, by decide⟩ ?_
          refine Ev_istore dX10_chance_33 (by decide) rfl ?_
          refine Ev_iconst (v := 0) dX10_chance_35 rfl ⟨by decide, by decide⟩ ?_
          refine Ev_istore dX10_chance_36 (by decide) rfl ?_
          refine Ev_sub [2, 3, 4, 5, 6, 1, 0] rfl ?_
          refine li_2s (P := fun (v5_5 v6_6 : Int) (s_7 : Sg) => Ev mX10_chance 107 38 [(0, (2, 68)), (1, (0, v1)), (2, (0, v2)), (3, (0, v3)), (4, (0, v4)), (5, (0, v5_5)), (6, (0, v6_6))] [] s_7 (poIs 0 post)) ?_ h
          intro again_8 v5_5 v6_6 s_7 hagain_8 h
          refine Ev_iload dX10_chance_38 6 rfl ?_
          refine Ev_iload_n dX10_chance_40 2 rfl ?_
          refine Ev_icmp_ge (tgt := 66) dX10_chance_41 (by decide) (fun hc => ?_) (fun hc => ?_)
          · replace h := h.1 hc
            refine Ev_iload dX10_chance_66 5 rfl ?_
            refine Ev_i2l dX10_chance_68 ?_
            refine Ev_iload_n dX10_chance_69 2 rfl ?_
            refine Ev_i2l dX10_chance_70 ?_
            refine Ev_iload dX10_chance_71 4 rfl ?_
            refine Ev_iconst (v := 1) dX10_chance_73 rfl ⟨by decide, by decide⟩ ?_
            refine jc_1 (P := fun (t_9 : Int) => Ev mX10_chance 107 82 [] [(0, t_9), (1, v2), (1, v5_5)] s_7 (poIs 0 post)) h ?_ ?_
            · intro t_9 h
              refine Ev_invS (d' := 101) [(1, v5_5), (1, v2), (0, t_9)] dX10_chance_82 M_X10_lowest (Or.inl q_1081) (by decide) rfl (Nat.le_of_ble_eq_true rfl) (k_X10_lowest h) ?_
              rintro _ _ ⟨rfl, r_11, rfl, h⟩
              refine Ev_l2i dX10_chance_85 ?_
              exact Ev_ret dX10_chance_86 trivial (poIs_mk h)
            · intro K_10 hK_10 h
              refine Ev_icmp_ne (tgt := 81) dX10_chance_74 (by decide) (fun hc => ?_) (fun hc => ?_)
              · replace h := h.1 hc
                refine Ev_iconst (v := 0) dX10_chance_81 rfl ⟨by decide, by decide⟩ ?_
                refine Ev_sub [] rfl ?_
                exact hK_10 _ h
              · replace h := h.2 hc
                refine Ev_iconst (v := 1) dX10_chance_77 rfl ⟨by decide, by decide⟩ ?_
                refine Ev_goto (tgt := 82) dX10_chance_78 (by decide) ?_
                refine Ev_sub [] rfl ?_
                exact hK_10 _ h
          · replace h := h.2 hc
            refine Ev_aload_n dX10_chance_44 0 rfl ?_
            refine Ev_iload_n dX10_chance_45 1 rfl ?_
            refine Ev_iload dX10_chance_46 6 rfl ?_
            refine Ev_iadd dX10_chance_48 ?_
            refine Ev_iconst (v := 3) dX10_chance_49 rfl ⟨by decide, by decide⟩ ?_
            refine Ev_invV (d' := 106) [(0, w32 (v1 + v6_6)), (0, 3)] 68 dX10_chance_50 M_X10_byLot q_1332 (by decide) rfl rfl sh_68 rfl (Nat.le_of_ble_eq_true rfl) (k_X10_byLot h) ?_
            rintro _ s_13 ⟨r_12, rfl, h⟩
            refine Ev_iload_n dX10_chance_53 3 rfl ?_
            refine jc_1 (P := fun (v5_14 : Int) => Ev mX10_chance 107 60 [(0, (2, 68)), (1, (0, v1)), (2, (0, v2)), (3, (0, v3)), (4, (0, v4)), (5, (0, v5_14)), (6, (0, v6_6))] [] s_13 (poIs 0 post)) h ?_ ?_
            · intro v5_14 h
              obtain ⟨v6_16, ev6_16⟩ : ∃ z : Int, z = w32 (v6_6 + 1) := ⟨_, rfl⟩
              replace h := h v6_16 ev6_16
              refine Ev_iinc (v := v6_16) dX10_chance_60 6 rfl ev6_16.symm (by decide) rfl ?_
              refine Ev_goto (tgt := 38) dX10_chance_63 (by decide) ?_
              refine Ev_sub [1, 2, 3, 4, 5, 6, 0] rfl ?_
              exact hagain_8 _ _ _ h
            · intro K_15 hK_15 h
              refine Ev_icmp_lt (tgt := 60) dX10_chance_54 (by decide) (fun hc => ?_) (fun hc => ?_)
              · replace h := h.1 hc
                exact hK_15 _ h
              · replace h := h.2 hc
                obtain ⟨v5_17, ev5_17⟩ : ∃ z : Int, z = w32 (v5_5 + 1) := ⟨_, rfl⟩
                replace h := h v5_17 ev5_17
                refine Ev_iinc (v := v5_17) dX10_chance_57 5 rfl ev5_17.symm (by decide) rfl ?_
                refine Ev_sub [1, 2, 3, 4, 5, 0, 6] rfl ?_
                exact hK_15 _ h
        · replace h := h.2 hc
          refine Ev_sub [] rfl ?_
          exact hK_2 h
theorem k_X10_isSheet {s : Sg} {v0 : Int} {post : Int → Prop} (h : w_X10_isSheet v0 post) : EvM mX10_isSheet 1 [(0, v0)] s (poI 0 s post) := by
  refine EvM_of rfl (by decide +kernel) (Nat.le_of_ble_eq_true rfl) ?_
  unfold w_X10_isSheet at h
  show Ev mX10_isSheet 1 0 [(0, (0, v0))] [] s (poI 0 s post)
  refine Ev_iload_n dX10_isSheet_0 0 rfl ?_
  refine Ev_iconst (v := 0) dX10_isSheet_1 rfl ⟨by decide, by decide⟩ ?_
  refine Ev_iconst (v := 3) dX10_isSheet_2 rfl ⟨by decide, by decide⟩ ?_
  refine Ev_invS (d' := 0) [(0, v0), (0, 0), (0, 3)] dX10_isSheet_3 M_X10_in (Or.inl q_1039) (by decide) rfl (Nat.le_of_ble_eq_true rfl) (k_X10_in h) ?_
  rintro _ _ ⟨rfl, r_1, rfl, h⟩
  obtain ⟨hz, h⟩ := h
  exact Ev_ret dX10_isSheet_6 hz (poI_mk h)
theorem k_X10_copy {s : Sg} {v1 v2 v3 v4 v5 : Int} {post : Int → Sg → Prop} (h : w_X10_copy s v1 v2 v3 v4 v5 post) : EvM mX10_copy 2 [(2, 68), (0, v1), (0, v2), (0, v3), (0, v4), (0, v5)] s (poIs 0 post) := by
  refine EvM_of rfl (by decide +kernel) (Nat.le_of_ble_eq_true rfl) ?_
  unfold w_X10_copy at h
  show Ev mX10_copy 2 0 [(0, (2, 68)), (1, (0, v1)), (2, (0, v2)), (3, (0, v3)), (4, (0, v4)), (5, (0, v5))] [] s (poIs 0 post)
  refine Ev_iload_n dX10_copy_0 1 rfl ?_
  refine Ev_invS (d' := 1) [(0, v1)] dX10_copy_1 M_X10_isSheet (Or.inl q_1350) (by decide) rfl (Nat.le_of_ble_eq_true rfl) (k_X10_isSheet h) ?_
  rintro _ _ ⟨rfl, r_1, rfl, h⟩
  refine jc_0 (P := Ev mX10_copy 2 14 [] [] s (poIs 0 post)) h ?_ ?_
  · intro  h
    refine Ev_bipush (v := -2) dX10_copy_14 (by decide +kernel) ?_
    exact Ev_ret dX10_copy_16 trivial (poIs_mk h)
  · intro K_2 hK_2 h
    refine Ev_if_eq (tgt := 14) dX10_copy_4 (by decide) (fun hc => ?_) (fun hc => ?_)
    · replace h := h.1 hc
      refine Ev_sub [] rfl ?_
      exact hK_2 h
    · replace h := h.2 hc
      refine Ev_iload_n dX10_copy_7 3 rfl ?_
      refine Ev_invS (d' := 1) [(0, v3)] dX10_copy_8 M_X10_isSheet (Or.inl q_1350) (by decide) rfl (Nat.le_of_ble_eq_true rfl) (k_X10_isSheet h) ?_
      rintro _ _ ⟨rfl, r_3, rfl, h⟩
      refine Ev_if_ne (tgt := 17) dX10_copy_11 (by decide) (fun hc => ?_) (fun hc => ?_)
      · replace h := h.1 hc
        refine Ev_aload_n dX10_copy_17 0 rfl ?_
        refine Ev_getr 68 (184) dX10_copy_18 f_RX10_97 rfl sh_68 rfl ?_
        refine Ev_iload_n dX10_copy_21 1 rfl ?_
        obtain ⟨hb_4, h⟩ := h
        refine Ev_iald (184) dX10_copy_22 rfl sh_184 hb_4 ?_
        refine jc_0 (P := Ev mX10_copy 2 35 [] [] s (poIs 0 post)) h ?_ ?_
        · intro  h
          refine Ev_bipush (v := -11) dX10_copy_35 (by decide +kernel) ?_
          exact Ev_ret dX10_copy_37 trivial (poIs_mk h)
        · intro K_5 hK_5 h
          refine Ev_if_lt (tgt := 35) dX10_copy_23 (by decide) (fun hc => ?_) (fun hc => ?_)
          · replace h := h.1 hc
            refine Ev_sub [] rfl ?_
            exact hK_5 h
          · replace h := h.2 hc
            refine Ev_aload_n dX10_copy_26 0 rfl ?_
            refine Ev_getr 68 (184) dX10_copy_27 f_RX10_97 rfl sh_68 rfl ?_
            refine Ev_iload_n dX10_copy_30 3 rfl ?_
            obtain ⟨hb_6, h⟩ := h
            refine Ev_iald (184) dX10_copy_31 rfl sh_184 hb_6 ?_
            refine Ev_if_ge (tgt := 38) dX10_copy_32 (by decide) (fun hc => ?_) (fun hc => ?_)
            · replace h := h.1 hc
              refine Ev_aload_n dX10_copy_38 0 rfl ?_
              refine Ev_getr 68 (184) dX10_copy_39 f_RX10_97 rfl sh_68 rfl ?_
              refine Ev_iload_n dX10_copy_42 1 rfl ?_
              obtain ⟨hb_7, h⟩ := h
              refine Ev_iald (184) dX10_copy_43 rfl sh_184 hb_7 ?_
              refine Ev_aload_n dX10_copy_44 0 rfl ?_
              refine Ev_getr 68 (184) dX10_copy_45 f_RX10_97 rfl sh_68 rfl ?_
              refine Ev_iload_n dX10_copy_48 3 rfl ?_
              obtain ⟨hb_8, h⟩ := h
              refine Ev_iald (184) dX10_copy_49 rfl sh_184 hb_8 ?_
              refine Ev_icmp_eq (tgt := 56) dX10_copy_50 (by decide) (fun hc => ?_) (fun hc => ?_)
              · replace h := h.1 hc
                refine Ev_iload dX10_copy_56 5 rfl ?_
                refine jc_0 (P := Ev mX10_copy 2 97 [] [] s (poIs 0 post)) h ?_ ?_
                · intro  h
                  refine Ev_bipush (v := -12) dX10_copy_97 (by decide +kernel) ?_
                  exact Ev_ret dX10_copy_99 trivial (poIs_mk h)
                · intro K_9 hK_9 h
                  refine Ev_if_lt (tgt := 97) dX10_copy_58 (by decide) (fun hc => ?_) (fun hc => ?_)
                  · replace h := h.1 hc
                    refine Ev_sub [] rfl ?_
                    exact hK_9 h
                  · replace h := h.2 hc
                    refine Ev_iload_n dX10_copy_61 2 rfl ?_
                    refine Ev_if_lt (tgt := 97) dX10_copy_62 (by decide) (fun hc => ?_) (fun hc => ?_)
                    · replace h := h.1 hc
                      refine Ev_sub [] rfl ?_
                      exact hK_9 h
                    · replace h := h.2 hc
                      refine Ev_iload dX10_copy_65 4 rfl ?_
                      refine Ev_if_lt (tgt := 97) dX10_copy_67 (by decide) (fun hc => ?_) (fun hc => ?_)
                      · replace h := h.1 hc
                        refine Ev_sub [] rfl ?_
                        exact hK_9 h
                      · replace h := h.2 hc
                        refine Ev_iload_n dX10_copy_70 2 rfl ?_
                        refine Ev_aload_n dX10_copy_71 0 rfl ?_
                        refine Ev_getr 68 (185) dX10_copy_72 f_RX10_100 rfl sh_68 rfl ?_
                        refine Ev_iload_n dX10_copy_75 1 rfl ?_
                        obtain ⟨hb_10, h⟩ := h
                        refine Ev_iald (185) dX10_copy_76 rfl sh_185 hb_10 ?_
                        refine Ev_iload dX10_copy_77 5 rfl ?_
                        refine Ev_isub dX10_copy_79 ?_
                        refine Ev_icmp_gt (tgt := 97) dX10_copy_80 (by decide) (fun hc => ?_) (fun hc => ?_)
                        · replace h := h.1 hc
                          refine Ev_sub [] rfl ?_
                          exact hK_9 h
                        · replace h := h.2 hc
                          refine Ev_iload dX10_copy_83 4 rfl ?_
                          refine Ev_aload_n dX10_copy_85 0 rfl ?_
                          refine Ev_getr 68 (185) dX10_copy_86 f_RX10_100 rfl sh_68 rfl ?_
                          refine Ev_iload_n dX10_copy_89 3 rfl ?_
                          obtain ⟨hb_11, h⟩ := h
                          refine Ev_iald (185) dX10_copy_90 rfl sh_185 hb_11 ?_
                          refine Ev_iload dX10_copy_91 5 rfl ?_
                          refine Ev_isub dX10_copy_93 ?_
                          refine Ev_icmp_le (tgt := 100) dX10_copy_94 (by decide) (fun hc => ?_) (fun hc => ?_)
                          · replace h := h.1 hc
                            refine Ev_aload_n dX10_copy_100 0 rfl ?_
                            refine Ev_getr 68 (186) dX10_copy_101 f_RX10_103 rfl sh_68 rfl ?_
                            refine Ev_iload_n dX10_copy_104 1 rfl ?_
                            obtain ⟨hb_12, h⟩ := h
                            refine Ev_aaldi 186 (((187 + v1.toNat : Nat) : Int)) dX10_copy_105 rfl sh_186 hb_12 (rr_186 hb_12).symm ?_
                            refine Ev_iload_n dX10_copy_106 2 rfl ?_
                            refine Ev_aload_n dX10_copy_107 0 rfl ?_
                            refine Ev_getr 68 (191) dX10_copy_108 f_RX10_106 rfl sh_68 rfl ?_
                            refine Ev_iconst (v := 0) dX10_copy_111 rfl ⟨by decide, by decide⟩ ?_
                            refine Ev_iload dX10_copy_112 5 rfl ?_
                            obtain ⟨hb_13, h⟩ := h
                            obtain ⟨s_14, es_14⟩ : ∃ z : Sg, z = (cpy s (187 + v1.toNat) v2 191 0 v5) := ⟨_, rfl⟩
                            replace h := h s_14 es_14
                            refine Ev_copy (187 + v1.toNat) (191) dX10_copy_114 ⟨q_1315, q_869, q_868, q_15⟩ (by decide) (Nat.le_of_ble_eq_true rfl) rfl rfl (sr_186 hb_12) sh_191 hb_13 ?_
                            rw [← es_14]
                            refine Ev_aload_n dX10_copy_117 0 rfl ?_
                            refine Ev_getr 68 (191) dX10_copy_118 f_RX10_106 rfl sh_68 rfl ?_
                            refine Ev_iconst (v := 0) dX10_copy_121 rfl ⟨by decide, by decide⟩ ?_
                            refine Ev_aload_n dX10_copy_122 0 rfl ?_
                            refine Ev_getr 68 (186) dX10_copy_123 f_RX10_103 rfl sh_68 rfl ?_
                            refine Ev_iload_n dX10_copy_126 3 rfl ?_
                            obtain ⟨hb_15, h⟩ := h
                            refine Ev_aaldi 186 (((187 + v3.toNat : Nat) : Int)) dX10_copy_127 rfl sh_186 hb_15 (rr_186 hb_15).symm ?_
                            refine Ev_iload dX10_copy_128 4 rfl ?_
                            refine Ev_iload dX10_copy_130 5 rfl ?_
                            obtain ⟨hb_16, h⟩ := h
                            obtain ⟨s_17, es_17⟩ : ∃ z : Sg, z = (cpy s_14 191 0 (187 + v3.toNat) v4 v5) := ⟨_, rfl⟩
                            replace h := h s_17 es_17
                            refine Ev_copy (191) (187 + v3.toNat) dX10_copy_132 ⟨q_1315, q_869, q_868, q_15⟩ (by decide) (Nat.le_of_ble_eq_true rfl) rfl rfl sh_191 (sr_186 hb_15) hb_16 ?_
                            rw [← es_17]
                            refine Ev_iload dX10_copy_135 5 rfl ?_
                            exact Ev_ret dX10_copy_137 trivial (poIs_mk h)
                          · replace h := h.2 hc
                            refine Ev_sub [] rfl ?_
                            exact hK_9 h
              · replace h := h.2 hc
                refine Ev_bipush (v := -13) dX10_copy_53 (by decide +kernel) ?_
                exact Ev_ret dX10_copy_55 trivial (poIs_mk h)
            · replace h := h.2 hc
              refine Ev_sub [] rfl ?_
              exact hK_5 h
      · replace h := h.2 hc
        refine Ev_sub [] rfl ?_
        exact hK_2 h
theorem k_X10_isOn {s : Sg} {v1 v2 v4 v6 v8 : Int} {post : Int → Prop} (h : w_X10_isOn s v1 v2 v4 v6 v8 post) : EvM mX10_isOn 1 [(2, 68), (0, v1), (1, v2), (1, v4), (1, v6), (1, v8)] s (poI 0 s post) := by
  refine EvM_of rfl (by decide +kernel) (Nat.le_of_ble_eq_true rfl) ?_
  unfold w_X10_isOn at h
  show Ev mX10_isOn 1 0 [(0, (2, 68)), (1, (0, v1)), (2, (1, v2)), (4, (1, v4)), (6, (1, v6)), (8, (1, v8))] [] s (poI 0 s post)
  refine Ev_aload_n dX10_isOn_0 0 rfl ?_
  refine Ev_getr 68 (71) dX10_isOn_1 f_RX10_16 rfl sh_68 rfl ?_
  refine Ev_iload_n dX10_isOn_4 1 rfl ?_
  obtain ⟨hb_1, h⟩ := h
  refine Ev_iald (71) dX10_isOn_5 rfl sh_71 hb_1 ?_
  refine Ev_aload_n dX10_isOn_6 0 rfl ?_
  refine Ev_getr 68 (69) dX10_isOn_7 f_RX10_9 rfl sh_68 rfl ?_
  refine Ev_iload_n dX10_isOn_10 1 rfl ?_
  obtain ⟨hb_2, h⟩ := h
  refine Ev_iald (69) dX10_isOn_11 rfl sh_69 hb_2 ?_
  refine Ev_isub dX10_isOn_12 ?_
  obtain ⟨v10_3, ev10_3⟩ : ∃ z : Int, z = w32 ((s 71 v1.toNat) - (s 69 v1.toNat)) := ⟨_, rfl⟩
  replace h := h v10_3 ev10_3
  rw [← ev10_3]
  refine Ev_istore dX10_isOn_13 (by decide) rfl ?_
  refine Ev_aload_n dX10_isOn_15 1 rfl ?_
  refine Ev_getr 68 (72) dX10_isOn_16 f_RX10_19 rfl sh_68 rfl ?_
  refine Ev_iload_n dX10_isOn_19 2 rfl ?_
  obtain ⟨hb_4, h⟩ := h
  refine Ev_iald (72) dX10_isOn_20 rfl sh_72 hb_4 ?_
  refine Ev_aload_n dX10_isOn_21 1 rfl ?_
  refine Ev_getr 68 (70) dX10_isOn_22 f_RX10_13 rfl sh_68 rfl ?_
  refine Ev_iload_n dX10_isOn_25 2 rfl ?_
  obtain ⟨hb_5, h⟩ := h
  refine Ev_iald (70) dX10_isOn_26 rfl sh_70 hb_5 ?_
  refine Ev_isub dX10_isOn_27 ?_
  obtain ⟨v11_6, ev11_6⟩ : ∃ z : Int, z = w32 ((s 72 v1.toNat) - (s 70 v1.toNat)) := ⟨_, rfl⟩
  replace h := h v11_6 ev11_6
  rw [← ev11_6]
  refine Ev_istore dX10_isOn_28 (by decide) rfl ?_
  refine Ev_lload_n dX10_isOn_30 4 rfl ?_
  refine Ev_aload_n dX10_isOn_31 2 rfl ?_
  refine Ev_getr 68 (69) dX10_isOn_32 f_RX10_9 rfl sh_68 rfl ?_
  refine Ev_iload_n dX10_isOn_35 3 rfl ?_
  obtain ⟨hb_7, h⟩ := h
  refine Ev_iald (69) dX10_isOn_36 rfl sh_69 hb_7 ?_
  refine Ev_i2l dX10_isOn_37 ?_
  refine Ev_lload dX10_isOn_38 5 rfl ?_
  refine Ev_lmul dX10_isOn_40 ?_
  refine Ev_lsub dX10_isOn_41 ?_
  refine Ev_iload dX10_isOn_42 0 rfl ?_
  refine Ev_i2l dX10_isOn_44 ?_
  refine Ev_lmul dX10_isOn_45 ?_
  refine Ev_lload dX10_isOn_46 7 rfl ?_
  refine Ev_lmul dX10_isOn_48 ?_
  refine Ev_lload dX10_isOn_49 6 rfl ?_
  refine Ev_aload_n dX10_isOn_51 2 rfl ?_
  refine Ev_getr 68 (70) dX10_isOn_52 f_RX10_13 rfl sh_68 rfl ?_
  refine Ev_iload_n dX10_isOn_55 3 rfl ?_
  obtain ⟨hb_8, h⟩ := h
  refine Ev_iald (70) dX10_isOn_56 rfl sh_70 hb_8 ?_
  refine Ev_i2l dX10_isOn_57 ?_
  refine Ev_lload dX10_isOn_58 7 rfl ?_
  refine Ev_lmul dX10_isOn_60 ?_
  refine Ev_lsub dX10_isOn_61 ?_
  refine Ev_iload dX10_isOn_62 1 rfl ?_
  refine Ev_i2l dX10_isOn_64 ?_
  refine Ev_lmul dX10_isOn_65 ?_
  refine Ev_lload dX10_isOn_66 5 rfl ?_
  refine Ev_lmul dX10_isOn_68 ?_
  refine Ev_lcmp dX10_isOn_69 ?_
  refine Ev_if_eq (tgt := 75) dX10_isOn_70 (by decide) (fun hc => ?_) (fun hc => ?_)
  · replace h := h.1 (lcmp_eq.mp hc)
    refine Ev_aload_n dX10_isOn_75 2 rfl ?_
    refine Ev_getr 68 (70) dX10_isOn_76 f_RX10_13 rfl sh_68 rfl ?_
    refine Ev_iload_n dX10_isOn_79 3 rfl ?_
    obtain ⟨hb_9, h⟩ := h
    refine Ev_iald (70) dX10_isOn_80 rfl sh_70 hb_9 ?_
    refine Ev_aload_n dX10_isOn_81 2 rfl ?_
    refine Ev_getr 68 (72) dX10_isOn_82 f_RX10_19 rfl sh_68 rfl ?_
    refine Ev_iload_n dX10_isOn_85 3 rfl ?_
    obtain ⟨hb_10, h⟩ := h
    refine Ev_iald (72) dX10_isOn_86 rfl sh_72 hb_10 ?_
    refine Ev_min dX10_isOn_87 ⟨q_1121, q_505, q_12, q_506⟩ (by decide) (Nat.le_of_ble_eq_true rfl) ?_
    obtain ⟨v12_11, ev12_11⟩ : ∃ z : Int, z = (if s 72 v1.toNat < s 70 v1.toNat then s 72 v1.toNat else s 70 v1.toNat) := ⟨_, rfl⟩
    replace h := h v12_11 ev12_11
    rw [← ev12_11]
    refine Ev_istore dX10_isOn_90 (by decide) rfl ?_
    refine Ev_aload_n dX10_isOn_92 3 rfl ?_
    refine Ev_getr 68 (70) dX10_isOn_93 f_RX10_13 rfl sh_68 rfl ?_
    refine Ev_iload_n dX10_isOn_96 4 rfl ?_
    obtain ⟨hb_12, h⟩ := h
    refine Ev_iald (70) dX10_isOn_97 rfl sh_70 hb_12 ?_
    refine Ev_aload_n dX10_isOn_98 3 rfl ?_
    refine Ev_getr 68 (72) dX10_isOn_99 f_RX10_19 rfl sh_68 rfl ?_
    refine Ev_iload_n dX10_isOn_102 4 rfl ?_
    obtain ⟨hb_13, h⟩ := h
    refine Ev_iald (72) dX10_isOn_103 rfl sh_72 hb_13 ?_
    refine Ev_max dX10_isOn_104 ⟨q_1122, q_508, q_12, q_509⟩ (by decide) (Nat.le_of_ble_eq_true rfl) ?_
    obtain ⟨v13_14, ev13_14⟩ : ∃ z : Int, z = (if s 70 v1.toNat < s 72 v1.toNat then s 72 v1.toNat else s 70 v1.toNat) := ⟨_, rfl⟩
    replace h := h v13_14 ev13_14
    rw [← ev13_14]
    refine Ev_istore dX10_isOn_107 (by decide) rfl ?_
    refine Ev_lload_n dX10_isOn_109 6 rfl ?_
    refine Ev_aload_n dX10_isOn_110 4 rfl ?_
    refine Ev_getr 68 (69) dX10_isOn_111 f_RX10_9 rfl sh_68 rfl ?_
    refine Ev_iload_n dX10_isOn_114 5 rfl ?_
    obtain ⟨hb_15, h⟩ := h
    refine Ev_iald (69) dX10_isOn_115 rfl sh_69 hb_15 ?_
    refine Ev_i2l dX10_isOn_116 ?_
    refine Ev_lload dX10_isOn_117 7 rfl ?_
    refine Ev_lmul dX10_isOn_119 ?_
    refine Ev_lcmp dX10_isOn_120 ?_
    refine jc_1 (P := fun (t_16 : Int) => Ev mX10_isOn 1 168 [] [(0, t_16)] s (poI 0 s post)) h ?_ ?_
    · intro t_16 h
      obtain ⟨hz, h⟩ := h
      exact Ev_ret dX10_isOn_168 hz (poI_mk h)
    · intro K_17 hK_17 h
      refine jc_0 (P := Ev mX10_isOn 1 167 [] [] s (poI 0 s post)) h ?_ ?_
      · intro  h
        refine Ev_iconst (v := 0) dX10_isOn_167 rfl ⟨by decide, by decide⟩ ?_
        exact hK_17 _ h
      · intro K_18 hK_18 h
        refine Ev_if_lt (tgt := 167) dX10_isOn_121 (by decide) (fun hc => ?_) (fun hc => ?_)
        · replace h := h.1 (lcmp_lt.mp hc)
          refine Ev_sub [] rfl ?_
          exact hK_18 h
        · replace h := h.2 (fun q => hc (lcmp_lt.mpr q))
          refine Ev_lload_n dX10_isOn_124 6 rfl ?_
          refine Ev_aload_n dX10_isOn_125 4 rfl ?_
          refine Ev_getr 68 (71) dX10_isOn_126 f_RX10_16 rfl sh_68 rfl ?_
          refine Ev_iload_n dX10_isOn_129 5 rfl ?_
          obtain ⟨hb_19, h⟩ := h
          refine Ev_iald (71) dX10_isOn_130 rfl sh_71 hb_19 ?_
          refine Ev_i2l dX10_isOn_131 ?_
          refine Ev_lload dX10_isOn_132 7 rfl ?_
          refine Ev_lmul dX10_isOn_134 ?_
          refine Ev_lcmp dX10_isOn_135 ?_
          refine Ev_if_gt (tgt := 167) dX10_isOn_136 (by decide) (fun hc => ?_) (fun hc => ?_)
          · replace h := h.1 (lcmp_gt.mp hc)
            refine Ev_sub [] rfl ?_
            exact hK_18 h
          · replace h := h.2 (fun q => hc (lcmp_gt.mpr q))
            refine Ev_lload dX10_isOn_139 8 rfl ?_
            refine Ev_iload dX10_isOn_141 1 rfl ?_
            refine Ev_i2l dX10_isOn_143 ?_
            refine Ev_lload dX10_isOn_144 9 rfl ?_
            refine Ev_lmul dX10_isOn_146 ?_
            refine Ev_lcmp dX10_isOn_147 ?_
            refine Ev_if_lt (tgt := 167) dX10_isOn_148 (by decide) (fun hc => ?_) (fun hc => ?_)
            · replace h := h.1 (lcmp_lt.mp hc)
              refine Ev_sub [] rfl ?_
              exact hK_18 h
            · replace h := h.2 (fun q => hc (lcmp_lt.mpr q))
              refine Ev_lload dX10_isOn_151 8 rfl ?_
              refine Ev_iload dX10_isOn_153 0 rfl ?_
              refine Ev_i2l dX10_isOn_155 ?_
              refine Ev_lload dX10_isOn_156 9 rfl ?_
              refine Ev_lmul dX10_isOn_158 ?_
              refine Ev_lcmp dX10_isOn_159 ?_
              refine Ev_if_gt (tgt := 167) dX10_isOn_160 (by decide) (fun hc => ?_) (fun hc => ?_)
              · replace h := h.1 (lcmp_gt.mp hc)
                refine Ev_sub [] rfl ?_
                exact hK_18 h
              · replace h := h.2 (fun q => hc (lcmp_gt.mpr q))
                refine Ev_iconst (v := 1) dX10_isOn_163 rfl ⟨by decide, by decide⟩ ?_
                refine Ev_goto (tgt := 168) dX10_isOn_164 (by decide) ?_
                refine Ev_sub [] rfl ?_
                exact hK_17 _ h
  · replace h := h.2 (fun q => hc (lcmp_eq.mpr q))
    refine Ev_iconst (v := 0) dX10_isOn_73 rfl ⟨by decide, by decide⟩ ?_
    exact Ev_ret dX10_isOn_74 (Or.inl rfl) (poI_mk h)
theorem k_X10_linesOn {s : Sg} {v1 v3 v5 v7 : Int} {post : Int → Prop} (h : w_X10_linesOn s v1 v3 v5 v7 post) : EvM mX10_linesOn 2 [(2, 68), (1, v1), (1, v3), (1, v5), (1, v7)] s (poI 0 s post) := by
  refine EvM_of rfl (by decide +kernel) (Nat.le_of_ble_eq_true rfl) ?_
  unfold w_X10_linesOn at h
  show Ev mX10_linesOn 2 0 [(0, (2, 68)), (1, (1, v1)), (3, (1, v3)), (5, (1, v5)), (7, (1, v7))] [] s (poI 0 s post)
  refine Ev_iconst (v := 0) dX10_linesOn_0 rfl ⟨by decide, by decide⟩ ?_
  refine Ev_istore dX10_linesOn_1 (by decide) rfl ?_
  refine Ev_iconst (v := 0) dX10_linesOn_3 rfl ⟨by decide, by decide⟩ ?_
  refine Ev_istore dX10_linesOn_4 (by decide) rfl ?_
  refine Ev_sub [2, 3, 4, 5, 6, 1, 0] rfl ?_
  refine li_2 (P := fun (v9_1 v10_2 : Int) => Ev mX10_linesOn 2 6 [(0, (2, 68)), (1, (1, v1)), (3, (1, v3)), (5, (1, v5)), (7, (1, v7)), (9, (0, v9_1)), (10, (0, v10_2))] [] s (poI 0 s post)) ?_ h
  intro again_3 v9_1 v10_2 hagain_3 h
  refine Ev_iload dX10_linesOn_6 6 rfl ?_
  refine Ev_aload_n dX10_linesOn_8 0 rfl ?_
  refine Ev_geti 68 dX10_linesOn_9 f_RX10_109 rfl sh_68 ?_
  refine Ev_icmp_ge (tgt := 45) dX10_linesOn_12 (by decide) (fun hc => ?_) (fun hc => ?_)
  · replace h := h.1 hc
    refine Ev_iload dX10_linesOn_45 5 rfl ?_
    exact Ev_ret dX10_linesOn_47 trivial (poI_mk h)
  · replace h := h.2 hc
    refine Ev_aload_n dX10_linesOn_15 0 rfl ?_
    refine Ev_iload dX10_linesOn_16 6 rfl ?_
    refine Ev_lload_n dX10_linesOn_18 1 rfl ?_
    refine Ev_lload_n dX10_linesOn_19 2 rfl ?_
    refine Ev_lload dX10_linesOn_20 3 rfl ?_
    refine Ev_lload dX10_linesOn_22 4 rfl ?_
    refine Ev_invV (d' := 1) [(0, v10_2), (1, v1), (1, v3), (1, v5), (1, v7)] 68 dX10_linesOn_24 M_X10_isOn q_1117 (by decide) rfl rfl sh_68 rfl (Nat.le_of_ble_eq_true rfl) (k_X10_isOn h) ?_
    rintro _ _ ⟨rfl, r_4, rfl, h⟩
    refine jc_1 (P := fun (v9_5 : Int) => Ev mX10_linesOn 2 39 [(0, (2, 68)), (1, (1, v1)), (3, (1, v3)), (5, (1, v5)), (7, (1, v7)), (9, (0, v9_5)), (10, (0, v10_2))] [] s (poI 0 s post)) h ?_ ?_
    · intro v9_5 h
      obtain ⟨v10_7, ev10_7⟩ : ∃ z : Int, z = w32 (v10_2 + 1) := ⟨_, rfl⟩
      replace h := h v10_7 ev10_7
      refine Ev_iinc (v := v10_7) dX10_linesOn_39 6 rfl ev10_7.symm (by decide) rfl ?_
      refine Ev_goto (tgt := 6) dX10_linesOn_42 (by decide) ?_
      refine Ev_sub [1, 2, 3, 4, 5, 6, 0] rfl ?_
      exact hagain_3 _ _ h
    · intro K_6 hK_6 h
      refine Ev_if_eq (tgt := 39) dX10_linesOn_27 (by decide) (fun hc => ?_) (fun hc => ?_)
      · replace h := h.1 hc
        exact hK_6 _ h
      · replace h := h.2 hc
        refine Ev_iload dX10_linesOn_30 5 rfl ?_
        refine Ev_iconst (v := 1) dX10_linesOn_32 rfl ⟨by decide, by decide⟩ ?_
        refine Ev_iload dX10_linesOn_33 6 rfl ?_
        refine Ev_ishl dX10_linesOn_35 ?_
        refine Ev_ior dX10_linesOn_36 ?_
        obtain ⟨v9_8, ev9_8⟩ : ∃ z : Int, z = ior v9_1 (ishl 1 v10_2) := ⟨_, rfl⟩
        replace h := h v9_8 ev9_8
        rw [← ev9_8]
        refine Ev_istore dX10_linesOn_37 (by decide) rfl ?_
        refine Ev_sub [1, 2, 3, 4, 5, 0, 6] rfl ?_
        exact hK_6 _ h
theorem k_X10_linesAt {s : Sg} {v1 : Int} {post : Int → Prop} (h : w_X10_linesAt s v1 post) : EvM mX10_linesAt 3 [(2, 68), (0, v1)] s (poI 0 s post) := by
  refine EvM_of rfl (by decide +kernel) (Nat.le_of_ble_eq_true rfl) ?_
  unfold w_X10_linesAt at h
  show Ev mX10_linesAt 3 0 [(0, (2, 68)), (1, (0, v1))] [] s (poI 0 s post)
  refine Ev_aload_n dX10_linesAt_0 0 rfl ?_
  refine Ev_aload_n dX10_linesAt_1 0 rfl ?_
  refine Ev_getr 68 (73) dX10_linesAt_2 f_RX10_22 rfl sh_68 rfl ?_
  refine Ev_iload_n dX10_linesAt_5 1 rfl ?_
  obtain ⟨hb_1, h⟩ := h
  refine Ev_lald (73) dX10_linesAt_6 rfl sh_73 hb_1 ?_
  refine Ev_aload_n dX10_linesAt_7 0 rfl ?_
  refine Ev_getr 68 (74) dX10_linesAt_8 f_RX10_26 rfl sh_68 rfl ?_
  refine Ev_iload_n dX10_linesAt_11 1 rfl ?_
  obtain ⟨hb_2, h⟩ := h
  refine Ev_lald (74) dX10_linesAt_12 rfl sh_74 hb_2 ?_
  refine Ev_aload_n dX10_linesAt_13 0 rfl ?_
  refine Ev_getr 68 (75) dX10_linesAt_14 f_RX10_29 rfl sh_68 rfl ?_
  refine Ev_iload_n dX10_linesAt_17 1 rfl ?_
  obtain ⟨hb_3, h⟩ := h
  refine Ev_lald (75) dX10_linesAt_18 rfl sh_75 hb_3 ?_
  refine Ev_aload_n dX10_linesAt_19 0 rfl ?_
  refine Ev_getr 68 (76) dX10_linesAt_20 f_RX10_32 rfl sh_68 rfl ?_
  refine Ev_iload_n dX10_linesAt_23 1 rfl ?_
  obtain ⟨hb_4, h⟩ := h
  refine Ev_lald (76) dX10_linesAt_24 rfl sh_76 hb_4 ?_
  refine Ev_invV (d' := 2) [(1, s 73 v1.toNat), (1, s 74 v1.toNat), (1, s 75 v1.toNat), (1, s 76 v1.toNat)] 68 dX10_linesAt_25 M_X10_linesOn q_1113 (by decide) rfl rfl sh_68 rfl (Nat.le_of_ble_eq_true rfl) (k_X10_linesOn h) ?_
  rintro _ _ ⟨rfl, r_5, rfl, h⟩
  exact Ev_ret dX10_linesAt_28 trivial (poI_mk h)
theorem k_X10_isPiece {s : Sg} {v1 v2 : Int} {post : Int → Prop} (h : w_X10_isPiece s v1 v2 post) : EvM mX10_isPiece 4 [(2, 68), (0, v1), (0, v2)] s (poI 0 s post) := by
  refine EvM_of rfl (by decide +kernel) (Nat.le_of_ble_eq_true rfl) ?_
  unfold w_X10_isPiece at h
  show Ev mX10_isPiece 4 0 [(0, (2, 68)), (1, (0, v1)), (2, (0, v2))] [] s (poI 0 s post)
  refine Ev_aload_n dX10_isPiece_0 0 rfl ?_
  refine Ev_iload_n dX10_isPiece_1 1 rfl ?_
  refine Ev_invV (d' := 3) [(0, v1)] 68 dX10_isPiece_2 M_X10_linesAt q_1109 (by decide) rfl rfl sh_68 rfl (Nat.le_of_ble_eq_true rfl) (k_X10_linesAt h) ?_
  rintro _ _ ⟨rfl, r_1, rfl, h⟩
  refine Ev_aload_n dX10_isPiece_5 0 rfl ?_
  refine Ev_iload_n dX10_isPiece_6 2 rfl ?_
  refine Ev_invV (d' := 3) [(0, v2)] 68 dX10_isPiece_7 M_X10_linesAt q_1109 (by decide) rfl rfl sh_68 rfl (Nat.le_of_ble_eq_true rfl) (k_X10_linesAt h) ?_
  rintro _ _ ⟨rfl, r_2, rfl, h⟩
  refine Ev_iand dX10_isPiece_10 ?_
  obtain ⟨v3_3, ev3_3⟩ : ∃ z : Int, z = iand r_1 r_2 := ⟨_, rfl⟩
  replace h := h v3_3 ev3_3
  rw [← ev3_3]
  refine Ev_istore_n dX10_isPiece_11 (by decide) rfl ?_
  refine Ev_iload_n dX10_isPiece_12 2 rfl ?_
  refine Ev_iconst (v := 1) dX10_isPiece_13 rfl ⟨by decide, by decide⟩ ?_
  refine Ev_iadd dX10_isPiece_14 ?_
  obtain ⟨v4_4, ev4_4⟩ : ∃ z : Int, z = w32 (v1 + 1) := ⟨_, rfl⟩
  replace h := h v4_4 ev4_4
  rw [← ev4_4]
  refine Ev_istore dX10_isPiece_15 (by decide) rfl ?_
  refine Ev_sub [2, 4, 1, 0] rfl ?_
  refine li_2 (P := fun (v3_5 v4_6 : Int) => Ev mX10_isPiece 4 17 [(0, (2, 68)), (2, (0, v2)), (3, (0, v3_5)), (4, (0, v4_6))] [] s (poI 0 s post)) ?_ h
  intro again_7 v3_5 v4_6 hagain_7 h
  refine Ev_iload dX10_isPiece_17 3 rfl ?_
  refine Ev_iload_n dX10_isPiece_19 1 rfl ?_
  refine Ev_icmp_ge (tgt := 40) dX10_isPiece_20 (by decide) (fun hc => ?_) (fun hc => ?_)
  · replace h := h.1 hc
    refine Ev_iload_n dX10_isPiece_40 2 rfl ?_
    refine jc_1 (P := fun (t_8 : Int) => Ev mX10_isPiece 4 49 [] [(0, t_8)] s (poI 0 s post)) h ?_ ?_
    · intro t_8 h
      obtain ⟨hz, h⟩ := h
      exact Ev_ret dX10_isPiece_49 hz (poI_mk h)
    · intro K_9 hK_9 h
      refine Ev_if_eq (tgt := 48) dX10_isPiece_41 (by decide) (fun hc => ?_) (fun hc => ?_)
      · replace h := h.1 hc
        refine Ev_iconst (v := 0) dX10_isPiece_48 rfl ⟨by decide, by decide⟩ ?_
        refine Ev_sub [] rfl ?_
        exact hK_9 _ h
      · replace h := h.2 hc
        refine Ev_iconst (v := 1) dX10_isPiece_44 rfl ⟨by decide, by decide⟩ ?_
        refine Ev_goto (tgt := 49) dX10_isPiece_45 (by decide) ?_
        refine Ev_sub [] rfl ?_
        exact hK_9 _ h
  · replace h := h.2 hc
    refine Ev_iload_n dX10_isPiece_23 2 rfl ?_
    refine Ev_aload_n dX10_isPiece_24 0 rfl ?_
    refine Ev_iload dX10_isPiece_25 3 rfl ?_
    refine Ev_invV (d' := 3) [(0, v4_6)] 68 dX10_isPiece_27 M_X10_linesAt q_1109 (by decide) rfl rfl sh_68 rfl (Nat.le_of_ble_eq_true rfl) (k_X10_linesAt h) ?_
    rintro _ _ ⟨rfl, r_10, rfl, h⟩
    refine Ev_iconst (v := -1) dX10_isPiece_30 rfl ⟨by decide, by decide⟩ ?_
    refine Ev_ixor dX10_isPiece_31 ?_
    refine Ev_iand dX10_isPiece_32 ?_
    obtain ⟨v3_11, ev3_11⟩ : ∃ z : Int, z = iand v3_5 (ixor r_10 (-1)) := ⟨_, rfl⟩
    replace h := h v3_11 ev3_11
    rw [← ev3_11]
    refine Ev_istore_n dX10_isPiece_33 (by decide) rfl ?_
    obtain ⟨v4_12, ev4_12⟩ : ∃ z : Int, z = w32 (v4_6 + 1) := ⟨_, rfl⟩
    replace h := h v4_12 ev4_12
    refine Ev_iinc (v := v4_12) dX10_isPiece_34 3 rfl ev4_12.symm (by decide) rfl ?_
    refine Ev_goto (tgt := 17) dX10_isPiece_37 (by decide) ?_
    refine Ev_sub [2, 3, 1, 0] rfl ?_
    exact hagain_7 _ _ h
theorem k_X10_tellPieces {s : Sg} {post : Int → Sg → Prop} (h : w_X10_tellPieces s post) : EvM mX10_tellPieces 5 [(2, 68)] s (poIs 0 post) := by
  refine EvM_of rfl (by decide +kernel) (Nat.le_of_ble_eq_true rfl) ?_
  unfold w_X10_tellPieces at h
  show Ev mX10_tellPieces 5 0 [(0, (2, 68))] [] s (poIs 0 post)
  refine Ev_iconst (v := 0) dX10_tellPieces_0 rfl ⟨by decide, by decide⟩ ?_
  refine Ev_istore_n dX10_tellPieces_1 (by decide) rfl ?_
  refine Ev_iconst (v := 0) dX10_tellPieces_2 rfl ⟨by decide, by decide⟩ ?_
  refine Ev_istore_n dX10_tellPieces_3 (by decide) rfl ?_
  refine Ev_sub [2, 1, 0] rfl ?_
  refine li_1s (P := fun (v2_1 : Int) (s_2 : Sg) => Ev mX10_tellPieces 5 4 [(0, (2, 68)), (1, (0, 0)), (2, (0, v2_1))] [] s_2 (poIs 0 post)) ?_ h
  intro again_3 v2_1 s_2 hagain_3 h
  refine Ev_iload_n dX10_tellPieces_4 2 rfl ?_
  refine Ev_aload_n dX10_tellPieces_5 0 rfl ?_
  refine Ev_geti 68 dX10_tellPieces_6 f_RX10_176 rfl sh_68 ?_
  refine Ev_icmp_ge (tgt := 25) dX10_tellPieces_9 (by decide) (fun hc => ?_) (fun hc => ?_)
  · replace h := h.1 hc
    refine Ev_iconst (v := 0) dX10_tellPieces_25 rfl ⟨by decide, by decide⟩ ?_
    refine Ev_istore_n dX10_tellPieces_26 (by decide) rfl ?_
    refine Ev_sub [1, 2, 0] rfl ?_
    refine li_2s (P := fun (v1_4 v2_5 : Int) (s_6 : Sg) => Ev mX10_tellPieces 5 27 [(0, (2, 68)), (1, (0, v1_4)), (2, (0, v2_5))] [] s_6 (poIs 0 post)) ?_ h
    intro again_7 v1_4 v2_5 s_6 hagain_7 h
    refine Ev_iload_n dX10_tellPieces_27 2 rfl ?_
    refine Ev_aload_n dX10_tellPieces_28 0 rfl ?_
    refine Ev_geti 68 dX10_tellPieces_29 f_RX10_176 rfl sh_68 ?_
    refine Ev_icmp_ge (tgt := 147) dX10_tellPieces_32 (by decide) (fun hc => ?_) (fun hc => ?_)
    · replace h := h.1 hc
      refine Ev_iload_n dX10_tellPieces_147 1 rfl ?_
      exact Ev_ret dX10_tellPieces_148 trivial (poIs_mk h)
    · replace h := h.2 hc
      refine Ev_iload_n dX10_tellPieces_35 2 rfl ?_
      refine Ev_iconst (v := 1) dX10_tellPieces_36 rfl ⟨by decide, by decide⟩ ?_
      refine Ev_iadd dX10_tellPieces_37 ?_
      obtain ⟨v3_8, ev3_8⟩ : ∃ z : Int, z = w32 (v2_5 + 1) := ⟨_, rfl⟩
      replace h := h v3_8 ev3_8
      rw [← ev3_8]
      refine Ev_istore_n dX10_tellPieces_38 (by decide) rfl ?_
      refine Ev_sub [1, 2, 3, 0] rfl ?_
      refine li_2s (P := fun (v1_9 v3_10 : Int) (s_11 : Sg) => Ev mX10_tellPieces 5 39 [(0, (2, 68)), (1, (0, v1_9)), (2, (0, v2_5)), (3, (0, v3_10))] [] s_11 (poIs 0 post)) ?_ h
      intro again_12 v1_9 v3_10 s_11 hagain_12 h
      refine Ev_iload_n dX10_tellPieces_39 3 rfl ?_
      refine Ev_aload_n dX10_tellPieces_40 0 rfl ?_
      refine Ev_geti 68 dX10_tellPieces_41 f_RX10_176 rfl sh_68 ?_
      refine Ev_icmp_ge (tgt := 141) dX10_tellPieces_44 (by decide) (fun hc => ?_) (fun hc => ?_)
      · replace h := h.1 hc
        obtain ⟨v2_13, ev2_13⟩ : ∃ z : Int, z = w32 (v2_5 + 1) := ⟨_, rfl⟩
        replace h := h v2_13 ev2_13
        refine Ev_iinc (v := v2_13) dX10_tellPieces_141 2 rfl ev2_13.symm (by decide) rfl ?_
        refine Ev_goto (tgt := 27) dX10_tellPieces_144 (by decide) ?_
        refine Ev_sub [1, 2, 0] rfl ?_
        exact hagain_7 _ _ _ h
      · replace h := h.2 hc
        refine Ev_aload_n dX10_tellPieces_47 0 rfl ?_
        refine Ev_iload_n dX10_tellPieces_48 2 rfl ?_
        refine Ev_iload_n dX10_tellPieces_49 3 rfl ?_
        refine Ev_invV (d' := 4) [(0, v2_5), (0, v3_10)] 68 dX10_tellPieces_50 M_X10_isPiece q_1131 (by decide) rfl rfl sh_68 rfl (Nat.le_of_ble_eq_true rfl) (k_X10_isPiece h) ?_
        rintro _ _ ⟨rfl, r_14, rfl, h⟩
        refine jc_1s (P := fun (v1_15 : Int) (s_16 : Sg) => Ev mX10_tellPieces 5 135 [(0, (2, 68)), (1, (0, v1_15)), (2, (0, v2_5)), (3, (0, v3_10))] [] s_16 (poIs 0 post)) h ?_ ?_
        · intro v1_15 s_16 h
          obtain ⟨v3_18, ev3_18⟩ : ∃ z : Int, z = w32 (v3_10 + 1) := ⟨_, rfl⟩
          replace h := h v3_18 ev3_18
          refine Ev_iinc (v := v3_18) dX10_tellPieces_135 3 rfl ev3_18.symm (by decide) rfl ?_
          refine Ev_goto (tgt := 39) dX10_tellPieces_138 (by decide) ?_
          refine Ev_sub [1, 2, 3, 0] rfl ?_
          exact hagain_12 _ _ _ h
        · intro K_17 hK_17 h
          refine Ev_if_ne (tgt := 59) dX10_tellPieces_53 (by decide) (fun hc => ?_) (fun hc => ?_)
          · replace h := h.1 hc
            obtain ⟨v1_19, ev1_19⟩ : ∃ z : Int, z = w32 (v1_9 + 1) := ⟨_, rfl⟩
            replace h := h v1_19 ev1_19
            refine Ev_iinc (v := v1_19) dX10_tellPieces_59 1 rfl ev1_19.symm (by decide) rfl ?_
            refine Ev_aload_n dX10_tellPieces_62 1 rfl ?_
            refine Ev_getr 68 (77) dX10_tellPieces_63 f_RX10_35 rfl sh_68 rfl ?_
            refine Ev_iload_n dX10_tellPieces_66 2 rfl ?_
            obtain ⟨hb_20, h⟩ := h
            refine Ev_iald (77) dX10_tellPieces_67 rfl sh_77 hb_20 ?_
            refine Ev_aload_n dX10_tellPieces_68 1 rfl ?_
            refine Ev_getr 68 (77) dX10_tellPieces_69 f_RX10_35 rfl sh_68 rfl ?_
            refine Ev_iload_n dX10_tellPieces_72 3 rfl ?_
            obtain ⟨hb_21, h⟩ := h
            refine Ev_iald (77) dX10_tellPieces_73 rfl sh_77 hb_21 ?_
            refine Ev_min dX10_tellPieces_74 ⟨q_1121, q_505, q_12, q_506⟩ (by decide) (Nat.le_of_ble_eq_true rfl) ?_
            obtain ⟨v4_22, ev4_22⟩ : ∃ z : Int, z = (if s_11 77 v3_10.toNat < s_11 77 v2_5.toNat then s_11 77 v3_10.toNat else s_11 77 v2_5.toNat) := ⟨_, rfl⟩
            replace h := h v4_22 ev4_22
            rw [← ev4_22]
            refine Ev_istore dX10_tellPieces_77 (by decide) rfl ?_
            refine Ev_aload_n dX10_tellPieces_79 2 rfl ?_
            refine Ev_getr 68 (77) dX10_tellPieces_80 f_RX10_35 rfl sh_68 rfl ?_
            refine Ev_iload_n dX10_tellPieces_83 3 rfl ?_
            obtain ⟨hb_23, h⟩ := h
            refine Ev_iald (77) dX10_tellPieces_84 rfl sh_77 hb_23 ?_
            refine Ev_aload_n dX10_tellPieces_85 2 rfl ?_
            refine Ev_getr 68 (77) dX10_tellPieces_86 f_RX10_35 rfl sh_68 rfl ?_
            refine Ev_iload_n dX10_tellPieces_89 4 rfl ?_
            obtain ⟨hb_24, h⟩ := h
            refine Ev_iald (77) dX10_tellPieces_90 rfl sh_77 hb_24 ?_
            refine Ev_max dX10_tellPieces_91 ⟨q_1122, q_508, q_12, q_509⟩ (by decide) (Nat.le_of_ble_eq_true rfl) ?_
            obtain ⟨v5_25, ev5_25⟩ : ∃ z : Int, z = (if s_11 77 v2_5.toNat < s_11 77 v3_10.toNat then s_11 77 v3_10.toNat else s_11 77 v2_5.toNat) := ⟨_, rfl⟩
            replace h := h v5_25 ev5_25
            rw [← ev5_25]
            refine Ev_istore dX10_tellPieces_94 (by decide) rfl ?_
            refine Ev_iconst (v := 0) dX10_tellPieces_96 rfl ⟨by decide, by decide⟩ ?_
            refine Ev_istore dX10_tellPieces_97 (by decide) rfl ?_
            refine Ev_sub [4, 3, 5, 6, 2, 1, 0] rfl ?_
            refine li_1s (P := fun (v6_26 : Int) (s_27 : Sg) => Ev mX10_tellPieces 5 99 [(0, (2, 68)), (1, (0, v1_19)), (2, (0, v2_5)), (3, (0, v3_10)), (4, (0, v4_22)), (5, (0, v5_25)), (6, (0, v6_26))] [] s_27 (poIs 0 post)) ?_ h
            intro again_28 v6_26 s_27 hagain_28 h
            refine Ev_iload dX10_tellPieces_99 6 rfl ?_
            refine Ev_aload_n dX10_tellPieces_101 0 rfl ?_
            refine Ev_geti 68 dX10_tellPieces_102 f_RX10_176 rfl sh_68 ?_
            refine Ev_icmp_ge (tgt := 135) dX10_tellPieces_105 (by decide) (fun hc => ?_) (fun hc => ?_)
            · replace h := h.1 hc
              refine Ev_sub [0, 1, 2, 3] rfl ?_
              exact hK_17 _ _ h
            · replace h := h.2 hc
              refine Ev_aload_n dX10_tellPieces_108 0 rfl ?_
              refine Ev_getr 68 (77) dX10_tellPieces_109 f_RX10_35 rfl sh_68 rfl ?_
              refine Ev_iload dX10_tellPieces_112 6 rfl ?_
              obtain ⟨hb_29, h⟩ := h
              refine Ev_iald (77) dX10_tellPieces_114 rfl sh_77 hb_29 ?_
              refine Ev_iload dX10_tellPieces_115 5 rfl ?_
              refine jc_0s (P := fun (s_30 : Sg) => Ev mX10_tellPieces 5 129 [(0, (2, 68)), (1, (0, v1_19)), (2, (0, v2_5)), (3, (0, v3_10)), (4, (0, v4_22)), (5, (0, v5_25)), (6, (0, v6_26))] [] s_30 (poIs 0 post)) h ?_ ?_
              · intro s_30 h
                obtain ⟨v6_32, ev6_32⟩ : ∃ z : Int, z = w32 (v6_26 + 1) := ⟨_, rfl⟩
                replace h := h v6_32 ev6_32
                refine Ev_iinc (v := v6_32) dX10_tellPieces_129 6 rfl ev6_32.symm (by decide) rfl ?_
                refine Ev_goto (tgt := 99) dX10_tellPieces_132 (by decide) ?_
                refine Ev_sub [1, 2, 3, 4, 5, 6, 0] rfl ?_
                exact hagain_28 _ _ h
              · intro K_31 hK_31 h
                refine Ev_icmp_ne (tgt := 129) dX10_tellPieces_117 (by decide) (fun hc => ?_) (fun hc => ?_)
                · replace h := h.1 hc
                  exact hK_31 _ h
                · replace h := h.2 hc
                  refine Ev_aload_n dX10_tellPieces_120 0 rfl ?_
                  refine Ev_getr 68 (77) dX10_tellPieces_121 f_RX10_35 rfl sh_68 rfl ?_
                  refine Ev_iload dX10_tellPieces_124 6 rfl ?_
                  refine Ev_iload dX10_tellPieces_126 4 rfl ?_
                  obtain ⟨hb_33, h⟩ := h
                  obtain ⟨s_34, es_34⟩ : ∃ z : Sg, z = (up s_27 77 (v6_26.toNat) v4_22) := ⟨_, rfl⟩
                  replace h := h s_34 es_34
                  refine Ev_iast (77) dX10_tellPieces_128 rfl sh_77 hb_33 ?_
                  rw [← es_34]
                  exact hK_31 _ h
          · replace h := h.2 hc
            refine Ev_goto (tgt := 135) dX10_tellPieces_56 (by decide) ?_
            exact hK_17 _ _ h
  · replace h := h.2 hc
    refine Ev_aload_n dX10_tellPieces_12 0 rfl ?_
    refine Ev_getr 68 (77) dX10_tellPieces_13 f_RX10_35 rfl sh_68 rfl ?_
    refine Ev_iload_n dX10_tellPieces_16 2 rfl ?_
    refine Ev_iload_n dX10_tellPieces_17 2 rfl ?_
    obtain ⟨hb_35, h⟩ := h
    obtain ⟨s_36, es_36⟩ : ∃ z : Sg, z = (up s_2 77 (v2_1.toNat) v2_1) := ⟨_, rfl⟩
    replace h := h s_36 es_36
    refine Ev_iast (77) dX10_tellPieces_18 rfl sh_77 hb_35 ?_
    rw [← es_36]
    obtain ⟨v2_37, ev2_37⟩ : ∃ z : Int, z = w32 (v2_1 + 1) := ⟨_, rfl⟩
    replace h := h v2_37 ev2_37
    refine Ev_iinc (v := v2_37) dX10_tellPieces_19 2 rfl ev2_37.symm (by decide) rfl ?_
    refine Ev_goto (tgt := 4) dX10_tellPieces_22 (by decide) ?_
    refine Ev_sub [1, 2, 0] rfl ?_
    exact hagain_3 _ _ h
theorem k_X10_partsMany {s : Sg} {post : Int → Sg → Prop} (h : w_X10_partsMany s post) : EvM mX10_partsMany 6 [(2, 68)] s (poIs 0 post) := by
  refine EvM_of rfl (by decide +kernel) (Nat.le_of_ble_eq_true rfl) ?_
  unfold w_X10_partsMany at h
  show Ev mX10_partsMany 6 0 [(0, (2, 68))] [] s (poIs 0 post)
  refine Ev_aload_n dX10_partsMany_0 0 rfl ?_
  refine Ev_invV (d' := 5) [] 68 dX10_partsMany_1 M_X10_tellPieces q_1127 (by decide) rfl rfl sh_68 rfl (Nat.le_of_ble_eq_true rfl) (k_X10_tellPieces h) ?_
  rintro _ s_2 ⟨r_1, rfl, h⟩
  refine Ev_istore_n dX10_partsMany_4 (by decide) rfl ?_
  refine Ev_iconst (v := 0) dX10_partsMany_5 rfl ⟨by decide, by decide⟩ ?_
  refine Ev_istore_n dX10_partsMany_6 (by decide) rfl ?_
  refine Ev_iconst (v := 0) dX10_partsMany_7 rfl ⟨by decide, by decide⟩ ?_
  refine Ev_istore_n dX10_partsMany_8 (by decide) rfl ?_
  refine Ev_sub [3, 1, 0] rfl ?_
  refine li_2 (P := fun (v2_3 v3_4 : Int) => Ev mX10_partsMany 6 9 [(0, (2, 68)), (2, (0, v2_3)), (3, (0, v3_4))] [] s_2 (poIs 0 post)) ?_ h
  intro again_5 v2_3 v3_4 hagain_5 h
  refine Ev_iload_n dX10_partsMany_9 2 rfl ?_
  refine Ev_aload_n dX10_partsMany_10 0 rfl ?_
  refine Ev_geti 68 dX10_partsMany_11 f_RX10_176 rfl sh_68 ?_
  refine Ev_icmp_ge (tgt := 36) dX10_partsMany_14 (by decide) (fun hc => ?_) (fun hc => ?_)
  · replace h := h.1 hc
    refine Ev_iload_n dX10_partsMany_36 1 rfl ?_
    exact Ev_ret dX10_partsMany_37 trivial (poIs_mk h)
  · replace h := h.2 hc
    refine Ev_aload_n dX10_partsMany_17 0 rfl ?_
    refine Ev_getr 68 (77) dX10_partsMany_18 f_RX10_35 rfl sh_68 rfl ?_
    refine Ev_iload_n dX10_partsMany_21 2 rfl ?_
    obtain ⟨hb_6, h⟩ := h
    refine Ev_iald (77) dX10_partsMany_22 rfl sh_77 hb_6 ?_
    refine Ev_iload_n dX10_partsMany_23 2 rfl ?_
    refine jc_1 (P := fun (v2_7 : Int) => Ev mX10_partsMany 6 30 [(0, (2, 68)), (2, (0, v2_7)), (3, (0, v3_4))] [] s_2 (poIs 0 post)) h ?_ ?_
    · intro v2_7 h
      obtain ⟨v3_9, ev3_9⟩ : ∃ z : Int, z = w32 (v3_4 + 1) := ⟨_, rfl⟩
      replace h := h v3_9 ev3_9
      refine Ev_iinc (v := v3_9) dX10_partsMany_30 2 rfl ev3_9.symm (by decide) rfl ?_
      refine Ev_goto (tgt := 9) dX10_partsMany_33 (by decide) ?_
      refine Ev_sub [1, 2, 0] rfl ?_
      exact hagain_5 _ _ h
    · intro K_8 hK_8 h
      refine Ev_icmp_ne (tgt := 30) dX10_partsMany_24 (by decide) (fun hc => ?_) (fun hc => ?_)
      · replace h := h.1 hc
        exact hK_8 _ h
      · replace h := h.2 hc
        obtain ⟨v2_10, ev2_10⟩ : ∃ z : Int, z = w32 (v2_3 + 1) := ⟨_, rfl⟩
        replace h := h v2_10 ev2_10
        refine Ev_iinc (v := v2_10) dX10_partsMany_27 1 rfl ev2_10.symm (by decide) rfl ?_
        refine Ev_sub [1, 0, 2] rfl ?_
        exact hK_8 _ h
theorem k_X10_placeAt {s : Sg} {v1 v2 : Int} {post : Int → Sg → Prop} (h : w_X10_placeAt s v1 v2 post) : EvM mX10_placeAt 0 [(2, 68), (0, v1), (0, v2)] s (poIs 0 post) := by
  refine EvM_of rfl (by decide +kernel) (Nat.le_of_ble_eq_true rfl) ?_
  unfold w_X10_placeAt at h
  show Ev mX10_placeAt 0 0 [(0, (2, 68)), (1, (0, v1)), (2, (0, v2))] [] s (poIs 0 post)
  refine Ev_iconst (v := 0) dX10_placeAt_0 rfl ⟨by decide, by decide⟩ ?_
  refine Ev_istore_n dX10_placeAt_1 (by decide) rfl ?_
  refine Ev_sub [1, 2, 3, 0] rfl ?_
  refine li_1 (P := fun (v3_1 : Int) => Ev mX10_placeAt 0 2 [(0, (2, 68)), (1, (0, v1)), (2, (0, v2)), (3, (0, v3_1))] [] s (poIs 0 post)) ?_ h
  intro again_2 v3_1 hagain_2 h
  refine Ev_iload_n dX10_placeAt_2 3 rfl ?_
  refine Ev_aload_n dX10_placeAt_3 0 rfl ?_
  refine Ev_geti 68 dX10_placeAt_4 f_RX10_221 rfl sh_68 ?_
  refine jc_0 (P := Ev mX10_placeAt 0 36 [(0, (2, 68)), (1, (0, v1)), (2, (0, v2)), (3, (0, v3_1))] [] s (poIs 0 post)) h ?_ ?_
  · intro  h
    refine Ev_iload_n dX10_placeAt_36 3 rfl ?_
    refine Ev_aload_n dX10_placeAt_37 0 rfl ?_
    refine Ev_geti 68 dX10_placeAt_38 f_RX10_221 rfl sh_68 ?_
    refine jc_0s (P := fun (s_4 : Sg) => Ev mX10_placeAt 0 75 [(3, (0, v3_1))] [] s_4 (poIs 0 post)) h ?_ ?_
    · intro s_4 h
      refine Ev_iload_n dX10_placeAt_75 0 rfl ?_
      exact Ev_ret dX10_placeAt_76 trivial (poIs_mk h)
    · intro K_5 hK_5 h
      refine Ev_icmp_ne (tgt := 75) dX10_placeAt_41 (by decide) (fun hc => ?_) (fun hc => ?_)
      · replace h := h.1 hc
        refine Ev_sub [3] rfl ?_
        exact hK_5 _ h
      · replace h := h.2 hc
        refine Ev_aload_n dX10_placeAt_44 0 rfl ?_
        refine Ev_getr 68 (78) dX10_placeAt_45 f_RX10_38 rfl sh_68 rfl ?_
        refine Ev_iload_n dX10_placeAt_48 3 rfl ?_
        refine Ev_iload_n dX10_placeAt_49 1 rfl ?_
        obtain ⟨hb_6, h⟩ := h
        obtain ⟨s_7, es_7⟩ : ∃ z : Sg, z = (up s 78 (v3_1.toNat) v1) := ⟨_, rfl⟩
        replace h := h s_7 es_7
        refine Ev_iast (78) dX10_placeAt_50 rfl sh_78 hb_6 ?_
        rw [← es_7]
        refine Ev_aload_n dX10_placeAt_51 0 rfl ?_
        refine Ev_getr 68 (79) dX10_placeAt_52 f_RX10_41 rfl sh_68 rfl ?_
        refine Ev_iload_n dX10_placeAt_55 3 rfl ?_
        refine Ev_iload_n dX10_placeAt_56 2 rfl ?_
        obtain ⟨hb_8, h⟩ := h
        obtain ⟨s_9, es_9⟩ : ∃ z : Sg, z = (up s_7 79 (v3_1.toNat) v2) := ⟨_, rfl⟩
        replace h := h s_9 es_9
        refine Ev_iast (79) dX10_placeAt_57 rfl sh_79 hb_8 ?_
        rw [← es_9]
        refine Ev_aload_n dX10_placeAt_58 0 rfl ?_
        refine Ev_getr 68 (80) dX10_placeAt_59 f_RX10_44 rfl sh_68 rfl ?_
        refine Ev_iload_n dX10_placeAt_62 3 rfl ?_
        refine Ev_iconst (v := -1) dX10_placeAt_63 rfl ⟨by decide, by decide⟩ ?_
        obtain ⟨hb_10, h⟩ := h
        obtain ⟨s_11, es_11⟩ : ∃ z : Sg, z = (up s_9 80 (v3_1.toNat) (-1)) := ⟨_, rfl⟩
        replace h := h s_11 es_11
        refine Ev_iast (80) dX10_placeAt_64 rfl sh_80 hb_10 ?_
        rw [← es_11]
        refine Ev_aload_n dX10_placeAt_65 0 rfl ?_
        refine Ev_dup dX10_placeAt_66 (show ¬ (2 : Nat) = 1 by decide) ?_
        refine Ev_geti 68 dX10_placeAt_67 f_RX10_221 rfl sh_68 ?_
        refine Ev_iconst (v := 1) dX10_placeAt_70 rfl ⟨by decide, by decide⟩ ?_
        refine Ev_iadd dX10_placeAt_71 ?_
        obtain ⟨s_12, es_12⟩ : ∃ z : Sg, z = (up s_11 68 15 (w32 ((s_11 68 15) + 1))) := ⟨_, rfl⟩
        replace h := h s_12 es_12
        refine Ev_puti 68 dX10_placeAt_72 fp_RX10_221 rfl sh_68 ?_
        rw [← es_12]
        refine Ev_sub [3] rfl ?_
        exact hK_5 _ h
  · intro K_3 hK_3 h
    refine Ev_icmp_ge (tgt := 36) dX10_placeAt_7 (by decide) (fun hc => ?_) (fun hc => ?_)
    · replace h := h.1 hc
      exact hK_3 h
    · replace h := h.2 hc
      refine Ev_aload_n dX10_placeAt_10 0 rfl ?_
      refine Ev_getr 68 (78) dX10_placeAt_11 f_RX10_38 rfl sh_68 rfl ?_
      refine Ev_iload_n dX10_placeAt_14 3 rfl ?_
      obtain ⟨hb_13, h⟩ := h
      refine Ev_iald (78) dX10_placeAt_15 rfl sh_78 hb_13 ?_
      refine Ev_iload_n dX10_placeAt_16 1 rfl ?_
      refine jc_0 (P := Ev mX10_placeAt 0 30 [(0, (2, 68)), (1, (0, v1)), (2, (0, v2)), (3, (0, v3_1))] [] s (poIs 0 post)) h ?_ ?_
      · intro  h
        obtain ⟨v3_15, ev3_15⟩ : ∃ z : Int, z = w32 (v3_1 + 1) := ⟨_, rfl⟩
        replace h := h v3_15 ev3_15
        refine Ev_iinc (v := v3_15) dX10_placeAt_30 3 rfl ev3_15.symm (by decide) rfl ?_
        refine Ev_goto (tgt := 2) dX10_placeAt_33 (by decide) ?_
        refine Ev_sub [1, 2, 3, 0] rfl ?_
        exact hagain_2 _ h
      · intro K_14 hK_14 h
        refine Ev_icmp_ne (tgt := 30) dX10_placeAt_17 (by decide) (fun hc => ?_) (fun hc => ?_)
        · replace h := h.1 hc
          exact hK_14 h
        · replace h := h.2 hc
          refine Ev_aload_n dX10_placeAt_20 0 rfl ?_
          refine Ev_getr 68 (79) dX10_placeAt_21 f_RX10_41 rfl sh_68 rfl ?_
          refine Ev_iload_n dX10_placeAt_24 3 rfl ?_
          obtain ⟨hb_16, h⟩ := h
          refine Ev_iald (79) dX10_placeAt_25 rfl sh_79 hb_16 ?_
          refine Ev_iload_n dX10_placeAt_26 2 rfl ?_
          refine Ev_icmp_eq (tgt := 36) dX10_placeAt_27 (by decide) (fun hc => ?_) (fun hc => ?_)
          · replace h := h.1 hc
            exact hK_3 h
          · replace h := h.2 hc
            exact hK_14 h
theorem k_X10_isSide {s : Sg} {v1 v2 : Int} {post : Int → Prop} (h : w_X10_isSide s v1 v2 post) : EvM mX10_isSide 1 [(2, 68), (0, v1), (0, v2)] s (poI 0 s post) := by
  refine EvM_of rfl (by decide +kernel) (Nat.le_of_ble_eq_true rfl) ?_
  unfold w_X10_isSide at h
  show Ev mX10_isSide 1 0 [(0, (2, 68)), (1, (0, v1)), (2, (0, v2))] [] s (poI 0 s post)
  refine Ev_iconst (v := 0) dX10_isSide_0 rfl ⟨by decide, by decide⟩ ?_
  refine Ev_istore_n dX10_isSide_1 (by decide) rfl ?_
  refine Ev_iconst (v := 0) dX10_isSide_2 rfl ⟨by decide, by decide⟩ ?_
  refine Ev_istore dX10_isSide_3 (by decide) rfl ?_
  refine Ev_iconst (v := 0) dX10_isSide_5 rfl ⟨by decide, by decide⟩ ?_
  refine Ev_istore dX10_isSide_6 (by decide) rfl ?_
  refine Ev_sub [3, 4, 5, 2, 1, 0] rfl ?_
  refine li_3 (P := fun (v3_1 v4_2 v5_3 : Int) => Ev mX10_isSide 1 8 [(0, (2, 68)), (1, (0, v1)), (2, (0, v2)), (3, (0, v3_1)), (4, (0, v4_2)), (5, (0, v5_3))] [] s (poI 0 s post)) ?_ h
  intro again_4 v3_1 v4_2 v5_3 hagain_4 h
  refine Ev_iload dX10_isSide_8 5 rfl ?_
  refine Ev_aload_n dX10_isSide_10 0 rfl ?_
  refine Ev_geti 68 dX10_isSide_11 f_RX10_221 rfl sh_68 ?_
  refine Ev_icmp_ge (tgt := 125) dX10_isSide_14 (by decide) (fun hc => ?_) (fun hc => ?_)
  · replace h := h.1 hc
    refine Ev_iload_n dX10_isSide_125 3 rfl ?_
    refine jc_1 (P := fun (t_5 : Int) => Ev mX10_isSide 1 139 [] [(0, t_5)] s (poI 0 s post)) h ?_ ?_
    · intro t_5 h
      obtain ⟨hz, h⟩ := h
      exact Ev_ret dX10_isSide_139 hz (poI_mk h)
    · intro K_6 hK_6 h
      refine jc_0 (P := Ev mX10_isSide 1 134 [] [] s (poI 0 s post)) h ?_ ?_
      · intro  h
        refine Ev_iconst (v := 1) dX10_isSide_134 rfl ⟨by decide, by decide⟩ ?_
        refine Ev_goto (tgt := 139) dX10_isSide_135 (by decide) ?_
        exact hK_6 _ h
      · intro K_7 hK_7 h
        refine Ev_if_eq (tgt := 134) dX10_isSide_126 (by decide) (fun hc => ?_) (fun hc => ?_)
        · replace h := h.1 hc
          refine Ev_sub [] rfl ?_
          exact hK_7 h
        · replace h := h.2 hc
          refine Ev_iload dX10_isSide_129 4 rfl ?_
          refine Ev_if_ne (tgt := 138) dX10_isSide_131 (by decide) (fun hc => ?_) (fun hc => ?_)
          · replace h := h.1 hc
            refine Ev_iconst (v := 0) dX10_isSide_138 rfl ⟨by decide, by decide⟩ ?_
            refine Ev_sub [] rfl ?_
            exact hK_6 _ h
          · replace h := h.2 hc
            refine Ev_sub [] rfl ?_
            exact hK_7 h
  · replace h := h.2 hc
    refine Ev_aload_n dX10_isSide_17 0 rfl ?_
    refine Ev_getr 68 (80) dX10_isSide_18 f_RX10_44 rfl sh_68 rfl ?_
    refine Ev_iload dX10_isSide_21 5 rfl ?_
    obtain ⟨hb_8, h⟩ := h
    refine Ev_iald (80) dX10_isSide_23 rfl sh_80 hb_8 ?_
    refine Ev_iconst (v := -1) dX10_isSide_24 rfl ⟨by decide, by decide⟩ ?_
    refine jc_2 (P := fun (v3_9 v4_10 : Int) => Ev mX10_isSide 1 119 [(0, (2, 68)), (1, (0, v1)), (2, (0, v2)), (3, (0, v3_9)), (4, (0, v4_10)), (5, (0, v5_3))] [] s (poI 0 s post)) h ?_ ?_
    · intro v3_9 v4_10 h
      obtain ⟨v5_12, ev5_12⟩ : ∃ z : Int, z = w32 (v5_3 + 1) := ⟨_, rfl⟩
      replace h := h v5_12 ev5_12
      refine Ev_iinc (v := v5_12) dX10_isSide_119 5 rfl ev5_12.symm (by decide) rfl ?_
      refine Ev_goto (tgt := 8) dX10_isSide_122 (by decide) ?_
      refine Ev_sub [1, 2, 3, 4, 5, 0] rfl ?_
      exact hagain_4 _ _ _ h
    · intro K_11 hK_11 h
      refine Ev_icmp_eq (tgt := 31) dX10_isSide_25 (by decide) (fun hc => ?_) (fun hc => ?_)
      · replace h := h.1 hc
        refine Ev_aload_n dX10_isSide_31 0 rfl ?_
        refine Ev_aload_n dX10_isSide_32 0 rfl ?_
        refine Ev_getr 68 (78) dX10_isSide_33 f_RX10_38 rfl sh_68 rfl ?_
        refine Ev_iload_n dX10_isSide_36 2 rfl ?_
        obtain ⟨hb_13, h⟩ := h
        refine Ev_iald (78) dX10_isSide_37 rfl sh_78 hb_13 ?_
        refine Ev_aload_n dX10_isSide_38 0 rfl ?_
        refine Ev_getr 68 (78) dX10_isSide_39 f_RX10_38 rfl sh_68 rfl ?_
        refine Ev_iload_n dX10_isSide_42 1 rfl ?_
        obtain ⟨hb_14, h⟩ := h
        refine Ev_iald (78) dX10_isSide_43 rfl sh_78 hb_14 ?_
        refine Ev_isub dX10_isSide_44 ?_
        refine Ev_aload_n dX10_isSide_45 0 rfl ?_
        refine Ev_getr 68 (79) dX10_isSide_46 f_RX10_41 rfl sh_68 rfl ?_
        refine Ev_iload_n dX10_isSide_49 2 rfl ?_
        obtain ⟨hb_15, h⟩ := h
        refine Ev_iald (79) dX10_isSide_50 rfl sh_79 hb_15 ?_
        refine Ev_aload_n dX10_isSide_51 0 rfl ?_
        refine Ev_getr 68 (79) dX10_isSide_52 f_RX10_41 rfl sh_68 rfl ?_
        refine Ev_iload_n dX10_isSide_55 1 rfl ?_
        obtain ⟨hb_16, h⟩ := h
        refine Ev_iald (79) dX10_isSide_56 rfl sh_79 hb_16 ?_
        refine Ev_isub dX10_isSide_57 ?_
        refine Ev_aload_n dX10_isSide_58 0 rfl ?_
        refine Ev_getr 68 (78) dX10_isSide_59 f_RX10_38 rfl sh_68 rfl ?_
        refine Ev_iload dX10_isSide_62 5 rfl ?_
        obtain ⟨hb_17, h⟩ := h
        refine Ev_iald (78) dX10_isSide_64 rfl sh_78 hb_17 ?_
        refine Ev_aload_n dX10_isSide_65 0 rfl ?_
        refine Ev_getr 68 (78) dX10_isSide_66 f_RX10_38 rfl sh_68 rfl ?_
        refine Ev_iload_n dX10_isSide_69 1 rfl ?_
        obtain ⟨hb_18, h⟩ := h
        refine Ev_iald (78) dX10_isSide_70 rfl sh_78 hb_18 ?_
        refine Ev_isub dX10_isSide_71 ?_
        refine Ev_aload_n dX10_isSide_72 0 rfl ?_
        refine Ev_getr 68 (79) dX10_isSide_73 f_RX10_41 rfl sh_68 rfl ?_
        refine Ev_iload dX10_isSide_76 5 rfl ?_
        obtain ⟨hb_19, h⟩ := h
        refine Ev_iald (79) dX10_isSide_78 rfl sh_79 hb_19 ?_
        refine Ev_aload_n dX10_isSide_79 0 rfl ?_
        refine Ev_getr 68 (79) dX10_isSide_80 f_RX10_41 rfl sh_68 rfl ?_
        refine Ev_iload_n dX10_isSide_83 1 rfl ?_
        obtain ⟨hb_20, h⟩ := h
        refine Ev_iald (79) dX10_isSide_84 rfl sh_79 hb_20 ?_
        refine Ev_isub dX10_isSide_85 ?_
        refine Ev_invV (d' := 0) [(0, w32 ((s 78 v2.toNat) - (s 78 v1.toNat))), (0, w32 ((s 79 v2.toNat) - (s 79 v1.toNat))), (0, w32 ((s 78 v5_3.toNat) - (s 78 v1.toNat))), (0, w32 ((s 79 v5_3.toNat) - (s 79 v1.toNat)))] 68 dX10_isSide_86 M_X10_turn q_1070 (by decide) rfl rfl sh_68 rfl (Nat.le_of_ble_eq_true rfl) (k_X10_turn h) ?_
        rintro _ _ ⟨rfl, r_21, rfl, h⟩
        refine Ev_istore dX10_isSide_89 (by decide) rfl ?_
        refine Ev_iload_n dX10_isSide_91 4 rfl ?_
        refine Ev_iload dX10_isSide_92 0 rfl ?_
        refine jc_1 (P := fun (t_22 : Int) => Ev mX10_isSide 1 102 [(0, (2, 68)), (1, (0, v1)), (2, (0, v2)), (4, (0, v4_2)), (5, (0, v5_3)), (6, (0, r_21))] [(0, t_22), (0, v3_1)] s (poI 0 s post)) h ?_ ?_
        · intro t_22 h
          refine Ev_ior dX10_isSide_102 ?_
          obtain ⟨v3_24, ev3_24⟩ : ∃ z : Int, z = ior v3_1 t_22 := ⟨_, rfl⟩
          replace h := h v3_24 ev3_24
          rw [← ev3_24]
          refine Ev_istore_n dX10_isSide_103 (by decide) rfl ?_
          refine Ev_iload dX10_isSide_104 4 rfl ?_
          refine Ev_iload dX10_isSide_106 6 rfl ?_
          refine jc_1 (P := fun (t_25 : Int) => Ev mX10_isSide 1 116 [(0, (2, 68)), (1, (0, v1)), (2, (0, v2)), (3, (0, v3_24)), (5, (0, v5_3))] [(0, t_25), (0, v4_2)] s (poI 0 s post)) h ?_ ?_
          · intro t_25 h
            refine Ev_ior dX10_isSide_116 ?_
            obtain ⟨v4_27, ev4_27⟩ : ∃ z : Int, z = ior v4_2 t_25 := ⟨_, rfl⟩
            replace h := h v4_27 ev4_27
            rw [← ev4_27]
            refine Ev_istore dX10_isSide_117 (by decide) rfl ?_
            refine Ev_sub [1, 2, 3, 4, 0, 5] rfl ?_
            exact hK_11 _ _ h
          · intro K_26 hK_26 h
            refine Ev_if_ge (tgt := 115) dX10_isSide_108 (by decide) (fun hc => ?_) (fun hc => ?_)
            · replace h := h.1 hc
              refine Ev_iconst (v := 0) dX10_isSide_115 rfl ⟨by decide, by decide⟩ ?_
              refine Ev_sub [1, 2, 3, 0, 5] rfl ?_
              exact hK_26 _ h
            · replace h := h.2 hc
              refine Ev_iconst (v := 1) dX10_isSide_111 rfl ⟨by decide, by decide⟩ ?_
              refine Ev_goto (tgt := 116) dX10_isSide_112 (by decide) ?_
              refine Ev_sub [1, 2, 3, 0, 5] rfl ?_
              exact hK_26 _ h
        · intro K_23 hK_23 h
          refine Ev_if_le (tgt := 101) dX10_isSide_94 (by decide) (fun hc => ?_) (fun hc => ?_)
          · replace h := h.1 hc
            refine Ev_iconst (v := 0) dX10_isSide_101 rfl ⟨by decide, by decide⟩ ?_
            refine Ev_sub [1, 2, 3, 5, 6, 0] rfl ?_
            exact hK_23 _ h
          · replace h := h.2 hc
            refine Ev_iconst (v := 1) dX10_isSide_97 rfl ⟨by decide, by decide⟩ ?_
            refine Ev_goto (tgt := 102) dX10_isSide_98 (by decide) ?_
            refine Ev_sub [1, 2, 3, 5, 6, 0] rfl ?_
            exact hK_23 _ h
      · replace h := h.2 hc
        refine Ev_goto (tgt := 119) dX10_isSide_28 (by decide) ?_
        exact hK_11 _ _ h
theorem k_X10_tellHulls {s : Sg} {post : Int → Sg → Prop} (h : w_X10_tellHulls s post) : EvM mX10_tellHulls 2 [(2, 68)] s (poIs 0 post) := by
  refine EvM_of rfl (by decide +kernel) (Nat.le_of_ble_eq_true rfl) ?_
  unfold w_X10_tellHulls at h
  show Ev mX10_tellHulls 2 0 [(0, (2, 68))] [] s (poIs 0 post)
  refine Ev_aload_n dX10_tellHulls_0 0 rfl ?_
  refine Ev_iconst (v := 0) dX10_tellHulls_1 rfl ⟨by decide, by decide⟩ ?_
  obtain ⟨s_1, es_1⟩ : ∃ z : Sg, z = (up s 68 15 0) := ⟨_, rfl⟩
  replace h := h s_1 es_1
  refine Ev_puti 68 dX10_tellHulls_2 fp_RX10_221 rfl sh_68 ?_
  rw [← es_1]
  refine Ev_iconst (v := 0) dX10_tellHulls_5 rfl ⟨by decide, by decide⟩ ?_
  refine Ev_istore_n dX10_tellHulls_6 (by decide) rfl ?_
  refine Ev_sub [1, 0] rfl ?_
  refine li_1s (P := fun (v1_2 : Int) (s_3 : Sg) => Ev mX10_tellHulls 2 7 [(0, (2, 68)), (1, (0, v1_2))] [] s_3 (poIs 0 post)) ?_ h
  intro again_4 v1_2 s_3 hagain_4 h
  refine Ev_iload_n dX10_tellHulls_7 1 rfl ?_
  refine Ev_aload_n dX10_tellHulls_8 0 rfl ?_
  refine Ev_geti 68 dX10_tellHulls_9 f_RX10_109 rfl sh_68 ?_
  refine Ev_icmp_ge (tgt := 55) dX10_tellHulls_12 (by decide) (fun hc => ?_) (fun hc => ?_)
  · replace h := h.1 hc
    refine Ev_iconst (v := 0) dX10_tellHulls_55 rfl ⟨by decide, by decide⟩ ?_
    refine Ev_istore_n dX10_tellHulls_56 (by decide) rfl ?_
    refine Ev_aload_n dX10_tellHulls_57 1 rfl ?_
    refine Ev_geti 68 dX10_tellHulls_58 f_RX10_221 rfl sh_68 ?_
    obtain ⟨v2_5, ev2_5⟩ : ∃ z : Int, z = s_3 68 15 := ⟨_, rfl⟩
    replace h := h v2_5 ev2_5
    rw [← ev2_5]
    refine Ev_istore_n dX10_tellHulls_61 (by decide) rfl ?_
    refine Ev_sub [2, 1, 0] rfl ?_
    refine li_2s (P := fun (v1_6 v2_7 : Int) (s_8 : Sg) => Ev mX10_tellHulls 2 62 [(0, (2, 68)), (1, (0, v1_6)), (2, (0, v2_7))] [] s_8 (poIs 0 post)) ?_ h
    intro again_9 v1_6 v2_7 s_8 hagain_9 h
    refine Ev_iload_n dX10_tellHulls_62 2 rfl ?_
    refine Ev_if_le (tgt := 321) dX10_tellHulls_63 (by decide) (fun hc => ?_) (fun hc => ?_)
    · replace h := h.1 hc
      refine Ev_iload_n dX10_tellHulls_321 1 rfl ?_
      exact Ev_ret dX10_tellHulls_322 trivial (poIs_mk h)
    · replace h := h.2 hc
      refine Ev_iconst (v := 0) dX10_tellHulls_66 rfl ⟨by decide, by decide⟩ ?_
      refine Ev_istore_n dX10_tellHulls_67 (by decide) rfl ?_
      refine Ev_sub [1, 2, 3, 0] rfl ?_
      refine li_1s (P := fun (v3_10 : Int) (s_11 : Sg) => Ev mX10_tellHulls 2 68 [(0, (2, 68)), (1, (0, v1_6)), (2, (0, v2_7)), (3, (0, v3_10))] [] s_11 (poIs 0 post)) ?_ h
      intro again_12 v3_10 s_11 hagain_12 h
      refine Ev_iload_n dX10_tellHulls_68 3 rfl ?_
      refine Ev_aload_n dX10_tellHulls_69 0 rfl ?_
      refine Ev_geti 68 dX10_tellHulls_70 f_RX10_221 rfl sh_68 ?_
      refine Ev_icmp_ge (tgt := 108) dX10_tellHulls_73 (by decide) (fun hc => ?_) (fun hc => ?_)
      · replace h := h.1 hc
        refine Ev_iconst (v := 0) dX10_tellHulls_108 rfl ⟨by decide, by decide⟩ ?_
        refine Ev_istore_n dX10_tellHulls_109 (by decide) rfl ?_
        refine Ev_sub [1, 2, 3, 0] rfl ?_
        refine li_1s (P := fun (v3_13 : Int) (s_14 : Sg) => Ev mX10_tellHulls 2 110 [(0, (2, 68)), (1, (0, v1_6)), (2, (0, v2_7)), (3, (0, v3_13))] [] s_14 (poIs 0 post)) ?_ h
        intro again_15 v3_13 s_14 hagain_15 h
        refine Ev_iload_n dX10_tellHulls_110 3 rfl ?_
        refine Ev_aload_n dX10_tellHulls_111 0 rfl ?_
        refine Ev_geti 68 dX10_tellHulls_112 f_RX10_221 rfl sh_68 ?_
        refine Ev_icmp_ge (tgt := 277) dX10_tellHulls_115 (by decide) (fun hc => ?_) (fun hc => ?_)
        · replace h := h.1 hc
          refine Ev_iconst (v := 0) dX10_tellHulls_277 rfl ⟨by decide, by decide⟩ ?_
          refine Ev_istore_n dX10_tellHulls_278 (by decide) rfl ?_
          refine Ev_sub [1, 2, 3, 0] rfl ?_
          refine li_2s (P := fun (v2_16 v3_17 : Int) (s_18 : Sg) => Ev mX10_tellHulls 2 279 [(0, (2, 68)), (1, (0, v1_6)), (2, (0, v2_16)), (3, (0, v3_17))] [] s_18 (poIs 0 post)) ?_ h
          intro again_19 v2_16 v3_17 s_18 hagain_19 h
          refine Ev_iload_n dX10_tellHulls_279 3 rfl ?_
          refine Ev_aload_n dX10_tellHulls_280 0 rfl ?_
          refine Ev_geti 68 dX10_tellHulls_281 f_RX10_221 rfl sh_68 ?_
          refine Ev_icmp_ge (tgt := 315) dX10_tellHulls_284 (by decide) (fun hc => ?_) (fun hc => ?_)
          · replace h := h.1 hc
            obtain ⟨v1_20, ev1_20⟩ : ∃ z : Int, z = w32 (v1_6 + 1) := ⟨_, rfl⟩
            replace h := h v1_20 ev1_20
            refine Ev_iinc (v := v1_20) dX10_tellHulls_315 1 rfl ev1_20.symm (by decide) rfl ?_
            refine Ev_goto (tgt := 62) dX10_tellHulls_318 (by decide) ?_
            refine Ev_sub [1, 0, 2] rfl ?_
            exact hagain_9 _ _ _ h
          · replace h := h.2 hc
            refine Ev_aload_n dX10_tellHulls_287 0 rfl ?_
            refine Ev_getr 68 (81) dX10_tellHulls_288 f_RX10_47 rfl sh_68 rfl ?_
            refine Ev_iload_n dX10_tellHulls_291 3 rfl ?_
            obtain ⟨hb_21, h⟩ := h
            refine Ev_zald (81) dX10_tellHulls_292 rfl sh_81 hb_21 ?_
            refine jc_1s (P := fun (v2_22 : Int) (s_23 : Sg) => Ev mX10_tellHulls 2 309 [(0, (2, 68)), (1, (0, v1_6)), (2, (0, v2_22)), (3, (0, v3_17))] [] s_23 (poIs 0 post)) h ?_ ?_
            · intro v2_22 s_23 h
              obtain ⟨v3_25, ev3_25⟩ : ∃ z : Int, z = w32 (v3_17 + 1) := ⟨_, rfl⟩
              replace h := h v3_25 ev3_25
              refine Ev_iinc (v := v3_25) dX10_tellHulls_309 3 rfl ev3_25.symm (by decide) rfl ?_
              refine Ev_goto (tgt := 279) dX10_tellHulls_312 (by decide) ?_
              refine Ev_sub [1, 2, 3, 0] rfl ?_
              exact hagain_19 _ _ _ h
            · intro K_24 hK_24 h
              refine Ev_if_ne (tgt := 299) dX10_tellHulls_293 (by decide) (fun hc => ?_) (fun hc => ?_)
              · replace h := h.1 hc
                refine Ev_aload_n dX10_tellHulls_299 0 rfl ?_
                refine Ev_getr 68 (80) dX10_tellHulls_300 f_RX10_44 rfl sh_68 rfl ?_
                refine Ev_iload_n dX10_tellHulls_303 3 rfl ?_
                refine Ev_iload_n dX10_tellHulls_304 1 rfl ?_
                obtain ⟨hb_26, h⟩ := h
                obtain ⟨s_27, es_27⟩ : ∃ z : Sg, z = (up s_18 80 (v3_17.toNat) v1_6) := ⟨_, rfl⟩
                replace h := h s_27 es_27
                refine Ev_iast (80) dX10_tellHulls_305 rfl sh_80 hb_26 ?_
                rw [← es_27]
                obtain ⟨v2_28, ev2_28⟩ : ∃ z : Int, z = w32 (v2_16 + (-1)) := ⟨_, rfl⟩
                replace h := h v2_28 ev2_28
                refine Ev_iinc (v := v2_28) dX10_tellHulls_306 2 rfl ev2_28.symm (by decide) rfl ?_
                refine Ev_sub [1, 2, 0, 3] rfl ?_
                exact hK_24 _ _ h
              · replace h := h.2 hc
                refine Ev_goto (tgt := 309) dX10_tellHulls_296 (by decide) ?_
                exact hK_24 _ _ h
        · replace h := h.2 hc
          refine Ev_iconst (v := 0) dX10_tellHulls_118 rfl ⟨by decide, by decide⟩ ?_
          refine Ev_istore dX10_tellHulls_119 (by decide) rfl ?_
          refine Ev_sub [1, 2, 3, 4, 0] rfl ?_
          refine li_1s (P := fun (v4_29 : Int) (s_30 : Sg) => Ev mX10_tellHulls 2 121 [(0, (2, 68)), (1, (0, v1_6)), (2, (0, v2_7)), (3, (0, v3_13)), (4, (0, v4_29))] [] s_30 (poIs 0 post)) ?_ h
          intro again_31 v4_29 s_30 hagain_31 h
          refine Ev_iload dX10_tellHulls_121 4 rfl ?_
          refine Ev_iload_n dX10_tellHulls_123 3 rfl ?_
          refine Ev_icmp_ge (tgt := 271) dX10_tellHulls_124 (by decide) (fun hc => ?_) (fun hc => ?_)
          · replace h := h.1 hc
            obtain ⟨v3_32, ev3_32⟩ : ∃ z : Int, z = w32 (v3_13 + 1) := ⟨_, rfl⟩
            replace h := h v3_32 ev3_32
            refine Ev_iinc (v := v3_32) dX10_tellHulls_271 3 rfl ev3_32.symm (by decide) rfl ?_
            refine Ev_goto (tgt := 110) dX10_tellHulls_274 (by decide) ?_
            refine Ev_sub [1, 2, 3, 0] rfl ?_
            exact hagain_15 _ _ h
          · replace h := h.2 hc
            refine Ev_aload_n dX10_tellHulls_127 0 rfl ?_
            refine Ev_getr 68 (80) dX10_tellHulls_128 f_RX10_44 rfl sh_68 rfl ?_
            refine Ev_iload_n dX10_tellHulls_131 3 rfl ?_
            obtain ⟨hb_33, h⟩ := h
            refine Ev_iald (80) dX10_tellHulls_132 rfl sh_80 hb_33 ?_
            refine Ev_iconst (v := -1) dX10_tellHulls_133 rfl ⟨by decide, by decide⟩ ?_
            refine jc_0s (P := fun (s_34 : Sg) => Ev mX10_tellHulls 2 265 [(0, (2, 68)), (1, (0, v1_6)), (2, (0, v2_7)), (3, (0, v3_13)), (4, (0, v4_29))] [] s_34 (poIs 0 post)) h ?_ ?_
            · intro s_34 h
              obtain ⟨v4_36, ev4_36⟩ : ∃ z : Int, z = w32 (v4_29 + 1) := ⟨_, rfl⟩
              replace h := h v4_36 ev4_36
              refine Ev_iinc (v := v4_36) dX10_tellHulls_265 4 rfl ev4_36.symm (by decide) rfl ?_
              refine Ev_goto (tgt := 121) dX10_tellHulls_268 (by decide) ?_
              refine Ev_sub [1, 2, 3, 4, 0] rfl ?_
              exact hagain_31 _ _ h
            · intro K_35 hK_35 h
              refine Ev_icmp_ne (tgt := 265) dX10_tellHulls_134 (by decide) (fun hc => ?_) (fun hc => ?_)
              · replace h := h.1 hc
                exact hK_35 _ h
              · replace h := h.2 hc
                refine Ev_aload_n dX10_tellHulls_137 0 rfl ?_
                refine Ev_getr 68 (80) dX10_tellHulls_138 f_RX10_44 rfl sh_68 rfl ?_
                refine Ev_iload dX10_tellHulls_141 4 rfl ?_
                obtain ⟨hb_37, h⟩ := h
                refine Ev_iald (80) dX10_tellHulls_143 rfl sh_80 hb_37 ?_
                refine Ev_iconst (v := -1) dX10_tellHulls_144 rfl ⟨by decide, by decide⟩ ?_
                refine Ev_icmp_ne (tgt := 265) dX10_tellHulls_145 (by decide) (fun hc => ?_) (fun hc => ?_)
                · replace h := h.1 hc
                  exact hK_35 _ h
                · replace h := h.2 hc
                  refine Ev_aload_n dX10_tellHulls_148 0 rfl ?_
                  refine Ev_iload_n dX10_tellHulls_149 3 rfl ?_
                  refine Ev_iload dX10_tellHulls_150 4 rfl ?_
                  refine Ev_invV (d' := 1) [(0, v3_13), (0, v4_29)] 68 dX10_tellHulls_152 M_X10_isSide q_1155 (by decide) rfl rfl sh_68 rfl (Nat.le_of_ble_eq_true rfl) (k_X10_isSide h) ?_
                  rintro _ _ ⟨rfl, r_38, rfl, h⟩
                  refine Ev_if_eq (tgt := 265) dX10_tellHulls_155 (by decide) (fun hc => ?_) (fun hc => ?_)
                  · replace h := h.1 hc
                    exact hK_35 _ h
                  · replace h := h.2 hc
                    refine Ev_iconst (v := 0) dX10_tellHulls_158 rfl ⟨by decide, by decide⟩ ?_
                    refine Ev_istore dX10_tellHulls_159 (by decide) rfl ?_
                    refine Ev_sub [1, 2, 3, 4, 5, 0] rfl ?_
                    refine li_1s (P := fun (v5_39 : Int) (s_40 : Sg) => Ev mX10_tellHulls 2 161 [(0, (2, 68)), (1, (0, v1_6)), (2, (0, v2_7)), (3, (0, v3_13)), (4, (0, v4_29)), (5, (0, v5_39))] [] s_40 (poIs 0 post)) ?_ h
                    intro again_41 v5_39 s_40 hagain_41 h
                    refine Ev_iload dX10_tellHulls_161 5 rfl ?_
                    refine Ev_aload_n dX10_tellHulls_163 0 rfl ?_
                    refine Ev_geti 68 dX10_tellHulls_164 f_RX10_221 rfl sh_68 ?_
                    refine Ev_icmp_ge (tgt := 265) dX10_tellHulls_167 (by decide) (fun hc => ?_) (fun hc => ?_)
                    · replace h := h.1 hc
                      refine Ev_sub [0, 1, 2, 3, 4] rfl ?_
                      exact hK_35 _ h
                    · replace h := h.2 hc
                      refine Ev_aload_n dX10_tellHulls_170 0 rfl ?_
                      refine Ev_getr 68 (81) dX10_tellHulls_171 f_RX10_47 rfl sh_68 rfl ?_
                      refine Ev_iload dX10_tellHulls_174 5 rfl ?_
                      refine Ev_dup2 dX10_tellHulls_176 (show ¬ (0 : Nat) = 1 by decide) (show ¬ (2 : Nat) = 1 by decide) ?_
                      obtain ⟨hb_42, h⟩ := h
                      refine Ev_zald (81) dX10_tellHulls_177 rfl sh_81 hb_42 ?_
                      refine Ev_aload_n dX10_tellHulls_178 0 rfl ?_
                      refine Ev_getr 68 (80) dX10_tellHulls_179 f_RX10_44 rfl sh_68 rfl ?_
                      refine Ev_iload dX10_tellHulls_182 5 rfl ?_
                      obtain ⟨hb_43, h⟩ := h
                      refine Ev_iald (80) dX10_tellHulls_184 rfl sh_80 hb_43 ?_
                      refine Ev_iconst (v := -1) dX10_tellHulls_185 rfl ⟨by decide, by decide⟩ ?_
                      refine jc_1 (P := fun (t_44 : Int) => Ev mX10_tellHulls 2 257 [(0, (2, 68)), (1, (0, v1_6)), (2, (0, v2_7)), (3, (0, v3_13)), (4, (0, v4_29)), (5, (0, v5_39))] [(0, t_44), (0, s_40 81 v5_39.toNat), (0, v5_39), (2, 81)] s_40 (poIs 0 post)) h ?_ ?_
                      · intro t_44 h
                        refine Ev_ior dX10_tellHulls_257 ?_
                        obtain ⟨hb_46, h⟩ := h
                        obtain ⟨hz, h⟩ := h
                        obtain ⟨s_47, es_47⟩ : ∃ z : Sg, z = (up s_40 81 (v5_39.toNat) (ior (s_40 81 v5_39.toNat) t_44)) := ⟨_, rfl⟩
                        replace h := h s_47 es_47
                        refine Ev_zast (81) dX10_tellHulls_258 rfl sh_81 hb_46 hz ?_
                        rw [← es_47]
                        obtain ⟨v5_48, ev5_48⟩ : ∃ z : Int, z = w32 (v5_39 + 1) := ⟨_, rfl⟩
                        replace h := h v5_48 ev5_48
                        refine Ev_iinc (v := v5_48) dX10_tellHulls_259 5 rfl ev5_48.symm (by decide) rfl ?_
                        refine Ev_goto (tgt := 161) dX10_tellHulls_262 (by decide) ?_
                        refine Ev_sub [1, 2, 3, 4, 5, 0] rfl ?_
                        exact hagain_41 _ _ h
                      · intro K_45 hK_45 h
                        refine jc_0 (P := Ev mX10_tellHulls 2 256 [(0, (2, 68)), (1, (0, v1_6)), (2, (0, v2_7)), (3, (0, v3_13)), (4, (0, v4_29)), (5, (0, v5_39))] [(0, s_40 81 v5_39.toNat), (0, v5_39), (2, 81)] s_40 (poIs 0 post)) h ?_ ?_
                        · intro  h
                          refine Ev_iconst (v := 0) dX10_tellHulls_256 rfl ⟨by decide, by decide⟩ ?_
                          exact hK_45 _ h
                        · intro K_49 hK_49 h
                          refine Ev_icmp_ne (tgt := 256) dX10_tellHulls_186 (by decide) (fun hc => ?_) (fun hc => ?_)
                          · replace h := h.1 hc
                            exact hK_49 h
                          · replace h := h.2 hc
                            refine Ev_aload_n dX10_tellHulls_189 0 rfl ?_
                            refine Ev_aload_n dX10_tellHulls_190 0 rfl ?_
                            refine Ev_getr 68 (78) dX10_tellHulls_191 f_RX10_38 rfl sh_68 rfl ?_
                            refine Ev_iload dX10_tellHulls_194 4 rfl ?_
                            obtain ⟨hb_50, h⟩ := h
                            refine Ev_iald (78) dX10_tellHulls_196 rfl sh_78 hb_50 ?_
                            refine Ev_aload_n dX10_tellHulls_197 0 rfl ?_
                            refine Ev_getr 68 (78) dX10_tellHulls_198 f_RX10_38 rfl sh_68 rfl ?_
                            refine Ev_iload_n dX10_tellHulls_201 3 rfl ?_
                            obtain ⟨hb_51, h⟩ := h
                            refine Ev_iald (78) dX10_tellHulls_202 rfl sh_78 hb_51 ?_
                            refine Ev_isub dX10_tellHulls_203 ?_
                            refine Ev_aload_n dX10_tellHulls_204 0 rfl ?_
                            refine Ev_getr 68 (79) dX10_tellHulls_205 f_RX10_41 rfl sh_68 rfl ?_
                            refine Ev_iload dX10_tellHulls_208 4 rfl ?_
                            obtain ⟨hb_52, h⟩ := h
                            refine Ev_iald (79) dX10_tellHulls_210 rfl sh_79 hb_52 ?_
                            refine Ev_aload_n dX10_tellHulls_211 0 rfl ?_
                            refine Ev_getr 68 (79) dX10_tellHulls_212 f_RX10_41 rfl sh_68 rfl ?_
                            refine Ev_iload_n dX10_tellHulls_215 3 rfl ?_
                            obtain ⟨hb_53, h⟩ := h
                            refine Ev_iald (79) dX10_tellHulls_216 rfl sh_79 hb_53 ?_
                            refine Ev_isub dX10_tellHulls_217 ?_
                            refine Ev_aload_n dX10_tellHulls_218 0 rfl ?_
                            refine Ev_getr 68 (78) dX10_tellHulls_219 f_RX10_38 rfl sh_68 rfl ?_
                            refine Ev_iload dX10_tellHulls_222 5 rfl ?_
                            obtain ⟨hb_54, h⟩ := h
                            refine Ev_iald (78) dX10_tellHulls_224 rfl sh_78 hb_54 ?_
                            refine Ev_aload_n dX10_tellHulls_225 0 rfl ?_
                            refine Ev_getr 68 (78) dX10_tellHulls_226 f_RX10_38 rfl sh_68 rfl ?_
                            refine Ev_iload_n dX10_tellHulls_229 3 rfl ?_
                            obtain ⟨hb_55, h⟩ := h
                            refine Ev_iald (78) dX10_tellHulls_230 rfl sh_78 hb_55 ?_
                            refine Ev_isub dX10_tellHulls_231 ?_
                            refine Ev_aload_n dX10_tellHulls_232 0 rfl ?_
                            refine Ev_getr 68 (79) dX10_tellHulls_233 f_RX10_41 rfl sh_68 rfl ?_
                            refine Ev_iload dX10_tellHulls_236 5 rfl ?_
                            obtain ⟨hb_56, h⟩ := h
                            refine Ev_iald (79) dX10_tellHulls_238 rfl sh_79 hb_56 ?_
                            refine Ev_aload_n dX10_tellHulls_239 0 rfl ?_
                            refine Ev_getr 68 (79) dX10_tellHulls_240 f_RX10_41 rfl sh_68 rfl ?_
                            refine Ev_iload_n dX10_tellHulls_243 3 rfl ?_
                            obtain ⟨hb_57, h⟩ := h
                            refine Ev_iald (79) dX10_tellHulls_244 rfl sh_79 hb_57 ?_
                            refine Ev_isub dX10_tellHulls_245 ?_
                            refine Ev_invV (d' := 0) [(0, w32 ((s_40 78 v4_29.toNat) - (s_40 78 v3_13.toNat))), (0, w32 ((s_40 79 v4_29.toNat) - (s_40 79 v3_13.toNat))), (0, w32 ((s_40 78 v5_39.toNat) - (s_40 78 v3_13.toNat))), (0, w32 ((s_40 79 v5_39.toNat) - (s_40 79 v3_13.toNat)))] 68 dX10_tellHulls_246 M_X10_turn q_1070 (by decide) rfl rfl sh_68 rfl (Nat.le_of_ble_eq_true rfl) (k_X10_turn h) ?_
                            rintro _ _ ⟨rfl, r_58, rfl, h⟩
                            refine Ev_if_ne (tgt := 256) dX10_tellHulls_249 (by decide) (fun hc => ?_) (fun hc => ?_)
                            · replace h := h.1 hc
                              exact hK_49 h
                            · replace h := h.2 hc
                              refine Ev_iconst (v := 1) dX10_tellHulls_252 rfl ⟨by decide, by decide⟩ ?_
                              refine Ev_goto (tgt := 257) dX10_tellHulls_253 (by decide) ?_
                              exact hK_45 _ h
      · replace h := h.2 hc
        refine Ev_aload_n dX10_tellHulls_76 0 rfl ?_
        refine Ev_getr 68 (81) dX10_tellHulls_77 f_RX10_47 rfl sh_68 rfl ?_
        refine Ev_iload_n dX10_tellHulls_80 3 rfl ?_
        refine Ev_aload_n dX10_tellHulls_81 0 rfl ?_
        refine Ev_getr 68 (80) dX10_tellHulls_82 f_RX10_44 rfl sh_68 rfl ?_
        refine Ev_iload_n dX10_tellHulls_85 3 rfl ?_
        obtain ⟨hb_59, h⟩ := h
        refine Ev_iald (80) dX10_tellHulls_86 rfl sh_80 hb_59 ?_
        refine Ev_iconst (v := -1) dX10_tellHulls_87 rfl ⟨by decide, by decide⟩ ?_
        refine jc_1 (P := fun (t_60 : Int) => Ev mX10_tellHulls 2 101 [(0, (2, 68)), (1, (0, v1_6)), (2, (0, v2_7)), (3, (0, v3_10))] [(0, t_60), (0, v3_10), (2, 81)] s_11 (poIs 0 post)) h ?_ ?_
        · intro t_60 h
          obtain ⟨hb_62, h⟩ := h
          obtain ⟨hz, h⟩ := h
          obtain ⟨s_63, es_63⟩ : ∃ z : Sg, z = (up s_11 81 (v3_10.toNat) t_60) := ⟨_, rfl⟩
          replace h := h s_63 es_63
          refine Ev_zast (81) dX10_tellHulls_101 rfl sh_81 hb_62 hz ?_
          rw [← es_63]
          obtain ⟨v3_64, ev3_64⟩ : ∃ z : Int, z = w32 (v3_10 + 1) := ⟨_, rfl⟩
          replace h := h v3_64 ev3_64
          refine Ev_iinc (v := v3_64) dX10_tellHulls_102 3 rfl ev3_64.symm (by decide) rfl ?_
          refine Ev_goto (tgt := 68) dX10_tellHulls_105 (by decide) ?_
          refine Ev_sub [1, 2, 3, 0] rfl ?_
          exact hagain_12 _ _ h
        · intro K_61 hK_61 h
          refine jc_0 (P := Ev mX10_tellHulls 2 100 [(0, (2, 68)), (1, (0, v1_6)), (2, (0, v2_7)), (3, (0, v3_10))] [(0, v3_10), (2, 81)] s_11 (poIs 0 post)) h ?_ ?_
          · intro  h
            refine Ev_iconst (v := 0) dX10_tellHulls_100 rfl ⟨by decide, by decide⟩ ?_
            exact hK_61 _ h
          · intro K_65 hK_65 h
            refine Ev_icmp_ne (tgt := 100) dX10_tellHulls_88 (by decide) (fun hc => ?_) (fun hc => ?_)
            · replace h := h.1 hc
              exact hK_65 h
            · replace h := h.2 hc
              refine Ev_iload_n dX10_tellHulls_91 2 rfl ?_
              refine Ev_iconst (v := 1) dX10_tellHulls_92 rfl ⟨by decide, by decide⟩ ?_
              refine Ev_icmp_ne (tgt := 100) dX10_tellHulls_93 (by decide) (fun hc => ?_) (fun hc => ?_)
              · replace h := h.1 hc
                exact hK_65 h
              · replace h := h.2 hc
                refine Ev_iconst (v := 1) dX10_tellHulls_96 rfl ⟨by decide, by decide⟩ ?_
                refine Ev_goto (tgt := 101) dX10_tellHulls_97 (by decide) ?_
                exact hK_61 _ h
  · replace h := h.2 hc
    refine Ev_aload_n dX10_tellHulls_15 0 rfl ?_
    refine Ev_aload_n dX10_tellHulls_16 0 rfl ?_
    refine Ev_getr 68 (69) dX10_tellHulls_17 f_RX10_9 rfl sh_68 rfl ?_
    refine Ev_iload_n dX10_tellHulls_20 1 rfl ?_
    obtain ⟨hb_66, h⟩ := h
    refine Ev_iald (69) dX10_tellHulls_21 rfl sh_69 hb_66 ?_
    refine Ev_aload_n dX10_tellHulls_22 0 rfl ?_
    refine Ev_getr 68 (70) dX10_tellHulls_23 f_RX10_13 rfl sh_68 rfl ?_
    refine Ev_iload_n dX10_tellHulls_26 1 rfl ?_
    obtain ⟨hb_67, h⟩ := h
    refine Ev_iald (70) dX10_tellHulls_27 rfl sh_70 hb_67 ?_
    refine Ev_invV (d' := 0) [(0, s_3 69 v1_2.toNat), (0, s_3 70 v1_2.toNat)] 68 dX10_tellHulls_28 M_X10_placeAt q_1151 (by decide) rfl rfl sh_68 rfl (Nat.le_of_ble_eq_true rfl) (k_X10_placeAt h) ?_
    rintro _ s_69 ⟨r_68, rfl, h⟩
    refine Ev_istore_n dX10_tellHulls_31 (by decide) rfl ?_
    refine Ev_aload_n dX10_tellHulls_32 1 rfl ?_
    refine Ev_aload_n dX10_tellHulls_33 1 rfl ?_
    refine Ev_getr 68 (71) dX10_tellHulls_34 f_RX10_16 rfl sh_68 rfl ?_
    refine Ev_iload_n dX10_tellHulls_37 2 rfl ?_
    obtain ⟨hb_70, h⟩ := h
    refine Ev_iald (71) dX10_tellHulls_38 rfl sh_71 hb_70 ?_
    refine Ev_aload_n dX10_tellHulls_39 1 rfl ?_
    refine Ev_getr 68 (72) dX10_tellHulls_40 f_RX10_19 rfl sh_68 rfl ?_
    refine Ev_iload_n dX10_tellHulls_43 2 rfl ?_
    obtain ⟨hb_71, h⟩ := h
    refine Ev_iald (72) dX10_tellHulls_44 rfl sh_72 hb_71 ?_
    refine Ev_invV (d' := 0) [(0, s_69 71 v1_2.toNat), (0, s_69 72 v1_2.toNat)] 68 dX10_tellHulls_45 M_X10_placeAt q_1151 (by decide) rfl rfl sh_68 rfl (Nat.le_of_ble_eq_true rfl) (k_X10_placeAt h) ?_
    rintro _ s_73 ⟨r_72, rfl, h⟩
    refine Ev_istore_n dX10_tellHulls_48 (by decide) rfl ?_
    obtain ⟨v1_74, ev1_74⟩ : ∃ z : Int, z = w32 (v1_2 + 1) := ⟨_, rfl⟩
    replace h := h v1_74 ev1_74
    refine Ev_iinc (v := v1_74) dX10_tellHulls_49 3 rfl ev1_74.symm (by decide) rfl ?_
    refine Ev_goto (tgt := 7) dX10_tellHulls_52 (by decide) ?_
    refine Ev_sub [3, 0] rfl ?_
    exact hagain_4 _ _ h
theorem k_X10_twos {s : Sg} {v1 : Int} {post : Int → Sg → Prop} (h : w_X10_twos s v1 post) : EvM mX10_twos 3 [(2, 68), (0, v1)] s (poIs 0 post) := by
  refine EvM_of rfl (by decide +kernel) (Nat.le_of_ble_eq_true rfl) ?_
  unfold w_X10_twos at h
  show Ev mX10_twos 3 0 [(0, (2, 68)), (1, (0, v1))] [] s (poIs 0 post)
  refine Ev_iconst (v := 0) dX10_twos_0 rfl ⟨by decide, by decide⟩ ?_
  refine Ev_istore_n dX10_twos_1 (by decide) rfl ?_
  refine Ev_iconst (v := 0) dX10_twos_2 rfl ⟨by decide, by decide⟩ ?_
  refine Ev_istore_n dX10_twos_3 (by decide) rfl ?_
  refine Ev_sub [2, 3, 1, 0] rfl ?_
  refine li_2s (P := fun (v2_1 v3_2 : Int) (s_3 : Sg) => Ev mX10_twos 3 4 [(0, (2, 68)), (1, (0, v1)), (2, (0, v2_1)), (3, (0, v3_2))] [] s_3 (poIs 0 post)) ?_ h
  intro again_4 v2_1 v3_2 s_3 hagain_4 h
  refine Ev_iload_n dX10_twos_4 3 rfl ?_
  refine Ev_aload_n dX10_twos_5 0 rfl ?_
  refine Ev_geti 68 dX10_twos_6 f_RX10_109 rfl sh_68 ?_
  refine Ev_icmp_ge (tgt := 51) dX10_twos_9 (by decide) (fun hc => ?_) (fun hc => ?_)
  · replace h := h.1 hc
    refine Ev_iload_n dX10_twos_51 2 rfl ?_
    exact Ev_ret dX10_twos_52 trivial (poIs_mk h)
  · replace h := h.2 hc
    refine Ev_iconst (v := 0) dX10_twos_12 rfl ⟨by decide, by decide⟩ ?_
    refine Ev_istore dX10_twos_13 (by decide) rfl ?_
    refine Ev_sub [1, 2, 3, 4, 0] rfl ?_
    refine li_2s (P := fun (v2_5 v4_6 : Int) (s_7 : Sg) => Ev mX10_twos 3 15 [(0, (2, 68)), (1, (0, v1)), (2, (0, v2_5)), (3, (0, v3_2)), (4, (0, v4_6))] [] s_7 (poIs 0 post)) ?_ h
    intro again_8 v2_5 v4_6 s_7 hagain_8 h
    refine Ev_iload dX10_twos_15 4 rfl ?_
    refine Ev_iload_n dX10_twos_17 3 rfl ?_
    refine Ev_icmp_ge (tgt := 45) dX10_twos_18 (by decide) (fun hc => ?_) (fun hc => ?_)
    · replace h := h.1 hc
      obtain ⟨v3_9, ev3_9⟩ : ∃ z : Int, z = w32 (v3_2 + 1) := ⟨_, rfl⟩
      replace h := h v3_9 ev3_9
      refine Ev_iinc (v := v3_9) dX10_twos_45 3 rfl ev3_9.symm (by decide) rfl ?_
      refine Ev_goto (tgt := 4) dX10_twos_48 (by decide) ?_
      refine Ev_sub [1, 2, 3, 0] rfl ?_
      exact hagain_4 _ _ _ h
    · replace h := h.2 hc
      refine Ev_aload_n dX10_twos_21 0 rfl ?_
      refine Ev_iload_n dX10_twos_22 3 rfl ?_
      refine Ev_iload dX10_twos_23 4 rfl ?_
      refine Ev_invV (d' := 2) [(0, v3_2), (0, v4_6)] 68 dX10_twos_25 M_X10_meet q_1066 (by decide) rfl rfl sh_68 rfl (Nat.le_of_ble_eq_true rfl) (k_X10_meet h) ?_
      rintro _ s_10 ⟨rfl, h⟩
      refine Ev_aload_n dX10_twos_28 0 rfl ?_
      refine Ev_geti 68 dX10_twos_29 f_RX10_140 rfl sh_68 ?_
      refine Ev_iload_n dX10_twos_32 1 rfl ?_
      refine jc_1 (P := fun (v2_11 : Int) => Ev mX10_twos 3 39 [(0, (2, 68)), (1, (0, v1)), (2, (0, v2_11)), (3, (0, v3_2)), (4, (0, v4_6))] [] s_10 (poIs 0 post)) h ?_ ?_
      · intro v2_11 h
        obtain ⟨v4_13, ev4_13⟩ : ∃ z : Int, z = w32 (v4_6 + 1) := ⟨_, rfl⟩
        replace h := h v4_13 ev4_13
        refine Ev_iinc (v := v4_13) dX10_twos_39 4 rfl ev4_13.symm (by decide) rfl ?_
        refine Ev_goto (tgt := 15) dX10_twos_42 (by decide) ?_
        refine Ev_sub [1, 2, 3, 4, 0] rfl ?_
        exact hagain_8 _ _ _ h
      · intro K_12 hK_12 h
        refine Ev_icmp_ne (tgt := 39) dX10_twos_33 (by decide) (fun hc => ?_) (fun hc => ?_)
        · replace h := h.1 hc
          exact hK_12 _ h
        · replace h := h.2 hc
          obtain ⟨v2_14, ev2_14⟩ : ∃ z : Int, z = w32 (v2_5 + 1) := ⟨_, rfl⟩
          replace h := h v2_14 ev2_14
          refine Ev_iinc (v := v2_14) dX10_twos_36 2 rfl ev2_14.symm (by decide) rfl ?_
          refine Ev_sub [1, 2, 0, 3, 4] rfl ?_
          exact hK_12 _ h
theorem k_X10_count {s : Sg} {v1 : Int} {post : Int → Sg → Prop} (h : w_X10_count s v1 post) : EvM mX10_count 105 [(2, 68), (0, v1)] s (poIs 0 post) := by
  refine EvM_of rfl (by decide +kernel) (Nat.le_of_ble_eq_true rfl) ?_
  unfold w_X10_count at h
  show Ev mX10_count 105 0 [(0, (2, 68)), (1, (0, v1))] [] s (poIs 0 post)
  refine Ev_iload_n dX10_count_0 1 rfl ?_
  refine Ev_iconst (v := 0) dX10_count_1 rfl ⟨by decide, by decide⟩ ?_
  refine Ev_bipush (v := 10) dX10_count_2 (by decide +kernel) ?_
  refine Ev_invS (d' := 0) [(0, v1), (0, 0), (0, 10)] dX10_count_4 M_X10_in (Or.inl q_1039) (by decide) rfl (Nat.le_of_ble_eq_true rfl) (k_X10_in h) ?_
  rintro _ _ ⟨rfl, r_1, rfl, h⟩
  refine Ev_if_ne (tgt := 13) dX10_count_7 (by decide) (fun hc => ?_) (fun hc => ?_)
  · replace h := h.1 hc
    refine Ev_aload_n dX10_count_13 0 rfl ?_
    refine Ev_invV (d' := 104) [] 68 dX10_count_14 M_X10_tellSheet q_1191 (by decide) rfl rfl sh_68 rfl (Nat.le_of_ble_eq_true rfl) (k_X10_tellSheet h) ?_
    rintro _ s_2 ⟨rfl, h⟩
    refine Ev_iload_n dX10_count_17 1 rfl ?_
    rcases (show v1 = 0 ∨ v1 = 1 ∨ v1 = 2 ∨ v1 = 3 ∨ v1 = 4 ∨ v1 = 5 ∨ v1 = 6 ∨ v1 = 7 ∨ (v1 < 0 ∨ 7 < v1) by omega) with hc | hc | hc | hc | hc | hc | hc | hc | hc
    · replace h := h.1 hc
      refine Ev_tabIn (tgt := 64) (off := 46) dX10_count_18 (by omega) (by omega) (by rw [hc]; rfl) (by decide) ?_
      refine Ev_aload_n dX10_count_64 0 rfl ?_
      refine Ev_geti 68 dX10_count_65 f_RX10_109 rfl sh_68 ?_
      exact Ev_ret dX10_count_68 trivial (poIs_mk h)
    · replace h := h.2.1 hc
      refine Ev_tabIn (tgt := 69) (off := 51) dX10_count_18 (by omega) (by omega) (by rw [hc]; rfl) (by decide) ?_
      refine Ev_aload_n dX10_count_69 0 rfl ?_
      refine Ev_geti 68 dX10_count_70 f_RX10_176 rfl sh_68 ?_
      exact Ev_ret dX10_count_73 trivial (poIs_mk h)
    · replace h := h.2.2.1 hc
      refine Ev_tabIn (tgt := 74) (off := 56) dX10_count_18 (by omega) (by omega) (by rw [hc]; rfl) (by decide) ?_
      refine Ev_aload_n dX10_count_74 0 rfl ?_
      refine Ev_invV (d' := 5) [] 68 dX10_count_75 M_X10_tellPieces q_1127 (by decide) rfl rfl sh_68 rfl (Nat.le_of_ble_eq_true rfl) (k_X10_tellPieces h) ?_
      rintro _ s_4 ⟨r_3, rfl, h⟩
      exact Ev_ret dX10_count_78 trivial (poIs_mk h)
    · replace h := h.2.2.2.1 hc
      refine Ev_tabIn (tgt := 79) (off := 61) dX10_count_18 (by omega) (by omega) (by rw [hc]; rfl) (by decide) ?_
      refine Ev_aload_n dX10_count_79 0 rfl ?_
      refine Ev_invV (d' := 6) [] 68 dX10_count_80 M_X10_partsMany q_1291 (by decide) rfl rfl sh_68 rfl (Nat.le_of_ble_eq_true rfl) (k_X10_partsMany h) ?_
      rintro _ s_6 ⟨r_5, rfl, h⟩
      exact Ev_ret dX10_count_83 trivial (poIs_mk h)
    · replace h := h.2.2.2.2.1 hc
      refine Ev_tabIn (tgt := 84) (off := 66) dX10_count_18 (by omega) (by omega) (by rw [hc]; rfl) (by decide) ?_
      refine Ev_aload_n dX10_count_84 0 rfl ?_
      refine Ev_geti 68 dX10_count_85 f_RX10_278 rfl sh_68 ?_
      exact Ev_ret dX10_count_88 trivial (poIs_mk h)
    · replace h := h.2.2.2.2.2.1 hc
      refine Ev_tabIn (tgt := 89) (off := 71) dX10_count_18 (by omega) (by omega) (by rw [hc]; rfl) (by decide) ?_
      refine Ev_aload_n dX10_count_89 0 rfl ?_
      refine Ev_geti 68 dX10_count_90 f_RX10_267 rfl sh_68 ?_
      exact Ev_ret dX10_count_93 trivial (poIs_mk h)
    · replace h := h.2.2.2.2.2.2.1 hc
      refine Ev_tabIn (tgt := 94) (off := 76) dX10_count_18 (by omega) (by omega) (by rw [hc]; rfl) (by decide) ?_
      refine Ev_aload_n dX10_count_94 0 rfl ?_
      refine Ev_geti 68 dX10_count_95 f_RX10_324 rfl sh_68 ?_
      exact Ev_ret dX10_count_98 trivial (poIs_mk h)
    · replace h := h.2.2.2.2.2.2.2.1 hc
      refine Ev_tabIn (tgt := 99) (off := 81) dX10_count_18 (by omega) (by omega) (by rw [hc]; rfl) (by decide) ?_
      refine Ev_aload_n dX10_count_99 0 rfl ?_
      refine Ev_invV (d' := 2) [] 68 dX10_count_100 M_X10_tellHulls q_1147 (by decide) rfl rfl sh_68 rfl (Nat.le_of_ble_eq_true rfl) (k_X10_tellHulls h) ?_
      rintro _ s_8 ⟨r_7, rfl, h⟩
      exact Ev_ret dX10_count_103 trivial (poIs_mk h)
    · replace h := h.2.2.2.2.2.2.2.2 hc
      refine Ev_tabOut (tgt := 104) dX10_count_18 hc (by decide) ?_
      refine Ev_aload_n dX10_count_104 0 rfl ?_
      refine Ev_iload_n dX10_count_105 1 rfl ?_
      refine Ev_bipush (v := 7) dX10_count_106 (by decide +kernel) ?_
      refine Ev_isub dX10_count_108 ?_
      refine Ev_invV (d' := 3) [(0, w32 (v1 - 7))] 68 dX10_count_109 M_X10_twos q_1295 (by decide) rfl rfl sh_68 rfl (Nat.le_of_ble_eq_true rfl) (k_X10_twos h) ?_
      rintro _ s_10 ⟨r_9, rfl, h⟩
      exact Ev_ret dX10_count_112 trivial (poIs_mk h)
  · replace h := h.2 hc
    refine Ev_bipush (v := -2) dX10_count_10 (by decide +kernel) ?_
    exact Ev_ret dX10_count_12 trivial (poIs_mk h)
theorem k_X10_isLine {s : Sg} {v1 : Int} {post : Int → Prop} (h : w_X10_isLine s v1 post) : EvM mX10_isLine 1 [(2, 68), (0, v1)] s (poI 0 s post) := by
  refine EvM_of rfl (by decide +kernel) (Nat.le_of_ble_eq_true rfl) ?_
  unfold w_X10_isLine at h
  show Ev mX10_isLine 1 0 [(0, (2, 68)), (1, (0, v1))] [] s (poI 0 s post)
  refine Ev_iload_n dX10_isLine_0 1 rfl ?_
  refine Ev_iconst (v := 0) dX10_isLine_1 rfl ⟨by decide, by decide⟩ ?_
  refine Ev_aload_n dX10_isLine_2 0 rfl ?_
  refine Ev_geti 68 dX10_isLine_3 f_RX10_109 rfl sh_68 ?_
  refine Ev_iconst (v := 1) dX10_isLine_6 rfl ⟨by decide, by decide⟩ ?_
  refine Ev_isub dX10_isLine_7 ?_
  refine Ev_invS (d' := 0) [(0, v1), (0, 0), (0, w32 ((s 68 0) - 1))] dX10_isLine_8 M_X10_in (Or.inl q_1039) (by decide) rfl (Nat.le_of_ble_eq_true rfl) (k_X10_in h) ?_
  rintro _ _ ⟨rfl, r_1, rfl, h⟩
  obtain ⟨hz, h⟩ := h
  exact Ev_ret dX10_isLine_11 hz (poI_mk h)
theorem k_X10_cross {s : Sg} {v1 v2 v3 : Int} {post : Int → Sg → Prop} (h : w_X10_cross s v1 v2 v3 post) : EvM mX10_cross 102 [(2, 68), (0, v1), (0, v2), (0, v3)] s (poIs 0 post) := by
  refine EvM_of rfl (by decide +kernel) (Nat.le_of_ble_eq_true rfl) ?_
  unfold w_X10_cross at h
  show Ev mX10_cross 102 0 [(0, (2, 68)), (1, (0, v1)), (2, (0, v2)), (3, (0, v3))] [] s (poIs 0 post)
  refine Ev_aload_n dX10_cross_0 0 rfl ?_
  refine Ev_iload_n dX10_cross_1 1 rfl ?_
  refine Ev_invV (d' := 1) [(0, v1)] 68 dX10_cross_2 M_X10_isLine q_1050 (by decide) rfl rfl sh_68 rfl (Nat.le_of_ble_eq_true rfl) (k_X10_isLine h) ?_
  rintro _ _ ⟨rfl, r_1, rfl, h⟩
  refine jc_0 (P := Ev mX10_cross 102 30 [] [] s (poIs 0 post)) h ?_ ?_
  · intro  h
    refine Ev_bipush (v := -2) dX10_cross_30 (by decide +kernel) ?_
    exact Ev_ret dX10_cross_32 trivial (poIs_mk h)
  · intro K_2 hK_2 h
    refine Ev_if_eq (tgt := 30) dX10_cross_5 (by decide) (fun hc => ?_) (fun hc => ?_)
    · replace h := h.1 hc
      refine Ev_sub [] rfl ?_
      exact hK_2 h
    · replace h := h.2 hc
      refine Ev_aload_n dX10_cross_8 0 rfl ?_
      refine Ev_iload_n dX10_cross_9 2 rfl ?_
      refine Ev_invV (d' := 1) [(0, v2)] 68 dX10_cross_10 M_X10_isLine q_1050 (by decide) rfl rfl sh_68 rfl (Nat.le_of_ble_eq_true rfl) (k_X10_isLine h) ?_
      rintro _ _ ⟨rfl, r_3, rfl, h⟩
      refine Ev_if_eq (tgt := 30) dX10_cross_13 (by decide) (fun hc => ?_) (fun hc => ?_)
      · replace h := h.1 hc
        refine Ev_sub [] rfl ?_
        exact hK_2 h
      · replace h := h.2 hc
        refine Ev_iload_n dX10_cross_16 1 rfl ?_
        refine Ev_iload_n dX10_cross_17 2 rfl ?_
        refine Ev_icmp_eq (tgt := 30) dX10_cross_18 (by decide) (fun hc => ?_) (fun hc => ?_)
        · replace h := h.1 hc
          refine Ev_sub [] rfl ?_
          exact hK_2 h
        · replace h := h.2 hc
          refine Ev_iload_n dX10_cross_21 3 rfl ?_
          refine Ev_iconst (v := 0) dX10_cross_22 rfl ⟨by decide, by decide⟩ ?_
          refine Ev_iconst (v := 4) dX10_cross_23 rfl ⟨by decide, by decide⟩ ?_
          refine Ev_invS (d' := 0) [(0, v3), (0, 0), (0, 4)] dX10_cross_24 M_X10_in (Or.inl q_1039) (by decide) rfl (Nat.le_of_ble_eq_true rfl) (k_X10_in h) ?_
          rintro _ _ ⟨rfl, r_4, rfl, h⟩
          refine Ev_if_ne (tgt := 33) dX10_cross_27 (by decide) (fun hc => ?_) (fun hc => ?_)
          · replace h := h.1 hc
            refine Ev_aload_n dX10_cross_33 0 rfl ?_
            refine Ev_iload_n dX10_cross_34 1 rfl ?_
            refine Ev_iload_n dX10_cross_35 2 rfl ?_
            refine Ev_invV (d' := 2) [(0, v1), (0, v2)] 68 dX10_cross_36 M_X10_meet q_1066 (by decide) rfl rfl sh_68 rfl (Nat.le_of_ble_eq_true rfl) (k_X10_meet h) ?_
            rintro _ s_5 ⟨rfl, h⟩
            refine Ev_iload_n dX10_cross_39 3 rfl ?_
            refine Ev_if_ne (tgt := 48) dX10_cross_40 (by decide) (fun hc => ?_) (fun hc => ?_)
            · replace h := h.1 hc
              refine Ev_aload_n dX10_cross_48 0 rfl ?_
              refine Ev_geti 68 dX10_cross_49 f_RX10_140 rfl sh_68 ?_
              refine jc_0 (P := Ev mX10_cross 102 63 [] [] s_5 (poIs 0 post)) h ?_ ?_
              · intro  h
                refine Ev_bipush (v := -3) dX10_cross_63 (by decide +kernel) ?_
                exact Ev_ret dX10_cross_65 trivial (poIs_mk h)
              · intro K_6 hK_6 h
                refine Ev_if_eq (tgt := 63) dX10_cross_52 (by decide) (fun hc => ?_) (fun hc => ?_)
                · replace h := h.1 hc
                  refine Ev_sub [] rfl ?_
                  exact hK_6 h
                · replace h := h.2 hc
                  refine Ev_aload_n dX10_cross_55 0 rfl ?_
                  refine Ev_geti 68 dX10_cross_56 f_RX10_140 rfl sh_68 ?_
                  refine Ev_iconst (v := 3) dX10_cross_59 rfl ⟨by decide, by decide⟩ ?_
                  refine Ev_icmp_ne (tgt := 66) dX10_cross_60 (by decide) (fun hc => ?_) (fun hc => ?_)
                  · replace h := h.1 hc
                    refine Ev_iload_n dX10_cross_66 3 rfl ?_
                    refine Ev_iconst (v := 3) dX10_cross_67 rfl ⟨by decide, by decide⟩ ?_
                    refine jc_1 (P := fun (t_7 : Int) => Ev mX10_cross 102 82 [(0, (2, 68)), (3, (0, v3))] [(1, t_7)] s_5 (poIs 0 post)) h ?_ ?_
                    · intro t_7 h
                      refine Ev_aload_n dX10_cross_82 0 rfl ?_
                      refine Ev_getl 68 dX10_cross_83 f_RX10_150 rfl sh_68 ?_
                      refine Ev_iload_n dX10_cross_86 1 rfl ?_
                      refine Ev_iconst (v := 2) dX10_cross_87 rfl ⟨by decide, by decide⟩ ?_
                      obtain ⟨hb, h⟩ := h
                      refine Ev_irem dX10_cross_88 hb ?_
                      refine jc_1 (P := fun (t_9 : Int) => Ev mX10_cross 102 97 [] [(0, t_9), (1, s_5 68 8), (1, t_7)] s_5 (poIs 0 post)) h ?_ ?_
                      · intro t_9 h
                        refine Ev_invS (d' := 101) [(1, t_7), (1, s_5 68 8), (0, t_9)] dX10_cross_97 M_X10_lowest (Or.inl q_1081) (by decide) rfl (Nat.le_of_ble_eq_true rfl) (k_X10_lowest h) ?_
                        rintro _ _ ⟨rfl, r_11, rfl, h⟩
                        refine Ev_l2i dX10_cross_100 ?_
                        exact Ev_ret dX10_cross_101 trivial (poIs_mk h)
                      · intro K_10 hK_10 h
                        refine Ev_if_ne (tgt := 96) dX10_cross_89 (by decide) (fun hc => ?_) (fun hc => ?_)
                        · replace h := h.1 hc
                          refine Ev_iconst (v := 0) dX10_cross_96 rfl ⟨by decide, by decide⟩ ?_
                          refine Ev_sub [] rfl ?_
                          exact hK_10 _ h
                        · replace h := h.2 hc
                          refine Ev_iconst (v := 1) dX10_cross_92 rfl ⟨by decide, by decide⟩ ?_
                          refine Ev_goto (tgt := 97) dX10_cross_93 (by decide) ?_
                          refine Ev_sub [] rfl ?_
                          exact hK_10 _ h
                    · intro K_8 hK_8 h
                      refine Ev_icmp_ge (tgt := 78) dX10_cross_68 (by decide) (fun hc => ?_) (fun hc => ?_)
                      · replace h := h.1 hc
                        refine Ev_aload_n dX10_cross_78 0 rfl ?_
                        refine Ev_getl 68 dX10_cross_79 f_RX10_147 rfl sh_68 ?_
                        refine Ev_sub [0, 3] rfl ?_
                        exact hK_8 _ h
                      · replace h := h.2 hc
                        refine Ev_aload_n dX10_cross_71 0 rfl ?_
                        refine Ev_getl 68 dX10_cross_72 f_RX10_143 rfl sh_68 ?_
                        refine Ev_goto (tgt := 82) dX10_cross_75 (by decide) ?_
                        refine Ev_sub [0, 3] rfl ?_
                        exact hK_8 _ h
                  · replace h := h.2 hc
                    refine Ev_sub [] rfl ?_
                    exact hK_6 h
            · replace h := h.2 hc
              refine Ev_aload_n dX10_cross_43 0 rfl ?_
              refine Ev_geti 68 dX10_cross_44 f_RX10_140 rfl sh_68 ?_
              exact Ev_ret dX10_cross_47 trivial (poIs_mk h)
          · replace h := h.2 hc
            refine Ev_sub [] rfl ?_
            exact hK_2 h
theorem k_X10_drawn {s : Sg} {v1 v2 : Int} {post : Int → Sg → Prop} (h : w_X10_drawn s v1 v2 post) : EvM mX10_drawn 107 [(2, 68), (0, v1), (0, v2)] s (poIs 0 post) := by
  refine EvM_of rfl (by decide +kernel) (Nat.le_of_ble_eq_true rfl) ?_
  unfold w_X10_drawn at h
  show Ev mX10_drawn 107 0 [(0, (2, 68)), (1, (0, v1)), (2, (0, v2))] [] s (poIs 0 post)
  refine Ev_iload_n dX10_drawn_0 2 rfl ?_
  refine Ev_iconst (v := 0) dX10_drawn_1 rfl ⟨by decide, by decide⟩ ?_
  refine Ev_iconst (v := 5) dX10_drawn_2 rfl ⟨by decide, by decide⟩ ?_
  refine Ev_invS (d' := 0) [(0, v2), (0, 0), (0, 5)] dX10_drawn_3 M_X10_in (Or.inl q_1039) (by decide) rfl (Nat.le_of_ble_eq_true rfl) (k_X10_in h) ?_
  rintro _ _ ⟨rfl, r_1, rfl, h⟩
  refine jc_1s (P := fun (t_2 : Int) (s_3 : Sg) => Ev mX10_drawn 107 20 [] [(0, t_2)] s_3 (poIs 0 post)) h ?_ ?_
  · intro t_2 s_3 h
    exact Ev_ret dX10_drawn_20 trivial (poIs_mk h)
  · intro K_4 hK_4 h
    refine Ev_if_eq (tgt := 18) dX10_drawn_6 (by decide) (fun hc => ?_) (fun hc => ?_)
    · replace h := h.1 hc
      refine Ev_bipush (v := -2) dX10_drawn_18 (by decide +kernel) ?_
      refine Ev_sub [] rfl ?_
      exact hK_4 _ _ h
    · replace h := h.2 hc
      refine Ev_aload_n dX10_drawn_9 0 rfl ?_
      refine Ev_iload_n dX10_drawn_10 1 rfl ?_
      refine Ev_iload_n dX10_drawn_11 2 rfl ?_
      refine Ev_invV (d' := 106) [(0, v1), (0, v2)] 68 dX10_drawn_12 M_X10_byLot q_1332 (by decide) rfl rfl sh_68 rfl (Nat.le_of_ble_eq_true rfl) (k_X10_byLot h) ?_
      rintro _ s_6 ⟨r_5, rfl, h⟩
      refine Ev_goto (tgt := 20) dX10_drawn_15 (by decide) ?_
      refine Ev_sub [] rfl ?_
      exact hK_4 _ _ h
theorem k_X10_drops {s : Sg} {v1 : Int} {post : Sg → Prop} (h : w_X10_drops s v1 post) : EvM mX10_drops 1 [(2, 68), (0, v1)] s (poV post) := by
  refine EvM_of rfl (by decide +kernel) (Nat.le_of_ble_eq_true rfl) ?_
  unfold w_X10_drops at h
  show Ev mX10_drops 1 0 [(0, (2, 68)), (1, (0, v1))] [] s (poV post)
  refine Ev_iload_n dX10_drops_0 1 rfl ?_
  refine Ev_iconst (v := 1) dX10_drops_1 rfl ⟨by decide, by decide⟩ ?_
  refine Ev_iadd dX10_drops_2 ?_
  obtain ⟨v2_1, ev2_1⟩ : ∃ z : Int, z = w32 (v1 + 1) := ⟨_, rfl⟩
  replace h := h v2_1 ev2_1
  rw [← ev2_1]
  refine Ev_istore_n dX10_drops_3 (by decide) rfl ?_
  refine Ev_sub [1, 0] rfl ?_
  refine li_1s (P := fun (v2_2 : Int) (s_3 : Sg) => Ev mX10_drops 1 4 [(0, (2, 68)), (2, (0, v2_2))] [] s_3 (poV post)) ?_ h
  intro again_4 v2_2 s_3 hagain_4 h
  refine Ev_iload_n dX10_drops_4 1 rfl ?_
  refine Ev_aload_n dX10_drops_5 0 rfl ?_
  refine Ev_geti 68 dX10_drops_6 f_RX10_109 rfl sh_68 ?_
  refine Ev_icmp_ge (tgt := 49) dX10_drops_9 (by decide) (fun hc => ?_) (fun hc => ?_)
  · replace h := h.1 hc
    refine Ev_aload_n dX10_drops_49 0 rfl ?_
    refine Ev_dup dX10_drops_50 (show ¬ (2 : Nat) = 1 by decide) ?_
    refine Ev_geti 68 dX10_drops_51 f_RX10_109 rfl sh_68 ?_
    refine Ev_iconst (v := 1) dX10_drops_54 rfl ⟨by decide, by decide⟩ ?_
    refine Ev_isub dX10_drops_55 ?_
    obtain ⟨s_5, es_5⟩ : ∃ z : Sg, z = (up s_3 68 0 (w32 ((s_3 68 0) - 1))) := ⟨_, rfl⟩
    replace h := h s_5 es_5
    refine Ev_puti 68 dX10_drops_56 fp_RX10_109 rfl sh_68 ?_
    rw [← es_5]
    exact Ev_retv dX10_drops_59 rfl (poV_mk h)
  · replace h := h.2 hc
    refine Ev_aload_n dX10_drops_12 0 rfl ?_
    refine Ev_iload_n dX10_drops_13 1 rfl ?_
    refine Ev_iconst (v := 1) dX10_drops_14 rfl ⟨by decide, by decide⟩ ?_
    refine Ev_isub dX10_drops_15 ?_
    refine Ev_aload_n dX10_drops_16 0 rfl ?_
    refine Ev_getr 68 (69) dX10_drops_17 f_RX10_9 rfl sh_68 rfl ?_
    refine Ev_iload_n dX10_drops_20 1 rfl ?_
    obtain ⟨hb_6, h⟩ := h
    refine Ev_iald (69) dX10_drops_21 rfl sh_69 hb_6 ?_
    refine Ev_aload_n dX10_drops_22 0 rfl ?_
    refine Ev_getr 68 (70) dX10_drops_23 f_RX10_13 rfl sh_68 rfl ?_
    refine Ev_iload_n dX10_drops_26 1 rfl ?_
    obtain ⟨hb_7, h⟩ := h
    refine Ev_iald (70) dX10_drops_27 rfl sh_70 hb_7 ?_
    refine Ev_aload_n dX10_drops_28 0 rfl ?_
    refine Ev_getr 68 (71) dX10_drops_29 f_RX10_16 rfl sh_68 rfl ?_
    refine Ev_iload_n dX10_drops_32 1 rfl ?_
    obtain ⟨hb_8, h⟩ := h
    refine Ev_iald (71) dX10_drops_33 rfl sh_71 hb_8 ?_
    refine Ev_aload_n dX10_drops_34 0 rfl ?_
    refine Ev_getr 68 (72) dX10_drops_35 f_RX10_19 rfl sh_68 rfl ?_
    refine Ev_iload_n dX10_drops_38 1 rfl ?_
    obtain ⟨hb_9, h⟩ := h
    refine Ev_iald (72) dX10_drops_39 rfl sh_72 hb_9 ?_
    refine Ev_invV (d' := 0) [(0, w32 (v2_2 - 1)), (0, s_3 69 v2_2.toNat), (0, s_3 70 v2_2.toNat), (0, s_3 71 v2_2.toNat), (0, s_3 72 v2_2.toNat)] 68 dX10_drops_40 M_X10_stands q_1042 (by decide) rfl rfl sh_68 rfl (Nat.le_of_ble_eq_true rfl) (k_X10_stands h) ?_
    rintro _ s_10 ⟨rfl, h⟩
    obtain ⟨v2_11, ev2_11⟩ : ∃ z : Int, z = w32 (v2_2 + 1) := ⟨_, rfl⟩
    replace h := h v2_11 ev2_11
    refine Ev_iinc (v := v2_11) dX10_drops_43 1 rfl ev2_11.symm (by decide) rfl ?_
    refine Ev_goto (tgt := 4) dX10_drops_46 (by decide) ?_
    refine Ev_sub [1, 0] rfl ?_
    exact hagain_4 _ _ h
theorem k_X10_drop {s : Sg} {v1 : Int} {post : Int → Sg → Prop} (h : w_X10_drop s v1 post) : EvM mX10_drop 2 [(2, 68), (0, v1)] s (poIs 0 post) := by
  refine EvM_of rfl (by decide +kernel) (Nat.le_of_ble_eq_true rfl) ?_
  unfold w_X10_drop at h
  show Ev mX10_drop 2 0 [(0, (2, 68)), (1, (0, v1))] [] s (poIs 0 post)
  refine Ev_aload_n dX10_drop_0 0 rfl ?_
  refine Ev_iload_n dX10_drop_1 1 rfl ?_
  refine Ev_invV (d' := 1) [(0, v1)] 68 dX10_drop_2 M_X10_isLine q_1050 (by decide) rfl rfl sh_68 rfl (Nat.le_of_ble_eq_true rfl) (k_X10_isLine h) ?_
  rintro _ _ ⟨rfl, r_1, rfl, h⟩
  refine Ev_if_ne (tgt := 11) dX10_drop_5 (by decide) (fun hc => ?_) (fun hc => ?_)
  · replace h := h.1 hc
    refine Ev_aload_n dX10_drop_11 0 rfl ?_
    refine Ev_iload_n dX10_drop_12 1 rfl ?_
    refine Ev_invV (d' := 1) [(0, v1)] 68 dX10_drop_13 M_X10_drops q_1054 (by decide) rfl rfl sh_68 rfl (Nat.le_of_ble_eq_true rfl) (k_X10_drops h) ?_
    rintro _ s_2 ⟨rfl, h⟩
    refine Ev_aload_n dX10_drop_16 0 rfl ?_
    refine Ev_geti 68 dX10_drop_17 f_RX10_109 rfl sh_68 ?_
    exact Ev_ret dX10_drop_20 trivial (poIs_mk h)
  · replace h := h.2 hc
    refine Ev_bipush (v := -2) dX10_drop_8 (by decide +kernel) ?_
    exact Ev_ret dX10_drop_10 trivial (poIs_mk h)
theorem k_X10_endsAt {s : Sg} {v1 : Int} {post : Int → Prop} (h : w_X10_endsAt s v1 post) : EvM mX10_endsAt 2 [(2, 68), (0, v1)] s (poI 0 s post) := by
  refine EvM_of rfl (by decide +kernel) (Nat.le_of_ble_eq_true rfl) ?_
  unfold w_X10_endsAt at h
  show Ev mX10_endsAt 2 0 [(0, (2, 68)), (1, (0, v1))] [] s (poI 0 s post)
  refine Ev_iconst (v := 0) dX10_endsAt_0 rfl ⟨by decide, by decide⟩ ?_
  refine Ev_istore_n dX10_endsAt_1 (by decide) rfl ?_
  refine Ev_iconst (v := 0) dX10_endsAt_2 rfl ⟨by decide, by decide⟩ ?_
  refine Ev_istore_n dX10_endsAt_3 (by decide) rfl ?_
  refine Ev_sub [2, 3, 1, 0] rfl ?_
  refine li_2 (P := fun (v2_1 v3_2 : Int) => Ev mX10_endsAt 2 4 [(0, (2, 68)), (1, (0, v1)), (2, (0, v2_1)), (3, (0, v3_2))] [] s (poI 0 s post)) ?_ h
  intro again_3 v2_1 v3_2 hagain_3 h
  refine Ev_iload_n dX10_endsAt_4 3 rfl ?_
  refine Ev_aload_n dX10_endsAt_5 0 rfl ?_
  refine Ev_geti 68 dX10_endsAt_6 f_RX10_109 rfl sh_68 ?_
  refine Ev_icmp_ge (tgt := 72) dX10_endsAt_9 (by decide) (fun hc => ?_) (fun hc => ?_)
  · replace h := h.1 hc
    refine Ev_iload_n dX10_endsAt_72 2 rfl ?_
    exact Ev_ret dX10_endsAt_73 trivial (poI_mk h)
  · replace h := h.2 hc
    refine Ev_aload_n dX10_endsAt_12 0 rfl ?_
    refine Ev_iload_n dX10_endsAt_13 1 rfl ?_
    refine Ev_aload_n dX10_endsAt_14 0 rfl ?_
    refine Ev_getr 68 (69) dX10_endsAt_15 f_RX10_9 rfl sh_68 rfl ?_
    refine Ev_iload_n dX10_endsAt_18 3 rfl ?_
    obtain ⟨hb_4, h⟩ := h
    refine Ev_iald (69) dX10_endsAt_19 rfl sh_69 hb_4 ?_
    refine Ev_i2l dX10_endsAt_20 ?_
    refine Ev_lconst (v := 1) dX10_endsAt_21 (by decide +kernel) ?_
    refine Ev_aload_n dX10_endsAt_22 0 rfl ?_
    refine Ev_getr 68 (70) dX10_endsAt_23 f_RX10_13 rfl sh_68 rfl ?_
    refine Ev_iload_n dX10_endsAt_26 3 rfl ?_
    obtain ⟨hb_5, h⟩ := h
    refine Ev_iald (70) dX10_endsAt_27 rfl sh_70 hb_5 ?_
    refine Ev_i2l dX10_endsAt_28 ?_
    refine Ev_lconst (v := 1) dX10_endsAt_29 (by decide +kernel) ?_
    refine Ev_invV (d' := 1) [(0, v1), (1, s 69 v3_2.toNat), (1, 1), (1, s 70 v3_2.toNat), (1, 1)] 68 dX10_endsAt_30 M_X10_pointAgainst q_1102 (by decide) rfl rfl sh_68 rfl (Nat.le_of_ble_eq_true rfl) (k_X10_pointAgainst h) ?_
    rintro _ _ ⟨rfl, r_6, rfl, h⟩
    refine jc_1 (P := fun (v2_7 : Int) => Ev mX10_endsAt 2 39 [(0, (2, 68)), (1, (0, v1)), (2, (0, v2_7)), (3, (0, v3_2))] [] s (poI 0 s post)) h ?_ ?_
    · intro v2_7 h
      refine Ev_aload_n dX10_endsAt_39 0 rfl ?_
      refine Ev_iload_n dX10_endsAt_40 1 rfl ?_
      refine Ev_aload_n dX10_endsAt_41 0 rfl ?_
      refine Ev_getr 68 (71) dX10_endsAt_42 f_RX10_16 rfl sh_68 rfl ?_
      refine Ev_iload_n dX10_endsAt_45 3 rfl ?_
      obtain ⟨hb_9, h⟩ := h
      refine Ev_iald (71) dX10_endsAt_46 rfl sh_71 hb_9 ?_
      refine Ev_i2l dX10_endsAt_47 ?_
      refine Ev_lconst (v := 1) dX10_endsAt_48 (by decide +kernel) ?_
      refine Ev_aload_n dX10_endsAt_49 0 rfl ?_
      refine Ev_getr 68 (72) dX10_endsAt_50 f_RX10_19 rfl sh_68 rfl ?_
      refine Ev_iload_n dX10_endsAt_53 3 rfl ?_
      obtain ⟨hb_10, h⟩ := h
      refine Ev_iald (72) dX10_endsAt_54 rfl sh_72 hb_10 ?_
      refine Ev_i2l dX10_endsAt_55 ?_
      refine Ev_lconst (v := 1) dX10_endsAt_56 (by decide +kernel) ?_
      refine Ev_invV (d' := 1) [(0, v1), (1, s 71 v3_2.toNat), (1, 1), (1, s 72 v3_2.toNat), (1, 1)] 68 dX10_endsAt_57 M_X10_pointAgainst q_1102 (by decide) rfl rfl sh_68 rfl (Nat.le_of_ble_eq_true rfl) (k_X10_pointAgainst h) ?_
      rintro _ _ ⟨rfl, r_11, rfl, h⟩
      refine jc_1 (P := fun (v2_12 : Int) => Ev mX10_endsAt 2 66 [(0, (2, 68)), (1, (0, v1)), (2, (0, v2_12)), (3, (0, v3_2))] [] s (poI 0 s post)) h ?_ ?_
      · intro v2_12 h
        obtain ⟨v3_14, ev3_14⟩ : ∃ z : Int, z = w32 (v3_2 + 1) := ⟨_, rfl⟩
        replace h := h v3_14 ev3_14
        refine Ev_iinc (v := v3_14) dX10_endsAt_66 3 rfl ev3_14.symm (by decide) rfl ?_
        refine Ev_goto (tgt := 4) dX10_endsAt_69 (by decide) ?_
        refine Ev_sub [1, 2, 3, 0] rfl ?_
        exact hagain_3 _ _ h
      · intro K_13 hK_13 h
        refine Ev_if_ne (tgt := 66) dX10_endsAt_60 (by decide) (fun hc => ?_) (fun hc => ?_)
        · replace h := h.1 hc
          exact hK_13 _ h
        · replace h := h.2 hc
          obtain ⟨v2_15, ev2_15⟩ : ∃ z : Int, z = w32 (v2_7 + 1) := ⟨_, rfl⟩
          replace h := h v2_15 ev2_15
          refine Ev_iinc (v := v2_15) dX10_endsAt_63 2 rfl ev2_15.symm (by decide) rfl ?_
          refine Ev_sub [1, 2, 0, 3] rfl ?_
          exact hK_13 _ h
    · intro K_8 hK_8 h
      refine Ev_if_ne (tgt := 39) dX10_endsAt_33 (by decide) (fun hc => ?_) (fun hc => ?_)
      · replace h := h.1 hc
        exact hK_8 _ h
      · replace h := h.2 hc
        obtain ⟨v2_16, ev2_16⟩ : ∃ z : Int, z = w32 (v2_1 + 1) := ⟨_, rfl⟩
        replace h := h v2_16 ev2_16
        refine Ev_iinc (v := v2_16) dX10_endsAt_36 2 rfl ev2_16.symm (by decide) rfl ?_
        refine Ev_sub [1, 2, 0, 3] rfl ?_
        exact hK_8 _ h
theorem k_X10_isNext {s : Sg} {v1 v2 : Int} {post : Sg → Prop} (h : w_X10_isNext s v1 v2 post) : EvM mX10_isNext 0 [(2, 68), (0, v1), (0, v2)] s (poV post) := by
  refine EvM_of rfl (by decide +kernel) (Nat.le_of_ble_eq_true rfl) ?_
  unfold w_X10_isNext at h
  show Ev mX10_isNext 0 0 [(0, (2, 68)), (1, (0, v1)), (2, (0, v2))] [] s (poV post)
  refine Ev_aload_n dX10_isNext_0 0 rfl ?_
  refine Ev_getr 68 (89) dX10_isNext_1 f_RX10_72 rfl sh_68 rfl ?_
  refine Ev_iload_n dX10_isNext_4 1 rfl ?_
  obtain ⟨hb_1, h⟩ := h
  refine Ev_iald (89) dX10_isNext_5 rfl sh_89 hb_1 ?_
  refine Ev_aload_n dX10_isNext_6 0 rfl ?_
  refine Ev_getr 68 (89) dX10_isNext_7 f_RX10_72 rfl sh_68 rfl ?_
  refine Ev_iload_n dX10_isNext_10 2 rfl ?_
  obtain ⟨hb_2, h⟩ := h
  refine Ev_iald (89) dX10_isNext_11 rfl sh_89 hb_2 ?_
  refine Ev_icmp_ne (tgt := 16) dX10_isNext_12 (by decide) (fun hc => ?_) (fun hc => ?_)
  · replace h := h.1 hc
    refine Ev_aload_n dX10_isNext_16 0 rfl ?_
    refine Ev_getr 68 (92) dX10_isNext_17 f_RX10_83 rfl sh_68 rfl ?_
    refine Ev_aload_n dX10_isNext_20 0 rfl ?_
    refine Ev_getr 68 (89) dX10_isNext_21 f_RX10_72 rfl sh_68 rfl ?_
    refine Ev_iload_n dX10_isNext_24 1 rfl ?_
    obtain ⟨hb_3, h⟩ := h
    refine Ev_iald (89) dX10_isNext_25 rfl sh_89 hb_3 ?_
    obtain ⟨hb_4, h⟩ := h
    refine Ev_aaldz 92 (((93 + (s 89 v1.toNat).toNat : Nat) : Int)) dX10_isNext_26 rfl sh_92 hb_4 (rr_92 hb_4).symm ?_
    refine Ev_aload_n dX10_isNext_27 0 rfl ?_
    refine Ev_getr 68 (89) dX10_isNext_28 f_RX10_72 rfl sh_68 rfl ?_
    refine Ev_iload_n dX10_isNext_31 2 rfl ?_
    obtain ⟨hb_5, h⟩ := h
    refine Ev_iald (89) dX10_isNext_32 rfl sh_89 hb_5 ?_
    refine Ev_iconst (v := 1) dX10_isNext_33 rfl ⟨by decide, by decide⟩ ?_
    obtain ⟨hb_6, h⟩ := h
    obtain ⟨s_7, es_7⟩ : ∃ z : Sg, z = (up s (93 + (s 89 v1.toNat).toNat) ((s 89 v2.toNat).toNat) 1) := ⟨_, rfl⟩
    replace h := h s_7 es_7
    refine Ev_zast (93 + (s 89 v1.toNat).toNat) dX10_isNext_34 rfl (sr_92 hb_4) hb_6 (by decide) ?_
    rw [← es_7]
    refine Ev_aload_n dX10_isNext_35 0 rfl ?_
    refine Ev_getr 68 (92) dX10_isNext_36 f_RX10_83 rfl sh_68 rfl ?_
    refine Ev_aload_n dX10_isNext_39 0 rfl ?_
    refine Ev_getr 68 (89) dX10_isNext_40 f_RX10_72 rfl sh_68 rfl ?_
    refine Ev_iload_n dX10_isNext_43 2 rfl ?_
    obtain ⟨hb_8, h⟩ := h
    refine Ev_iald (89) dX10_isNext_44 rfl sh_89 hb_8 ?_
    obtain ⟨hb_9, h⟩ := h
    refine Ev_aaldz 92 (((93 + (s_7 89 v2.toNat).toNat : Nat) : Int)) dX10_isNext_45 rfl sh_92 hb_9 (rr_92 hb_9).symm ?_
    refine Ev_aload_n dX10_isNext_46 0 rfl ?_
    refine Ev_getr 68 (89) dX10_isNext_47 f_RX10_72 rfl sh_68 rfl ?_
    refine Ev_iload_n dX10_isNext_50 1 rfl ?_
    obtain ⟨hb_10, h⟩ := h
    refine Ev_iald (89) dX10_isNext_51 rfl sh_89 hb_10 ?_
    refine Ev_iconst (v := 1) dX10_isNext_52 rfl ⟨by decide, by decide⟩ ?_
    obtain ⟨hb_11, h⟩ := h
    obtain ⟨s_12, es_12⟩ : ∃ z : Sg, z = (up s_7 (93 + (s_7 89 v2.toNat).toNat) ((s_7 89 v1.toNat).toNat) 1) := ⟨_, rfl⟩
    replace h := h s_12 es_12
    refine Ev_zast (93 + (s_7 89 v2.toNat).toNat) dX10_isNext_53 rfl (sr_92 hb_9) hb_11 (by decide) ?_
    rw [← es_12]
    exact Ev_retv dX10_isNext_54 rfl (poV_mk h)
  · replace h := h.2 hc
    exact Ev_retv dX10_isNext_15 rfl (poV_mk h)
theorem k_X10_tellNext {s : Sg} {post : Sg → Prop} (h : w_X10_tellNext s post) : EvM mX10_tellNext 3 [(2, 68)] s (poV post) := by
  refine EvM_of rfl (by decide +kernel) (Nat.le_of_ble_eq_true rfl) ?_
  unfold w_X10_tellNext at h
  show Ev mX10_tellNext 3 0 [(0, (2, 68))] [] s (poV post)
  refine Ev_iconst (v := 0) dX10_tellNext_0 rfl ⟨by decide, by decide⟩ ?_
  refine Ev_istore_n dX10_tellNext_1 (by decide) rfl ?_
  refine Ev_sub [1, 0] rfl ?_
  refine li_1s (P := fun (v1_1 : Int) (s_2 : Sg) => Ev mX10_tellNext 3 2 [(0, (2, 68)), (1, (0, v1_1))] [] s_2 (poV post)) ?_ h
  intro again_3 v1_1 s_2 hagain_3 h
  refine Ev_iload_n dX10_tellNext_2 1 rfl ?_
  refine Ev_aload_n dX10_tellNext_3 0 rfl ?_
  refine Ev_geti 68 dX10_tellNext_4 f_RX10_324 rfl sh_68 ?_
  refine Ev_icmp_ge (tgt := 41) dX10_tellNext_7 (by decide) (fun hc => ?_) (fun hc => ?_)
  · replace h := h.1 hc
    refine Ev_iconst (v := 1) dX10_tellNext_41 rfl ⟨by decide, by decide⟩ ?_
    refine Ev_istore_n dX10_tellNext_42 (by decide) rfl ?_
    refine Ev_sub [1, 0] rfl ?_
    refine li_1s (P := fun (v1_4 : Int) (s_5 : Sg) => Ev mX10_tellNext 3 43 [(0, (2, 68)), (1, (0, v1_4))] [] s_5 (poV post)) ?_ h
    intro again_6 v1_4 s_5 hagain_6 h
    refine Ev_iload_n dX10_tellNext_43 1 rfl ?_
    refine Ev_aload_n dX10_tellNext_44 0 rfl ?_
    refine Ev_geti 68 dX10_tellNext_45 f_RX10_267 rfl sh_68 ?_
    refine Ev_icmp_ge (tgt := 82) dX10_tellNext_48 (by decide) (fun hc => ?_) (fun hc => ?_)
    · replace h := h.1 hc
      refine Ev_iconst (v := 1) dX10_tellNext_82 rfl ⟨by decide, by decide⟩ ?_
      refine Ev_istore_n dX10_tellNext_83 (by decide) rfl ?_
      refine Ev_sub [1, 0] rfl ?_
      refine li_1s (P := fun (v1_7 : Int) (s_8 : Sg) => Ev mX10_tellNext 3 84 [(0, (2, 68)), (1, (0, v1_7))] [] s_8 (poV post)) ?_ h
      intro again_9 v1_7 s_8 hagain_9 h
      refine Ev_iload_n dX10_tellNext_84 1 rfl ?_
      refine Ev_aload_n dX10_tellNext_85 0 rfl ?_
      refine Ev_geti 68 dX10_tellNext_86 f_RX10_278 rfl sh_68 ?_
      refine Ev_icmp_ge (tgt := 250) dX10_tellNext_89 (by decide) (fun hc => ?_) (fun hc => ?_)
      · replace h := h.1 hc
        exact Ev_retv dX10_tellNext_250 rfl (poV_mk h)
      · replace h := h.2 hc
        refine Ev_aload_n dX10_tellNext_92 0 rfl ?_
        refine Ev_getr 68 (85) dX10_tellNext_93 f_RX10_60 rfl sh_68 rfl ?_
        refine Ev_iload_n dX10_tellNext_96 1 rfl ?_
        refine Ev_iconst (v := 1) dX10_tellNext_97 rfl ⟨by decide, by decide⟩ ?_
        refine Ev_isub dX10_tellNext_98 ?_
        obtain ⟨hb_10, h⟩ := h
        refine Ev_iald (85) dX10_tellNext_99 rfl sh_85 hb_10 ?_
        obtain ⟨v2_11, ev2_11⟩ : ∃ z : Int, z = s_8 85 (w32 (v1_7 - 1)).toNat := ⟨_, rfl⟩
        replace h := h v2_11 ev2_11
        rw [← ev2_11]
        refine Ev_istore_n dX10_tellNext_100 (by decide) rfl ?_
        refine Ev_sub [1, 2, 0] rfl ?_
        refine li_1s (P := fun (v2_12 : Int) (s_13 : Sg) => Ev mX10_tellNext 3 101 [(0, (2, 68)), (1, (0, v1_7)), (2, (0, v2_12))] [] s_13 (poV post)) ?_ h
        intro again_14 v2_12 s_13 hagain_14 h
        refine Ev_iload_n dX10_tellNext_101 2 rfl ?_
        refine Ev_aload_n dX10_tellNext_102 0 rfl ?_
        refine Ev_getr 68 (85) dX10_tellNext_103 f_RX10_60 rfl sh_68 rfl ?_
        refine Ev_iload_n dX10_tellNext_106 1 rfl ?_
        obtain ⟨hb_15, h⟩ := h
        refine Ev_iald (85) dX10_tellNext_107 rfl sh_85 hb_15 ?_
        refine Ev_icmp_ge (tgt := 244) dX10_tellNext_108 (by decide) (fun hc => ?_) (fun hc => ?_)
        · replace h := h.1 hc
          obtain ⟨v1_16, ev1_16⟩ : ∃ z : Int, z = w32 (v1_7 + 1) := ⟨_, rfl⟩
          replace h := h v1_16 ev1_16
          refine Ev_iinc (v := v1_16) dX10_tellNext_244 1 rfl ev1_16.symm (by decide) rfl ?_
          refine Ev_goto (tgt := 84) dX10_tellNext_247 (by decide) ?_
          refine Ev_sub [1, 0] rfl ?_
          exact hagain_9 _ _ h
        · replace h := h.2 hc
          refine Ev_aload_n dX10_tellNext_111 0 rfl ?_
          refine Ev_getr 68 (85) dX10_tellNext_112 f_RX10_60 rfl sh_68 rfl ?_
          refine Ev_iload_n dX10_tellNext_115 1 rfl ?_
          obtain ⟨hb_17, h⟩ := h
          refine Ev_iald (85) dX10_tellNext_116 rfl sh_85 hb_17 ?_
          obtain ⟨v3_18, ev3_18⟩ : ∃ z : Int, z = s_13 85 v1_7.toNat := ⟨_, rfl⟩
          replace h := h v3_18 ev3_18
          rw [← ev3_18]
          refine Ev_istore_n dX10_tellNext_117 (by decide) rfl ?_
          refine Ev_sub [1, 2, 3, 0] rfl ?_
          refine li_1s (P := fun (v3_19 : Int) (s_20 : Sg) => Ev mX10_tellNext 3 118 [(0, (2, 68)), (1, (0, v1_7)), (2, (0, v2_12)), (3, (0, v3_19))] [] s_20 (poV post)) ?_ h
          intro again_21 v3_19 s_20 hagain_21 h
          refine Ev_iload_n dX10_tellNext_118 3 rfl ?_
          refine Ev_aload_n dX10_tellNext_119 0 rfl ?_
          refine Ev_getr 68 (85) dX10_tellNext_120 f_RX10_60 rfl sh_68 rfl ?_
          refine Ev_iload_n dX10_tellNext_123 1 rfl ?_
          refine Ev_iconst (v := 1) dX10_tellNext_124 rfl ⟨by decide, by decide⟩ ?_
          refine Ev_iadd dX10_tellNext_125 ?_
          obtain ⟨hb_22, h⟩ := h
          refine Ev_iald (85) dX10_tellNext_126 rfl sh_85 hb_22 ?_
          refine Ev_icmp_ge (tgt := 238) dX10_tellNext_127 (by decide) (fun hc => ?_) (fun hc => ?_)
          · replace h := h.1 hc
            obtain ⟨v2_23, ev2_23⟩ : ∃ z : Int, z = w32 (v2_12 + 1) := ⟨_, rfl⟩
            replace h := h v2_23 ev2_23
            refine Ev_iinc (v := v2_23) dX10_tellNext_238 2 rfl ev2_23.symm (by decide) rfl ?_
            refine Ev_goto (tgt := 101) dX10_tellNext_241 (by decide) ?_
            refine Ev_sub [1, 2, 0] rfl ?_
            exact hagain_14 _ _ h
          · replace h := h.2 hc
            refine Ev_aload_n dX10_tellNext_130 0 rfl ?_
            refine Ev_invV (d' := 0) [] 68 dX10_tellNext_131 M_X10_wide q_1211 (by decide) rfl rfl sh_68 rfl (Nat.le_of_ble_eq_true rfl) (k_X10_wide h) ?_
            rintro _ s_24 ⟨rfl, h⟩
            refine Ev_aload_n dX10_tellNext_134 0 rfl ?_
            refine Ev_iload_n dX10_tellNext_135 2 rfl ?_
            refine Ev_aload_n dX10_tellNext_136 0 rfl ?_
            refine Ev_getr 68 (83) dX10_tellNext_137 f_RX10_54 rfl sh_68 rfl ?_
            refine Ev_iload_n dX10_tellNext_140 1 rfl ?_
            obtain ⟨hb_25, h⟩ := h
            refine Ev_lald (83) dX10_tellNext_141 rfl sh_83 hb_25 ?_
            refine Ev_aload_n dX10_tellNext_142 0 rfl ?_
            refine Ev_getr 68 (84) dX10_tellNext_143 f_RX10_57 rfl sh_68 rfl ?_
            refine Ev_iload_n dX10_tellNext_146 1 rfl ?_
            obtain ⟨hb_26, h⟩ := h
            refine Ev_lald (84) dX10_tellNext_147 rfl sh_84 hb_26 ?_
            refine Ev_invV (d' := 2) [(0, v2_12), (1, s_24 83 v1_7.toNat), (1, s_24 84 v1_7.toNat)] 68 dX10_tellNext_148 M_X10_narrow q_1217 (by decide) rfl rfl sh_68 rfl (Nat.le_of_ble_eq_true rfl) (k_X10_narrow h) ?_
            rintro _ s_27 ⟨rfl, h⟩
            refine Ev_aload_n dX10_tellNext_151 0 rfl ?_
            refine Ev_iload_n dX10_tellNext_152 3 rfl ?_
            refine Ev_aload_n dX10_tellNext_153 0 rfl ?_
            refine Ev_getr 68 (83) dX10_tellNext_154 f_RX10_54 rfl sh_68 rfl ?_
            refine Ev_iload_n dX10_tellNext_157 1 rfl ?_
            obtain ⟨hb_28, h⟩ := h
            refine Ev_lald (83) dX10_tellNext_158 rfl sh_83 hb_28 ?_
            refine Ev_aload_n dX10_tellNext_159 0 rfl ?_
            refine Ev_getr 68 (84) dX10_tellNext_160 f_RX10_57 rfl sh_68 rfl ?_
            refine Ev_iload_n dX10_tellNext_163 1 rfl ?_
            obtain ⟨hb_29, h⟩ := h
            refine Ev_lald (84) dX10_tellNext_164 rfl sh_84 hb_29 ?_
            refine Ev_invV (d' := 2) [(0, v3_19), (1, s_27 83 v1_7.toNat), (1, s_27 84 v1_7.toNat)] 68 dX10_tellNext_165 M_X10_narrow q_1217 (by decide) rfl rfl sh_68 rfl (Nat.le_of_ble_eq_true rfl) (k_X10_narrow h) ?_
            rintro _ s_30 ⟨rfl, h⟩
            refine Ev_aload_n dX10_tellNext_168 0 rfl ?_
            refine Ev_invV (d' := 1) [] 68 dX10_tellNext_169 M_X10_isMoreThanOne q_1228 (by decide) rfl rfl sh_68 rfl (Nat.le_of_ble_eq_true rfl) (k_X10_isMoreThanOne h) ?_
            rintro _ _ ⟨rfl, r_31, rfl, h⟩
            refine jc_0s (P := fun (s_32 : Sg) => Ev mX10_tellNext 3 232 [(0, (2, 68)), (1, (0, v1_7)), (2, (0, v2_12)), (3, (0, v3_19))] [] s_32 (poV post)) h ?_ ?_
            · intro s_32 h
              obtain ⟨v3_34, ev3_34⟩ : ∃ z : Int, z = w32 (v3_19 + 1) := ⟨_, rfl⟩
              replace h := h v3_34 ev3_34
              refine Ev_iinc (v := v3_34) dX10_tellNext_232 3 rfl ev3_34.symm (by decide) rfl ?_
              refine Ev_goto (tgt := 118) dX10_tellNext_235 (by decide) ?_
              refine Ev_sub [1, 2, 3, 0] rfl ?_
              exact hagain_21 _ _ h
            · intro K_33 hK_33 h
              refine Ev_if_ne (tgt := 178) dX10_tellNext_172 (by decide) (fun hc => ?_) (fun hc => ?_)
              · replace h := h.1 hc
                refine Ev_iconst (v := 0) dX10_tellNext_178 rfl ⟨by decide, by decide⟩ ?_
                refine Ev_istore dX10_tellNext_179 (by decide) rfl ?_
                refine Ev_sub [1, 2, 3, 4, 0] rfl ?_
                refine li_1s (P := fun (v4_35 : Int) (s_36 : Sg) => Ev mX10_tellNext 3 181 [(0, (2, 68)), (1, (0, v1_7)), (2, (0, v2_12)), (3, (0, v3_19)), (4, (0, v4_35))] [] s_36 (poV post)) ?_ h
                intro again_37 v4_35 s_36 hagain_37 h
                refine Ev_iload dX10_tellNext_181 4 rfl ?_
                refine Ev_aload_n dX10_tellNext_183 0 rfl ?_
                refine Ev_geti 68 dX10_tellNext_184 f_RX10_109 rfl sh_68 ?_
                refine Ev_icmp_ge (tgt := 232) dX10_tellNext_187 (by decide) (fun hc => ?_) (fun hc => ?_)
                · replace h := h.1 hc
                  refine Ev_sub [0, 1, 2, 3] rfl ?_
                  exact hK_33 _ h
                · replace h := h.2 hc
                  refine Ev_aload_n dX10_tellNext_190 0 rfl ?_
                  refine Ev_iload dX10_tellNext_191 4 rfl ?_
                  refine Ev_aload_n dX10_tellNext_193 0 rfl ?_
                  refine Ev_getr 68 (83) dX10_tellNext_194 f_RX10_54 rfl sh_68 rfl ?_
                  refine Ev_iload_n dX10_tellNext_197 1 rfl ?_
                  obtain ⟨hb_38, h⟩ := h
                  refine Ev_lald (83) dX10_tellNext_198 rfl sh_83 hb_38 ?_
                  refine Ev_aload_n dX10_tellNext_199 0 rfl ?_
                  refine Ev_getr 68 (84) dX10_tellNext_200 f_RX10_57 rfl sh_68 rfl ?_
                  refine Ev_iload_n dX10_tellNext_203 1 rfl ?_
                  obtain ⟨hb_39, h⟩ := h
                  refine Ev_lald (84) dX10_tellNext_204 rfl sh_84 hb_39 ?_
                  refine Ev_invV (d' := 1) [(0, v4_35), (1, s_36 83 v1_7.toNat), (1, s_36 84 v1_7.toNat)] 68 dX10_tellNext_205 M_X10_isUprightAt q_1236 (by decide) rfl rfl sh_68 rfl (Nat.le_of_ble_eq_true rfl) (k_X10_isUprightAt h) ?_
                  rintro _ _ ⟨rfl, r_40, rfl, h⟩
                  refine jc_0s (P := fun (s_41 : Sg) => Ev mX10_tellNext 3 226 [(0, (2, 68)), (1, (0, v1_7)), (2, (0, v2_12)), (3, (0, v3_19)), (4, (0, v4_35))] [] s_41 (poV post)) h ?_ ?_
                  · intro s_41 h
                    obtain ⟨v4_43, ev4_43⟩ : ∃ z : Int, z = w32 (v4_35 + 1) := ⟨_, rfl⟩
                    replace h := h v4_43 ev4_43
                    refine Ev_iinc (v := v4_43) dX10_tellNext_226 4 rfl ev4_43.symm (by decide) rfl ?_
                    refine Ev_goto (tgt := 181) dX10_tellNext_229 (by decide) ?_
                    refine Ev_sub [1, 2, 3, 4, 0] rfl ?_
                    exact hagain_37 _ _ h
                  · intro K_42 hK_42 h
                    refine Ev_if_eq (tgt := 226) dX10_tellNext_208 (by decide) (fun hc => ?_) (fun hc => ?_)
                    · replace h := h.1 hc
                      exact hK_42 _ h
                    · replace h := h.2 hc
                      refine Ev_aload_n dX10_tellNext_211 0 rfl ?_
                      refine Ev_iload dX10_tellNext_212 4 rfl ?_
                      refine Ev_invV (d' := 1) [(0, v4_35)] 68 dX10_tellNext_214 M_X10_hasMore q_1256 (by decide) rfl rfl sh_68 rfl (Nat.le_of_ble_eq_true rfl) (k_X10_hasMore h) ?_
                      rintro _ _ ⟨rfl, r_44, rfl, h⟩
                      refine Ev_if_eq (tgt := 226) dX10_tellNext_217 (by decide) (fun hc => ?_) (fun hc => ?_)
                      · replace h := h.1 hc
                        exact hK_42 _ h
                      · replace h := h.2 hc
                        refine Ev_aload_n dX10_tellNext_220 0 rfl ?_
                        refine Ev_iload_n dX10_tellNext_221 2 rfl ?_
                        refine Ev_iload_n dX10_tellNext_222 3 rfl ?_
                        refine Ev_invV (d' := 0) [(0, v2_12), (0, v3_19)] 68 dX10_tellNext_223 M_X10_isNext q_1268 (by decide) rfl rfl sh_68 rfl (Nat.le_of_ble_eq_true rfl) (k_X10_isNext h) ?_
                        rintro _ s_45 ⟨rfl, h⟩
                        exact hK_42 _ h
              · replace h := h.2 hc
                refine Ev_goto (tgt := 232) dX10_tellNext_175 (by decide) ?_
                exact hK_33 _ h
    · replace h := h.2 hc
      refine Ev_aload_n dX10_tellNext_51 0 rfl ?_
      refine Ev_getr 68 (86) dX10_tellNext_52 f_RX10_63 rfl sh_68 rfl ?_
      refine Ev_iload_n dX10_tellNext_55 1 rfl ?_
      obtain ⟨hb_46, h⟩ := h
      refine Ev_iald (86) dX10_tellNext_56 rfl sh_86 hb_46 ?_
      refine Ev_aload_n dX10_tellNext_57 0 rfl ?_
      refine Ev_getr 68 (86) dX10_tellNext_58 f_RX10_63 rfl sh_68 rfl ?_
      refine Ev_iload_n dX10_tellNext_61 1 rfl ?_
      refine Ev_iconst (v := 1) dX10_tellNext_62 rfl ⟨by decide, by decide⟩ ?_
      refine Ev_isub dX10_tellNext_63 ?_
      obtain ⟨hb_47, h⟩ := h
      refine Ev_iald (86) dX10_tellNext_64 rfl sh_86 hb_47 ?_
      refine jc_0s (P := fun (s_48 : Sg) => Ev mX10_tellNext 3 76 [(0, (2, 68)), (1, (0, v1_4))] [] s_48 (poV post)) h ?_ ?_
      · intro s_48 h
        obtain ⟨v1_50, ev1_50⟩ : ∃ z : Int, z = w32 (v1_4 + 1) := ⟨_, rfl⟩
        replace h := h v1_50 ev1_50
        refine Ev_iinc (v := v1_50) dX10_tellNext_76 1 rfl ev1_50.symm (by decide) rfl ?_
        refine Ev_goto (tgt := 43) dX10_tellNext_79 (by decide) ?_
        refine Ev_sub [1, 0] rfl ?_
        exact hagain_6 _ _ h
      · intro K_49 hK_49 h
        refine Ev_icmp_ne (tgt := 76) dX10_tellNext_65 (by decide) (fun hc => ?_) (fun hc => ?_)
        · replace h := h.1 hc
          exact hK_49 _ h
        · replace h := h.2 hc
          refine Ev_aload_n dX10_tellNext_68 0 rfl ?_
          refine Ev_iload_n dX10_tellNext_69 1 rfl ?_
          refine Ev_iconst (v := 1) dX10_tellNext_70 rfl ⟨by decide, by decide⟩ ?_
          refine Ev_isub dX10_tellNext_71 ?_
          refine Ev_iload_n dX10_tellNext_72 1 rfl ?_
          refine Ev_invV (d' := 0) [(0, w32 (v1_4 - 1)), (0, v1_4)] 68 dX10_tellNext_73 M_X10_isNext q_1268 (by decide) rfl rfl sh_68 rfl (Nat.le_of_ble_eq_true rfl) (k_X10_isNext h) ?_
          rintro _ s_51 ⟨rfl, h⟩
          exact hK_49 _ h
  · replace h := h.2 hc
    refine Ev_iconst (v := 0) dX10_tellNext_10 rfl ⟨by decide, by decide⟩ ?_
    refine Ev_istore_n dX10_tellNext_11 (by decide) rfl ?_
    refine Ev_sub [1, 2, 0] rfl ?_
    refine li_1s (P := fun (v2_52 : Int) (s_53 : Sg) => Ev mX10_tellNext 3 12 [(0, (2, 68)), (1, (0, v1_1)), (2, (0, v2_52))] [] s_53 (poV post)) ?_ h
    intro again_54 v2_52 s_53 hagain_54 h
    refine Ev_iload_n dX10_tellNext_12 2 rfl ?_
    refine Ev_aload_n dX10_tellNext_13 0 rfl ?_
    refine Ev_geti 68 dX10_tellNext_14 f_RX10_324 rfl sh_68 ?_
    refine Ev_icmp_ge (tgt := 35) dX10_tellNext_17 (by decide) (fun hc => ?_) (fun hc => ?_)
    · replace h := h.1 hc
      obtain ⟨v1_55, ev1_55⟩ : ∃ z : Int, z = w32 (v1_1 + 1) := ⟨_, rfl⟩
      replace h := h v1_55 ev1_55
      refine Ev_iinc (v := v1_55) dX10_tellNext_35 1 rfl ev1_55.symm (by decide) rfl ?_
      refine Ev_goto (tgt := 2) dX10_tellNext_38 (by decide) ?_
      refine Ev_sub [1, 0] rfl ?_
      exact hagain_3 _ _ h
    · replace h := h.2 hc
      refine Ev_aload_n dX10_tellNext_20 0 rfl ?_
      refine Ev_getr 68 (92) dX10_tellNext_21 f_RX10_83 rfl sh_68 rfl ?_
      refine Ev_iload_n dX10_tellNext_24 1 rfl ?_
      obtain ⟨hb_56, h⟩ := h
      refine Ev_aaldz 92 (((93 + v1_1.toNat : Nat) : Int)) dX10_tellNext_25 rfl sh_92 hb_56 (rr_92 hb_56).symm ?_
      refine Ev_iload_n dX10_tellNext_26 2 rfl ?_
      refine Ev_iconst (v := 0) dX10_tellNext_27 rfl ⟨by decide, by decide⟩ ?_
      obtain ⟨hb_57, h⟩ := h
      obtain ⟨s_58, es_58⟩ : ∃ z : Sg, z = (up s_53 (93 + v1_1.toNat) (v2_52.toNat) 0) := ⟨_, rfl⟩
      replace h := h s_58 es_58
      refine Ev_zast (93 + v1_1.toNat) dX10_tellNext_28 rfl (sr_92 hb_56) hb_57 (by decide) ?_
      rw [← es_58]
      obtain ⟨v2_59, ev2_59⟩ : ∃ z : Int, z = w32 (v2_52 + 1) := ⟨_, rfl⟩
      replace h := h v2_59 ev2_59
      refine Ev_iinc (v := v2_59) dX10_tellNext_29 2 rfl ev2_59.symm (by decide) rfl ?_
      refine Ev_goto (tgt := 12) dX10_tellNext_32 (by decide) ?_
      refine Ev_sub [1, 2, 0] rfl ?_
      exact hagain_54 _ _ h
