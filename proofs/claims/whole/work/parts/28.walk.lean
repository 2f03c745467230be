theorem k_X9_face {s : Sg} {v1 v2 : Int} {post : Int → Sg → Prop} (h : w_X9_face s v1 v2 post) : EvM mX9_face 6 [(2, 0), (0, v1), (0, v2)] s (poIs 0 post) := by
  refine EvM_of rfl (by decide +kernel) (Nat.le_of_ble_eq_true rfl) ?_
  unfold w_X9_face at h
  show Ev mX9_face 6 0 [(0, (2, 0)), (1, (0, v1)), (2, (0, v2))] [] s (poIs 0 post)
  refine Ev_iload_n dX9_face_0 2 rfl ?_
  refine jc_0 (P := Ev mX9_face 6 9 [] [] s (poIs 0 post)) h ?_ ?_
  · intro  h
    refine Ev_bipush (v := -2) dX9_face_9 (by decide +kernel) ?_
    exact Ev_ret dX9_face_11 trivial (poIs_mk h)
  · intro K_1 hK_1 h
    refine Ev_if_lt (tgt := 9) dX9_face_1 (by decide) (fun hc => ?_) (fun hc => ?_)
    · replace h := h.1 hc
      refine Ev_sub [] rfl ?_
      exact hK_1 h
    · replace h := h.2 hc
      refine Ev_iload_n dX9_face_4 2 rfl ?_
      refine Ev_iconst (v := 4) dX9_face_5 rfl ⟨by decide, by decide⟩ ?_
      refine Ev_icmp_le (tgt := 12) dX9_face_6 (by decide) (fun hc => ?_) (fun hc => ?_)
      · replace h := h.1 hc
        refine Ev_aload_n dX9_face_12 0 rfl ?_
        refine Ev_invV (d' := 5) [] 0 dX9_face_13 M_X9_knowFaces q_621 (by decide) rfl rfl sh_0 rfl (Nat.le_of_ble_eq_true rfl) (k_X9_knowFaces h) ?_
        rintro _ s_2 ⟨rfl, h⟩
        refine Ev_iload_n dX9_face_16 1 rfl ?_
        refine jc_0 (P := Ev mX9_face 6 31 [] [] s_2 (poIs 0 post)) h ?_ ?_
        · intro  h
          refine Ev_bipush (v := -12) dX9_face_31 (by decide +kernel) ?_
          exact Ev_ret dX9_face_33 trivial (poIs_mk h)
        · intro K_3 hK_3 h
          refine Ev_if_lt (tgt := 31) dX9_face_17 (by decide) (fun hc => ?_) (fun hc => ?_)
          · replace h := h.1 hc
            refine Ev_sub [] rfl ?_
            exact hK_3 h
          · replace h := h.2 hc
            refine Ev_iload_n dX9_face_20 1 rfl ?_
            refine Ev_aload_n dX9_face_21 0 rfl ?_
            refine Ev_getr 0 (53) dX9_face_22 f_RX9_63 rfl sh_0 rfl ?_
            refine Ev_geti 53 dX9_face_25 f_RX9_226 rfl sh_53 ?_
            refine Ev_icmp_lt (tgt := 34) dX9_face_28 (by decide) (fun hc => ?_) (fun hc => ?_)
            · replace h := h.1 hc
              refine Ev_iload_n dX9_face_34 2 rfl ?_
              rcases (show v2 = 0 ∨ v2 = 1 ∨ v2 = 2 ∨ v2 = 3 ∨ (v2 < 0 ∨ 3 < v2) by omega) with hc | hc | hc | hc | hc
              · replace h := h.1 hc
                refine Ev_tabIn (tgt := 64) (off := 29) dX9_face_35 (by omega) (by omega) (by rw [hc]; rfl) (by decide) ?_
                refine Ev_aload_n dX9_face_64 0 rfl ?_
                refine Ev_getr 0 (53) dX9_face_65 f_RX9_63 rfl sh_0 rfl ?_
                refine Ev_getr 53 (56) dX9_face_68 f_RX9_227 rfl sh_53 rfl ?_
                refine Ev_iload_n dX9_face_71 1 rfl ?_
                obtain ⟨hb_4, h⟩ := h
                refine Ev_iald (56) dX9_face_72 rfl sh_56 hb_4 ?_
                exact Ev_ret dX9_face_73 trivial (poIs_mk h)
              · replace h := h.2.1 hc
                refine Ev_tabIn (tgt := 74) (off := 39) dX9_face_35 (by omega) (by omega) (by rw [hc]; rfl) (by decide) ?_
                refine Ev_aload_n dX9_face_74 0 rfl ?_
                refine Ev_getr 0 (53) dX9_face_75 f_RX9_63 rfl sh_0 rfl ?_
                refine Ev_getr 53 (57) dX9_face_78 f_RX9_230 rfl sh_53 rfl ?_
                refine Ev_iload_n dX9_face_81 1 rfl ?_
                obtain ⟨hb_5, h⟩ := h
                refine Ev_iald (57) dX9_face_82 rfl sh_57 hb_5 ?_
                exact Ev_ret dX9_face_83 trivial (poIs_mk h)
              · replace h := h.2.2.1 hc
                refine Ev_tabIn (tgt := 84) (off := 49) dX9_face_35 (by omega) (by omega) (by rw [hc]; rfl) (by decide) ?_
                refine Ev_aload_n dX9_face_84 0 rfl ?_
                refine Ev_getr 0 (53) dX9_face_85 f_RX9_63 rfl sh_0 rfl ?_
                refine Ev_getr 53 (58) dX9_face_88 f_RX9_232 rfl sh_53 rfl ?_
                refine Ev_iload_n dX9_face_91 1 rfl ?_
                obtain ⟨hb_6, h⟩ := h
                refine Ev_iald (58) dX9_face_92 rfl sh_58 hb_6 ?_
                exact Ev_ret dX9_face_93 trivial (poIs_mk h)
              · replace h := h.2.2.2.1 hc
                refine Ev_tabIn (tgt := 94) (off := 59) dX9_face_35 (by omega) (by omega) (by rw [hc]; rfl) (by decide) ?_
                refine Ev_aload_n dX9_face_94 0 rfl ?_
                refine Ev_getr 0 (53) dX9_face_95 f_RX9_63 rfl sh_0 rfl ?_
                refine Ev_getr 53 (59) dX9_face_98 f_RX9_235 rfl sh_53 rfl ?_
                refine Ev_iload_n dX9_face_101 1 rfl ?_
                obtain ⟨hb_7, h⟩ := h
                refine Ev_lald (59) dX9_face_102 rfl sh_59 hb_7 ?_
                refine Ev_invS (d' := 0) [(1, s_2 59 v1.toNat)] dX9_face_103 M_J13_bitCount_95d88 (Or.inl q_718) (by decide) rfl (Nat.le_of_ble_eq_true rfl) (k_J13_bitCount_95d88 h) ?_
                rintro _ _ ⟨rfl, r_8, rfl, h⟩
                exact Ev_ret dX9_face_106 trivial (poIs_mk h)
              · replace h := h.2.2.2.2 hc
                refine Ev_tabOut (tgt := 107) dX9_face_35 hc (by decide) ?_
                refine Ev_aload_n dX9_face_107 0 rfl ?_
                refine Ev_getr 0 (53) dX9_face_108 f_RX9_63 rfl sh_0 rfl ?_
                refine Ev_getr 53 (55) dX9_face_111 f_RX9_214 rfl sh_53 rfl ?_
                refine Ev_iconst (v := 0) dX9_face_114 rfl ⟨by decide, by decide⟩ ?_
                obtain ⟨hb_9, h⟩ := h
                refine Ev_iald (55) dX9_face_115 rfl sh_55 hb_9 ?_
                refine Ev_iload_n dX9_face_116 1 rfl ?_
                refine jc_1 (P := fun (t_10 : Int) => Ev mX9_face 6 125 [] [(0, t_10)] s_2 (poIs 0 post)) h ?_ ?_
                · intro t_10 h
                  exact Ev_ret dX9_face_125 trivial (poIs_mk h)
                · intro K_11 hK_11 h
                  refine Ev_icmp_ne (tgt := 124) dX9_face_117 (by decide) (fun hc => ?_) (fun hc => ?_)
                  · replace h := h.1 hc
                    refine Ev_iconst (v := 0) dX9_face_124 rfl ⟨by decide, by decide⟩ ?_
                    refine Ev_sub [] rfl ?_
                    exact hK_11 _ h
                  · replace h := h.2 hc
                    refine Ev_iconst (v := 1) dX9_face_120 rfl ⟨by decide, by decide⟩ ?_
                    refine Ev_goto (tgt := 125) dX9_face_121 (by decide) ?_
                    refine Ev_sub [] rfl ?_
                    exact hK_11 _ h
            · replace h := h.2 hc
              refine Ev_sub [] rfl ?_
              exact hK_3 h
      · replace h := h.2 hc
        refine Ev_sub [] rfl ?_
        exact hK_1 h
theorem k_X9_facesWithout {s : Sg} {v1 : Int} {post : Int → Sg → Prop} (h : w_X9_facesWithout s v1 post) : EvM mX9_facesWithout 5 [(2, 0), (0, v1)] s (poIs 0 post) := by
  refine EvM_of rfl (by decide +kernel) (Nat.le_of_ble_eq_true rfl) ?_
  unfold w_X9_facesWithout at h
  show Ev mX9_facesWithout 5 0 [(0, (2, 0)), (1, (0, v1))] [] s (poIs 0 post)
  refine Ev_aload_n dX9_facesWithout_0 0 rfl ?_
  refine Ev_getr 0 (11) dX9_facesWithout_1 f_RX9_19 rfl sh_0 rfl ?_
  refine Ev_aload_n dX9_facesWithout_4 0 rfl ?_
  refine Ev_getr 0 (1) dX9_facesWithout_5 f_RX9_12 rfl sh_0 rfl ?_
  refine Ev_invV (d' := 0) [(2, 1)] 11 dX9_facesWithout_8 M_X2_become q_767 (by decide) rfl rfl sh_11 rfl (Nat.le_of_ble_eq_true rfl) (k_X2_become_11_1 h) ?_
  rintro _ s_1 ⟨rfl, h⟩
  refine Ev_aload_n dX9_facesWithout_11 0 rfl ?_
  refine Ev_getr 0 (11) dX9_facesWithout_12 f_RX9_19 rfl sh_0 rfl ?_
  refine Ev_iload_n dX9_facesWithout_15 1 rfl ?_
  refine Ev_invV (d' := 1) [(0, v1)] 11 dX9_facesWithout_16 M_X2_remove q_426 (by decide) rfl rfl sh_11 rfl (Nat.le_of_ble_eq_true rfl) (k_X2_remove_11 h) ?_
  rintro _ s_2 ⟨rfl, h⟩
  refine Ev_aload_n dX9_facesWithout_19 0 rfl ?_
  refine Ev_getr 0 (25) dX9_facesWithout_20 f_RX9_29 rfl sh_0 rfl ?_
  refine Ev_aload_n dX9_facesWithout_23 0 rfl ?_
  refine Ev_getr 0 (11) dX9_facesWithout_24 f_RX9_19 rfl sh_0 rfl ?_
  refine Ev_invV (d' := 4) [(2, 11)] 25 dX9_facesWithout_27 M_X4_find q_447 (by decide) rfl rfl sh_25 rfl (Nat.le_of_ble_eq_true rfl) (k_X4_find_25_11 h) ?_
  rintro _ s_3 ⟨rfl, h⟩
  refine Ev_aload_n dX9_facesWithout_30 0 rfl ?_
  refine Ev_getr 0 (25) dX9_facesWithout_31 f_RX9_29 rfl sh_0 rfl ?_
  refine Ev_invV (d' := 0) [] 25 dX9_facesWithout_34 M_X4_facesAround q_771 (by decide) rfl rfl sh_25 rfl (Nat.le_of_ble_eq_true rfl) (k_X4_facesAround h) ?_
  rintro _ _ ⟨rfl, r_4, rfl, h⟩
  exact Ev_ret dX9_facesWithout_37 trivial (poIs_mk h)
theorem k_X9_film {s : Sg} {v1 v2 : Int} {post : Int → Sg → Prop} (h : w_X9_film s v1 v2 post) : EvM mX9_film 4 [(2, 0), (0, v1), (0, v2)] s (poIs 0 post) := by
  refine EvM_of rfl (by decide +kernel) (Nat.le_of_ble_eq_true rfl) ?_
  unfold w_X9_film at h
  show Ev mX9_film 4 0 [(0, (2, 0)), (1, (0, v1)), (2, (0, v2))] [] s (poIs 0 post)
  refine Ev_aload_n dX9_film_0 0 rfl ?_
  refine Ev_getr 0 (64) dX9_film_1 f_RX9_77 rfl sh_0 rfl ?_
  refine Ev_iload_n dX9_film_4 1 rfl ?_
  refine Ev_invV (d' := 0) [(0, v1)] 64 dX9_film_5 M_X5_isOne q_803 (by decide) rfl rfl sh_64 rfl (Nat.le_of_ble_eq_true rfl) (k_X5_isOne h) ?_
  rintro _ _ ⟨rfl, r_1, rfl, h⟩
  refine jc_0 (P := Ev mX9_film 4 18 [] [] s (poIs 0 post)) h ?_ ?_
  · intro  h
    refine Ev_bipush (v := -2) dX9_film_18 (by decide +kernel) ?_
    exact Ev_ret dX9_film_20 trivial (poIs_mk h)
  · intro K_2 hK_2 h
    refine Ev_if_eq (tgt := 18) dX9_film_8 (by decide) (fun hc => ?_) (fun hc => ?_)
    · replace h := h.1 hc
      refine Ev_sub [] rfl ?_
      exact hK_2 h
    · replace h := h.2 hc
      refine Ev_iload_n dX9_film_11 2 rfl ?_
      refine Ev_invS (d' := 0) [(0, v2)] dX9_film_12 M_X9_isCoordinate (Or.inl q_397) (by decide) rfl (Nat.le_of_ble_eq_true rfl) (k_X9_isCoordinate h) ?_
      rintro _ _ ⟨rfl, r_3, rfl, h⟩
      refine Ev_if_ne (tgt := 21) dX9_film_15 (by decide) (fun hc => ?_) (fun hc => ?_)
      · replace h := h.1 hc
        refine Ev_aload_n dX9_film_21 0 rfl ?_
        refine Ev_getr 0 (35) dX9_film_22 f_RX9_42 rfl sh_0 rfl ?_
        refine Ev_aload_n dX9_film_25 0 rfl ?_
        refine Ev_getr 0 (1) dX9_film_26 f_RX9_12 rfl sh_0 rfl ?_
        refine Ev_iload_n dX9_film_29 2 rfl ?_
        refine Ev_i2l dX9_film_30 ?_
        refine Ev_lconst (v := 1) dX9_film_31 (by decide +kernel) ?_
        refine Ev_invV (d' := 3) [(2, 1), (1, v2), (1, 1)] 35 dX9_film_32 M_X7_stand q_596 (by decide) rfl rfl sh_35 rfl (Nat.le_of_ble_eq_true rfl) (k_X7_stand h) ?_
        rintro _ s_4 ⟨rfl, h⟩
        refine Ev_aload_n dX9_film_35 0 rfl ?_
        refine Ev_getr 0 (64) dX9_film_36 f_RX9_77 rfl sh_0 rfl ?_
        refine Ev_iload_n dX9_film_39 1 rfl ?_
        refine Ev_iconst (v := 0) dX9_film_40 rfl ⟨by decide, by decide⟩ ?_
        refine Ev_aload_n dX9_film_41 0 rfl ?_
        refine Ev_getr 0 (35) dX9_film_42 f_RX9_42 rfl sh_0 rfl ?_
        refine Ev_geti 35 dX9_film_45 f_RX9_193 rfl sh_35 ?_
        refine Ev_invV (d' := 0) [(0, v1), (0, 0), (0, s_4 35 0)] 64 dX9_film_48 M_X5_make q_831 (by decide) rfl rfl sh_64 rfl (Nat.le_of_ble_eq_true rfl) (k_X5_make h) ?_
        rintro _ s_5 ⟨rfl, h⟩
        refine Ev_iconst (v := 0) dX9_film_51 rfl ⟨by decide, by decide⟩ ?_
        refine Ev_istore_n dX9_film_52 (by decide) rfl ?_
        refine Ev_sub [1, 2, 0] rfl ?_
        refine li_1s (P := fun (v3_6 : Int) (s_7 : Sg) => Ev mX9_film 4 53 [(0, (2, 0)), (1, (0, v1)), (3, (0, v3_6))] [] s_7 (poIs 0 post)) ?_ h
        intro again_8 v3_6 s_7 hagain_8 h
        refine Ev_iload_n dX9_film_53 2 rfl ?_
        refine Ev_aload_n dX9_film_54 0 rfl ?_
        refine Ev_getr 0 (35) dX9_film_55 f_RX9_42 rfl sh_0 rfl ?_
        refine Ev_geti 35 dX9_film_58 f_RX9_193 rfl sh_35 ?_
        refine Ev_icmp_ge (tgt := 88) dX9_film_61 (by decide) (fun hc => ?_) (fun hc => ?_)
        · replace h := h.1 hc
          refine Ev_aload_n dX9_film_88 0 rfl ?_
          refine Ev_getr 0 (35) dX9_film_89 f_RX9_42 rfl sh_0 rfl ?_
          refine Ev_geti 35 dX9_film_92 f_RX9_193 rfl sh_35 ?_
          exact Ev_ret dX9_film_95 trivial (poIs_mk h)
        · replace h := h.2 hc
          refine Ev_aload_n dX9_film_64 0 rfl ?_
          refine Ev_getr 0 (64) dX9_film_65 f_RX9_77 rfl sh_0 rfl ?_
          refine Ev_iload_n dX9_film_68 1 rfl ?_
          refine Ev_iload_n dX9_film_69 2 rfl ?_
          refine Ev_aload_n dX9_film_70 0 rfl ?_
          refine Ev_getr 0 (35) dX9_film_71 f_RX9_42 rfl sh_0 rfl ?_
          refine Ev_getr 35 (36) dX9_film_74 f_RX9_194 rfl sh_35 rfl ?_
          refine Ev_iload_n dX9_film_77 2 rfl ?_
          obtain ⟨hb_9, h⟩ := h
          refine Ev_iald (36) dX9_film_78 rfl sh_36 hb_9 ?_
          refine Ev_invV (d' := 0) [(0, v1), (0, v3_6), (0, s_7 36 v3_6.toNat)] 64 dX9_film_79 M_X5_set q_835 (by decide) rfl rfl sh_64 rfl (Nat.le_of_ble_eq_true rfl) (k_X5_set h) ?_
          rintro _ s_10 ⟨rfl, h⟩
          obtain ⟨v3_11, ev3_11⟩ : ∃ z : Int, z = w32 (v3_6 + 1) := ⟨_, rfl⟩
          replace h := h v3_11 ev3_11
          refine Ev_iinc (v := v3_11) dX9_film_82 2 rfl ev3_11.symm (by decide) rfl ?_
          refine Ev_goto (tgt := 53) dX9_film_85 (by decide) ?_
          refine Ev_sub [1, 2, 0] rfl ?_
          exact hagain_8 _ _ h
      · replace h := h.2 hc
        refine Ev_sub [] rfl ?_
        exact hK_2 h
theorem k_X9_hops {s : Sg} {v1 v2 : Int} {post : Int → Sg → Prop} (h : w_X9_hops s v1 v2 post) : EvM mX9_hops 6 [(2, 0), (0, v1), (0, v2)] s (poIs 0 post) := by
  refine EvM_of rfl (by decide +kernel) (Nat.le_of_ble_eq_true rfl) ?_
  unfold w_X9_hops at h
  show Ev mX9_hops 6 0 [(0, (2, 0)), (1, (0, v1)), (2, (0, v2))] [] s (poIs 0 post)
  refine Ev_aload_n dX9_hops_0 0 rfl ?_
  refine Ev_invV (d' := 5) [] 0 dX9_hops_1 M_X9_knowFaces q_621 (by decide) rfl rfl sh_0 rfl (Nat.le_of_ble_eq_true rfl) (k_X9_knowFaces h) ?_
  rintro _ s_1 ⟨rfl, h⟩
  refine Ev_iload_n dX9_hops_4 1 rfl ?_
  refine jc_0 (P := Ev mX9_hops 6 34 [] [] s_1 (poIs 0 post)) h ?_ ?_
  · intro  h
    refine Ev_bipush (v := -2) dX9_hops_34 (by decide +kernel) ?_
    exact Ev_ret dX9_hops_36 trivial (poIs_mk h)
  · intro K_2 hK_2 h
    refine Ev_if_lt (tgt := 34) dX9_hops_5 (by decide) (fun hc => ?_) (fun hc => ?_)
    · replace h := h.1 hc
      refine Ev_sub [] rfl ?_
      exact hK_2 h
    · replace h := h.2 hc
      refine Ev_iload_n dX9_hops_8 1 rfl ?_
      refine Ev_aload_n dX9_hops_9 0 rfl ?_
      refine Ev_getr 0 (53) dX9_hops_10 f_RX9_63 rfl sh_0 rfl ?_
      refine Ev_geti 53 dX9_hops_13 f_RX9_226 rfl sh_53 ?_
      refine Ev_icmp_ge (tgt := 34) dX9_hops_16 (by decide) (fun hc => ?_) (fun hc => ?_)
      · replace h := h.1 hc
        refine Ev_sub [] rfl ?_
        exact hK_2 h
      · replace h := h.2 hc
        refine Ev_iload_n dX9_hops_19 2 rfl ?_
        refine Ev_if_lt (tgt := 34) dX9_hops_20 (by decide) (fun hc => ?_) (fun hc => ?_)
        · replace h := h.1 hc
          refine Ev_sub [] rfl ?_
          exact hK_2 h
        · replace h := h.2 hc
          refine Ev_iload_n dX9_hops_23 2 rfl ?_
          refine Ev_aload_n dX9_hops_24 0 rfl ?_
          refine Ev_getr 0 (53) dX9_hops_25 f_RX9_63 rfl sh_0 rfl ?_
          refine Ev_geti 53 dX9_hops_28 f_RX9_226 rfl sh_53 ?_
          refine Ev_icmp_lt (tgt := 37) dX9_hops_31 (by decide) (fun hc => ?_) (fun hc => ?_)
          · replace h := h.1 hc
            refine Ev_aload_n dX9_hops_37 0 rfl ?_
            refine Ev_getr 0 (53) dX9_hops_38 f_RX9_63 rfl sh_0 rfl ?_
            refine Ev_iload_n dX9_hops_41 1 rfl ?_
            refine Ev_iload_n dX9_hops_42 2 rfl ?_
            refine Ev_invV (d' := 0) [(0, v1), (0, v2)] 53 dX9_hops_43 M_X0_way q_751 (by decide) rfl rfl sh_53 rfl (Nat.le_of_ble_eq_true rfl) (k_X0_way h) ?_
            rintro _ _ ⟨rfl, r_3, rfl, h⟩
            exact Ev_ret dX9_hops_46 trivial (poIs_mk h)
          · replace h := h.2 hc
            refine Ev_sub [] rfl ?_
            exact hK_2 h
theorem k_X9_image {s : Sg} {post : Int → Sg → Prop} (h : w_X9_image s post) : EvM mX9_image 1 [(2, 0)] s (poIs 0 post) := by
  refine EvM_of rfl (by decide +kernel) (Nat.le_of_ble_eq_true rfl) ?_
  unfold w_X9_image at h
  show Ev mX9_image 1 0 [(0, (2, 0))] [] s (poIs 0 post)
  refine Ev_aload_n dX9_image_0 0 rfl ?_
  refine Ev_getr 0 (6) dX9_image_1 f_RX9_16 rfl sh_0 rfl ?_
  refine Ev_aload_n dX9_image_4 0 rfl ?_
  refine Ev_getr 0 (1) dX9_image_5 f_RX9_12 rfl sh_0 rfl ?_
  refine Ev_invV (d' := 0) [(2, 1)] 6 dX9_image_8 M_X2_become q_767 (by decide) rfl rfl sh_6 rfl (Nat.le_of_ble_eq_true rfl) (k_X2_become_6_1 h) ?_
  rintro _ s_1 ⟨rfl, h⟩
  refine Ev_aload_n dX9_image_11 0 rfl ?_
  refine Ev_iconst (v := 1) dX9_image_12 rfl ⟨by decide, by decide⟩ ?_
  obtain ⟨s_2, es_2⟩ : ∃ z : Sg, z = (up s_1 0 12 1) := ⟨_, rfl⟩
  replace h := h s_2 es_2
  refine Ev_putz 0 dX9_image_13 fp_RX9_312 (by decide) rfl sh_0 ?_
  rw [← es_2]
  refine Ev_aload_n dX9_image_16 0 rfl ?_
  refine Ev_getr 0 (6) dX9_image_17 f_RX9_16 rfl sh_0 rfl ?_
  refine Ev_geti 6 dX9_image_20 f_RX9_104 rfl sh_6 ?_
  exact Ev_ret dX9_image_23 trivial (poIs_mk h)
theorem k_X9_line {s : Sg} {v1 v2 v3 v4 : Int} {post : Int → Sg → Prop} (h : w_X9_line s v1 v2 v3 v4 post) : EvM mX9_line 3 [(2, 0), (0, v1), (0, v2), (0, v3), (0, v4)] s (poIs 0 post) := by
  refine EvM_of rfl (by decide +kernel) (Nat.le_of_ble_eq_true rfl) ?_
  unfold w_X9_line at h
  show Ev mX9_line 3 0 [(0, (2, 0)), (1, (0, v1)), (2, (0, v2)), (3, (0, v3)), (4, (0, v4))] [] s (poIs 0 post)
  refine Ev_iload_n dX9_line_0 1 rfl ?_
  refine Ev_iload_n dX9_line_1 2 rfl ?_
  refine Ev_iload_n dX9_line_2 3 rfl ?_
  refine Ev_iload dX9_line_3 4 rfl ?_
  refine Ev_invS (d' := 1) [(0, v1), (0, v2), (0, v3), (0, v4)] dX9_line_5 M_X9_canBeEnds (Or.inl q_394) (by decide) rfl (Nat.le_of_ble_eq_true rfl) (k_X9_canBeEnds h) ?_
  rintro _ _ ⟨rfl, r_1, rfl, h⟩
  refine Ev_if_ne (tgt := 14) dX9_line_8 (by decide) (fun hc => ?_) (fun hc => ?_)
  · replace h := h.1 hc
    refine Ev_aload_n dX9_line_14 0 rfl ?_
    refine Ev_getr 0 (1) dX9_line_15 f_RX9_12 rfl sh_0 rfl ?_
    refine Ev_invV (d' := 0) [] 1 dX9_line_18 M_X2_isFull q_400 (by decide) rfl rfl sh_1 rfl (Nat.le_of_ble_eq_true rfl) (k_X2_isFull_1 h) ?_
    rintro _ _ ⟨rfl, r_2, rfl, h⟩
    refine Ev_if_eq (tgt := 27) dX9_line_21 (by decide) (fun hc => ?_) (fun hc => ?_)
    · replace h := h.1 hc
      refine Ev_aload_n dX9_line_27 0 rfl ?_
      refine Ev_invV (d' := 0) [] 0 dX9_line_28 M_X9_forgetWhatFollows q_404 (by decide) rfl rfl sh_0 rfl (Nat.le_of_ble_eq_true rfl) (k_X9_forgetWhatFollows h) ?_
      rintro _ s_3 ⟨rfl, h⟩
      refine Ev_aload_n dX9_line_31 0 rfl ?_
      refine Ev_getr 0 (1) dX9_line_32 f_RX9_12 rfl sh_0 rfl ?_
      refine Ev_iload_n dX9_line_35 1 rfl ?_
      refine Ev_iload_n dX9_line_36 2 rfl ?_
      refine Ev_iload_n dX9_line_37 3 rfl ?_
      refine Ev_iload dX9_line_38 4 rfl ?_
      refine Ev_invV (d' := 2) [(0, v1), (0, v2), (0, v3), (0, v4)] 1 dX9_line_40 M_X2_add q_408 (by decide) rfl rfl sh_1 rfl (Nat.le_of_ble_eq_true rfl) (k_X2_add_1 h) ?_
      rintro _ s_5 ⟨r_4, rfl, h⟩
      exact Ev_ret dX9_line_43 trivial (poIs_mk h)
    · replace h := h.2 hc
      refine Ev_bipush (v := -4) dX9_line_24 (by decide +kernel) ?_
      exact Ev_ret dX9_line_26 trivial (poIs_mk h)
  · replace h := h.2 hc
    refine Ev_bipush (v := -2) dX9_line_11 (by decide +kernel) ?_
    exact Ev_ret dX9_line_13 trivial (poIs_mk h)
theorem k_X9_linesOn {s : Sg} {v1 v2 v3 : Int} {post : Int → Prop} (h : w_X9_linesOn s v1 v2 v3 post) : EvM mX9_linesOn 2 [(2, 0), (0, v1), (0, v2), (0, v3)] s (poI 0 s post) := by
  refine EvM_of rfl (by decide +kernel) (Nat.le_of_ble_eq_true rfl) ?_
  unfold w_X9_linesOn at h
  show Ev mX9_linesOn 2 0 [(0, (2, 0)), (1, (0, v1)), (2, (0, v2)), (3, (0, v3))] [] s (poI 0 s post)
  refine Ev_iconst (v := 0) dX9_linesOn_0 rfl ⟨by decide, by decide⟩ ?_
  refine Ev_istore dX9_linesOn_1 (by decide) rfl ?_
  refine Ev_iconst (v := 0) dX9_linesOn_3 rfl ⟨by decide, by decide⟩ ?_
  refine Ev_istore dX9_linesOn_4 (by decide) rfl ?_
  refine Ev_sub [2, 3, 4, 5, 1, 0] rfl ?_
  refine li_2 (P := fun (v4_1 v5_2 : Int) => Ev mX9_linesOn 2 6 [(0, (2, 0)), (1, (0, v1)), (2, (0, v2)), (3, (0, v3)), (4, (0, v4_1)), (5, (0, v5_2))] [] s (poI 0 s post)) ?_ h
  intro again_3 v4_1 v5_2 hagain_3 h
  refine Ev_iload dX9_linesOn_6 5 rfl ?_
  refine Ev_aload_n dX9_linesOn_8 0 rfl ?_
  refine Ev_getr 0 (1) dX9_linesOn_9 f_RX9_12 rfl sh_0 rfl ?_
  refine Ev_geti 1 dX9_linesOn_12 f_RX9_104 rfl sh_1 ?_
  refine Ev_icmp_ge (tgt := 53) dX9_linesOn_15 (by decide) (fun hc => ?_) (fun hc => ?_)
  · replace h := h.1 hc
    refine Ev_iload dX9_linesOn_53 4 rfl ?_
    exact Ev_ret dX9_linesOn_55 trivial (poI_mk h)
  · replace h := h.2 hc
    refine Ev_aload_n dX9_linesOn_18 0 rfl ?_
    refine Ev_getr 0 (1) dX9_linesOn_19 f_RX9_12 rfl sh_0 rfl ?_
    refine Ev_iload dX9_linesOn_22 5 rfl ?_
    refine Ev_iload_n dX9_linesOn_24 1 rfl ?_
    refine Ev_i2l dX9_linesOn_25 ?_
    refine Ev_iload_n dX9_linesOn_26 3 rfl ?_
    refine Ev_i2l dX9_linesOn_27 ?_
    refine Ev_iload_n dX9_linesOn_28 2 rfl ?_
    refine Ev_i2l dX9_linesOn_29 ?_
    refine Ev_iload_n dX9_linesOn_30 3 rfl ?_
    refine Ev_i2l dX9_linesOn_31 ?_
    refine Ev_invV (d' := 1) [(0, v5_2), (1, v1), (1, v3), (1, v2), (1, v3)] 1 dX9_linesOn_32 M_X2_holds q_735 (by decide) rfl rfl sh_1 rfl (Nat.le_of_ble_eq_true rfl) (k_X2_holds_1 h) ?_
    rintro _ _ ⟨rfl, r_4, rfl, h⟩
    refine jc_1 (P := fun (v4_5 : Int) => Ev mX9_linesOn 2 47 [(0, (2, 0)), (1, (0, v1)), (2, (0, v2)), (3, (0, v3)), (4, (0, v4_5)), (5, (0, v5_2))] [] s (poI 0 s post)) h ?_ ?_
    · intro v4_5 h
      obtain ⟨v5_7, ev5_7⟩ : ∃ z : Int, z = w32 (v5_2 + 1) := ⟨_, rfl⟩
      replace h := h v5_7 ev5_7
      refine Ev_iinc (v := v5_7) dX9_linesOn_47 5 rfl ev5_7.symm (by decide) rfl ?_
      refine Ev_goto (tgt := 6) dX9_linesOn_50 (by decide) ?_
      refine Ev_sub [1, 2, 3, 4, 5, 0] rfl ?_
      exact hagain_3 _ _ h
    · intro K_6 hK_6 h
      refine Ev_if_eq (tgt := 47) dX9_linesOn_35 (by decide) (fun hc => ?_) (fun hc => ?_)
      · replace h := h.1 hc
        exact hK_6 _ h
      · replace h := h.2 hc
        refine Ev_iload dX9_linesOn_38 4 rfl ?_
        refine Ev_iconst (v := 1) dX9_linesOn_40 rfl ⟨by decide, by decide⟩ ?_
        refine Ev_iload dX9_linesOn_41 5 rfl ?_
        refine Ev_ishl dX9_linesOn_43 ?_
        refine Ev_ior dX9_linesOn_44 ?_
        obtain ⟨v4_8, ev4_8⟩ : ∃ z : Int, z = ior v4_1 (ishl 1 v5_2) := ⟨_, rfl⟩
        replace h := h v4_8 ev4_8
        rw [← ev4_8]
        refine Ev_istore dX9_linesOn_45 (by decide) rfl ?_
        refine Ev_sub [1, 2, 3, 4, 0, 5] rfl ?_
        exact hK_6 _ h
theorem k_X9_load {s : Sg} {v1 v2 v3 v4 : Int} {post : Int → Sg → Prop} (h : w_X9_load s v1 v2 v3 v4 post) : EvM mX9_load 4 [(2, 0), (0, v1), (0, v2), (0, v3), (0, v4)] s (poIs 0 post) := by
  refine EvM_of rfl (by decide +kernel) (Nat.le_of_ble_eq_true rfl) ?_
  unfold w_X9_load at h
  show Ev mX9_load 4 0 [(0, (2, 0)), (1, (0, v1)), (2, (0, v2)), (3, (0, v3)), (4, (0, v4))] [] s (poIs 0 post)
  refine Ev_aload_n dX9_load_0 0 rfl ?_
  refine Ev_getr 0 (64) dX9_load_1 f_RX9_77 rfl sh_0 rfl ?_
  refine Ev_iload_n dX9_load_4 1 rfl ?_
  refine Ev_invV (d' := 0) [(0, v1)] 64 dX9_load_5 M_X5_isOne q_803 (by decide) rfl rfl sh_64 rfl (Nat.le_of_ble_eq_true rfl) (k_X5_isOne h) ?_
  rintro _ _ ⟨rfl, r_1, rfl, h⟩
  refine jc_0 (P := Ev mX9_load 4 33 [] [] s (poIs 0 post)) h ?_ ?_
  · intro  h
    refine Ev_bipush (v := -2) dX9_load_33 (by decide +kernel) ?_
    exact Ev_ret dX9_load_35 trivial (poIs_mk h)
  · intro K_2 hK_2 h
    refine Ev_if_eq (tgt := 33) dX9_load_8 (by decide) (fun hc => ?_) (fun hc => ?_)
    · replace h := h.1 hc
      refine Ev_sub [] rfl ?_
      exact hK_2 h
    · replace h := h.2 hc
      refine Ev_aload_n dX9_load_11 0 rfl ?_
      refine Ev_getr 0 (64) dX9_load_12 f_RX9_77 rfl sh_0 rfl ?_
      refine Ev_iload_n dX9_load_15 2 rfl ?_
      refine Ev_invV (d' := 0) [(0, v2)] 64 dX9_load_16 M_X5_isSort q_851 (by decide) rfl rfl sh_64 rfl (Nat.le_of_ble_eq_true rfl) (k_X5_isSort h) ?_
      rintro _ _ ⟨rfl, r_3, rfl, h⟩
      refine Ev_if_eq (tgt := 33) dX9_load_19 (by decide) (fun hc => ?_) (fun hc => ?_)
      · replace h := h.1 hc
        refine Ev_sub [] rfl ?_
        exact hK_2 h
      · replace h := h.2 hc
        refine Ev_iload dX9_load_22 4 rfl ?_
        refine Ev_if_lt (tgt := 33) dX9_load_24 (by decide) (fun hc => ?_) (fun hc => ?_)
        · replace h := h.1 hc
          refine Ev_sub [] rfl ?_
          exact hK_2 h
        · replace h := h.2 hc
          refine Ev_iload dX9_load_27 4 rfl ?_
          refine Ev_iconst (v := 5) dX9_load_29 rfl ⟨by decide, by decide⟩ ?_
          refine Ev_icmp_le (tgt := 36) dX9_load_30 (by decide) (fun hc => ?_) (fun hc => ?_)
          · replace h := h.1 hc
            refine Ev_aload_n dX9_load_36 0 rfl ?_
            refine Ev_getr 0 (64) dX9_load_37 f_RX9_77 rfl sh_0 rfl ?_
            refine Ev_iload_n dX9_load_40 1 rfl ?_
            refine Ev_invV (d' := 0) [(0, v1)] 64 dX9_load_41 M_X5_isMissing q_807 (by decide) rfl rfl sh_64 rfl (Nat.le_of_ble_eq_true rfl) (k_X5_isMissing h) ?_
            rintro _ _ ⟨rfl, r_4, rfl, h⟩
            refine Ev_if_eq (tgt := 50) dX9_load_44 (by decide) (fun hc => ?_) (fun hc => ?_)
            · replace h := h.1 hc
              refine Ev_aload_n dX9_load_50 0 rfl ?_
              refine Ev_getr 0 (64) dX9_load_51 f_RX9_77 rfl sh_0 rfl ?_
              refine Ev_getr 64 (65) dX9_load_54 f_RX9_319 rfl sh_64 rfl ?_
              refine Ev_iload_n dX9_load_57 1 rfl ?_
              obtain ⟨hb_5, h⟩ := h
              refine Ev_iald (65) dX9_load_58 rfl sh_65 hb_5 ?_
              refine Ev_iload_n dX9_load_59 2 rfl ?_
              refine Ev_icmp_eq (tgt := 66) dX9_load_60 (by decide) (fun hc => ?_) (fun hc => ?_)
              · replace h := h.1 hc
                refine Ev_iconst (v := 0) dX9_load_66 rfl ⟨by decide, by decide⟩ ?_
                refine Ev_istore dX9_load_67 (by decide) rfl ?_
                refine Ev_iconst (v := 0) dX9_load_69 rfl ⟨by decide, by decide⟩ ?_
                refine Ev_istore dX9_load_70 (by decide) rfl ?_
                refine Ev_sub [2, 3, 5, 6, 1, 0] rfl ?_
                refine li_2s (P := fun (v5_6 v6_7 : Int) (s_8 : Sg) => Ev mX9_load 4 72 [(0, (2, 0)), (1, (0, v1)), (3, (0, v3)), (4, (0, v4)), (5, (0, v5_6)), (6, (0, v6_7))] [] s_8 (poIs 0 post)) ?_ h
                intro again_9 v5_6 v6_7 s_8 hagain_9 h
                refine Ev_iload dX9_load_72 5 rfl ?_
                refine Ev_iload dX9_load_74 3 rfl ?_
                refine Ev_icmp_ge (tgt := 174) dX9_load_76 (by decide) (fun hc => ?_) (fun hc => ?_)
                · replace h := h.1 hc
                  refine Ev_iload dX9_load_174 4 rfl ?_
                  exact Ev_ret dX9_load_176 trivial (poIs_mk h)
                · replace h := h.2 hc
                  refine Ev_aload_n dX9_load_79 0 rfl ?_
                  refine Ev_getr 0 (64) dX9_load_80 f_RX9_77 rfl sh_0 rfl ?_
                  refine Ev_iload_n dX9_load_83 1 rfl ?_
                  refine Ev_iload_n dX9_load_84 2 rfl ?_
                  refine Ev_iconst (v := 4) dX9_load_85 rfl ⟨by decide, by decide⟩ ?_
                  refine Ev_iload dX9_load_86 5 rfl ?_
                  refine Ev_iconst (v := 1) dX9_load_88 rfl ⟨by decide, by decide⟩ ?_
                  refine Ev_iadd dX9_load_89 ?_
                  refine Ev_imul dX9_load_90 ?_
                  refine Ev_invV (d' := 0) [(0, v1), (0, v3), (0, w32 (4 * (w32 (v6_7 + 1))))] 64 dX9_load_91 M_X5_hasRow q_863 (by decide) rfl rfl sh_64 rfl (Nat.le_of_ble_eq_true rfl) (k_X5_hasRow h) ?_
                  rintro _ _ ⟨rfl, r_10, rfl, h⟩
                  refine Ev_if_ne (tgt := 100) dX9_load_94 (by decide) (fun hc => ?_) (fun hc => ?_)
                  · replace h := h.1 hc
                    refine Ev_iload_n dX9_load_100 2 rfl ?_
                    refine Ev_iconst (v := 4) dX9_load_101 rfl ⟨by decide, by decide⟩ ?_
                    refine Ev_iload dX9_load_102 5 rfl ?_
                    refine Ev_imul dX9_load_104 ?_
                    refine Ev_iadd dX9_load_105 ?_
                    obtain ⟨v7_11, ev7_11⟩ : ∃ z : Int, z = w32 (v3 + (w32 (4 * v6_7))) := ⟨_, rfl⟩
                    replace h := h v7_11 ev7_11
                    rw [← ev7_11]
                    refine Ev_istore dX9_load_106 (by decide) rfl ?_
                    refine Ev_aload_n dX9_load_108 1 rfl ?_
                    refine Ev_aload_n dX9_load_109 1 rfl ?_
                    refine Ev_getr 0 (64) dX9_load_110 f_RX9_77 rfl sh_0 rfl ?_
                    refine Ev_iload_n dX9_load_113 2 rfl ?_
                    refine Ev_iload dX9_load_114 0 rfl ?_
                    refine Ev_invV (d' := 0) [(0, v1), (0, v7_11)] 64 dX9_load_116 M_X5_item q_874 (by decide) rfl rfl sh_64 rfl (Nat.le_of_ble_eq_true rfl) (k_X5_item h) ?_
                    rintro _ _ ⟨rfl, r_12, rfl, h⟩
                    refine Ev_aload_n dX9_load_119 1 rfl ?_
                    refine Ev_getr 0 (64) dX9_load_120 f_RX9_77 rfl sh_0 rfl ?_
                    refine Ev_iload_n dX9_load_123 2 rfl ?_
                    refine Ev_iload dX9_load_124 0 rfl ?_
                    refine Ev_iconst (v := 1) dX9_load_126 rfl ⟨by decide, by decide⟩ ?_
                    refine Ev_iadd dX9_load_127 ?_
                    refine Ev_invV (d' := 0) [(0, v1), (0, w32 (v7_11 + 1))] 64 dX9_load_128 M_X5_item q_874 (by decide) rfl rfl sh_64 rfl (Nat.le_of_ble_eq_true rfl) (k_X5_item h) ?_
                    rintro _ _ ⟨rfl, r_13, rfl, h⟩
                    refine Ev_aload_n dX9_load_131 1 rfl ?_
                    refine Ev_getr 0 (64) dX9_load_132 f_RX9_77 rfl sh_0 rfl ?_
                    refine Ev_iload_n dX9_load_135 2 rfl ?_
                    refine Ev_iload dX9_load_136 0 rfl ?_
                    refine Ev_iconst (v := 2) dX9_load_138 rfl ⟨by decide, by decide⟩ ?_
                    refine Ev_iadd dX9_load_139 ?_
                    refine Ev_invV (d' := 0) [(0, v1), (0, w32 (v7_11 + 2))] 64 dX9_load_140 M_X5_item q_874 (by decide) rfl rfl sh_64 rfl (Nat.le_of_ble_eq_true rfl) (k_X5_item h) ?_
                    rintro _ _ ⟨rfl, r_14, rfl, h⟩
                    refine Ev_aload_n dX9_load_143 1 rfl ?_
                    refine Ev_getr 0 (64) dX9_load_144 f_RX9_77 rfl sh_0 rfl ?_
                    refine Ev_iload_n dX9_load_147 2 rfl ?_
                    refine Ev_iload dX9_load_148 0 rfl ?_
                    refine Ev_iconst (v := 3) dX9_load_150 rfl ⟨by decide, by decide⟩ ?_
                    refine Ev_iadd dX9_load_151 ?_
                    refine Ev_invV (d' := 0) [(0, v1), (0, w32 (v7_11 + 3))] 64 dX9_load_152 M_X5_item q_874 (by decide) rfl rfl sh_64 rfl (Nat.le_of_ble_eq_true rfl) (k_X5_item h) ?_
                    rintro _ _ ⟨rfl, r_15, rfl, h⟩
                    refine Ev_invV (d' := 3) [(0, r_12), (0, r_13), (0, r_14), (0, r_15)] 0 dX9_load_155 M_X9_line q_875 (by decide) rfl rfl sh_0 rfl (Nat.le_of_ble_eq_true rfl) (k_X9_line h) ?_
                    rintro _ s_17 ⟨r_16, rfl, h⟩
                    refine Ev_istore dX9_load_158 (by decide) rfl ?_
                    refine Ev_iload dX9_load_160 0 rfl ?_
                    refine jc_1 (P := fun (v5_18 : Int) => Ev mX9_load 4 168 [(0, (2, 0)), (1, (0, v1)), (3, (0, v3)), (4, (0, v4)), (5, (0, v5_18)), (6, (0, v6_7))] [] s_17 (poIs 0 post)) h ?_ ?_
                    · intro v5_18 h
                      obtain ⟨v6_20, ev6_20⟩ : ∃ z : Int, z = w32 (v6_7 + 1) := ⟨_, rfl⟩
                      replace h := h v6_20 ev6_20
                      refine Ev_iinc (v := v6_20) dX9_load_168 5 rfl ev6_20.symm (by decide) rfl ?_
                      refine Ev_goto (tgt := 72) dX9_load_171 (by decide) ?_
                      refine Ev_sub [1, 2, 3, 4, 5, 0] rfl ?_
                      exact hagain_9 _ _ _ h
                    · intro K_19 hK_19 h
                      refine Ev_if_lt (tgt := 168) dX9_load_162 (by decide) (fun hc => ?_) (fun hc => ?_)
                      · replace h := h.1 hc
                        refine Ev_sub [2, 3, 4, 5, 6, 7] rfl ?_
                        exact hK_19 _ h
                      · replace h := h.2 hc
                        obtain ⟨v5_21, ev5_21⟩ : ∃ z : Int, z = w32 (v5_6 + 1) := ⟨_, rfl⟩
                        replace h := h v5_21 ev5_21
                        refine Ev_iinc (v := v5_21) dX9_load_165 6 rfl ev5_21.symm (by decide) rfl ?_
                        refine Ev_sub [3, 4, 5, 6, 0, 7] rfl ?_
                        exact hK_19 _ h
                  · replace h := h.2 hc
                    refine Ev_bipush (v := -12) dX9_load_97 (by decide +kernel) ?_
                    exact Ev_ret dX9_load_99 trivial (poIs_mk h)
              · replace h := h.2 hc
                refine Ev_bipush (v := -13) dX9_load_63 (by decide +kernel) ?_
                exact Ev_ret dX9_load_65 trivial (poIs_mk h)
            · replace h := h.2 hc
              refine Ev_bipush (v := -11) dX9_load_47 (by decide +kernel) ?_
              exact Ev_ret dX9_load_49 trivial (poIs_mk h)
          · replace h := h.2 hc
            refine Ev_sub [] rfl ?_
            exact hK_2 h
theorem k_X9_most {s : Sg} {v1 : Int} {post : Int → Sg → Prop} (h : w_X9_most s v1 post) : EvM mX9_most 6 [(2, 0), (0, v1)] s (poIs 0 post) := by
  refine EvM_of rfl (by decide +kernel) (Nat.le_of_ble_eq_true rfl) ?_
  unfold w_X9_most at h
  show Ev mX9_most 6 0 [(0, (2, 0)), (1, (0, v1))] [] s (poIs 0 post)
  refine Ev_iload_n dX9_most_0 1 rfl ?_
  refine jc_0 (P := Ev mX9_most 6 9 [] [] s (poIs 0 post)) h ?_ ?_
  · intro  h
    refine Ev_bipush (v := -2) dX9_most_9 (by decide +kernel) ?_
    exact Ev_ret dX9_most_11 trivial (poIs_mk h)
  · intro K_1 hK_1 h
    refine Ev_if_lt (tgt := 9) dX9_most_1 (by decide) (fun hc => ?_) (fun hc => ?_)
    · replace h := h.1 hc
      refine Ev_sub [] rfl ?_
      exact hK_1 h
    · replace h := h.2 hc
      refine Ev_iload_n dX9_most_4 1 rfl ?_
      refine Ev_iconst (v := 1) dX9_most_5 rfl ⟨by decide, by decide⟩ ?_
      refine Ev_icmp_le (tgt := 12) dX9_most_6 (by decide) (fun hc => ?_) (fun hc => ?_)
      · replace h := h.1 hc
        refine Ev_iconst (v := -1) dX9_most_12 rfl ⟨by decide, by decide⟩ ?_
        refine Ev_istore_n dX9_most_13 (by decide) rfl ?_
        refine Ev_iconst (v := -1) dX9_most_14 rfl ⟨by decide, by decide⟩ ?_
        refine Ev_istore_n dX9_most_15 (by decide) rfl ?_
        refine Ev_iconst (v := 0) dX9_most_16 rfl ⟨by decide, by decide⟩ ?_
        refine Ev_istore dX9_most_17 (by decide) rfl ?_
        refine Ev_sub [3, 4, 2, 1, 0] rfl ?_
        refine li_3s (P := fun (v2_2 v3_3 v4_4 : Int) (s_5 : Sg) => Ev mX9_most 6 19 [(0, (2, 0)), (1, (0, v1)), (2, (0, v2_2)), (3, (0, v3_3)), (4, (0, v4_4))] [] s_5 (poIs 0 post)) ?_ h
        intro again_6 v2_2 v3_3 v4_4 s_5 hagain_6 h
        refine Ev_iload dX9_most_19 4 rfl ?_
        refine Ev_aload_n dX9_most_21 0 rfl ?_
        refine Ev_getr 0 (1) dX9_most_22 f_RX9_12 rfl sh_0 rfl ?_
        refine Ev_geti 1 dX9_most_25 f_RX9_104 rfl sh_1 ?_
        refine Ev_icmp_ge (tgt := 62) dX9_most_28 (by decide) (fun hc => ?_) (fun hc => ?_)
        · replace h := h.1 hc
          refine Ev_iload_n dX9_most_62 1 rfl ?_
          refine jc_1 (P := fun (t_7 : Int) => Ev mX9_most 6 71 [] [(0, t_7)] s_5 (poIs 0 post)) h ?_ ?_
          · intro t_7 h
            exact Ev_ret dX9_most_71 trivial (poIs_mk h)
          · intro K_8 hK_8 h
            refine Ev_if_ne (tgt := 70) dX9_most_63 (by decide) (fun hc => ?_) (fun hc => ?_)
            · replace h := h.1 hc
              refine Ev_iload_n dX9_most_70 3 rfl ?_
              refine Ev_sub [] rfl ?_
              exact hK_8 _ h
            · replace h := h.2 hc
              refine Ev_iload_n dX9_most_66 2 rfl ?_
              refine Ev_goto (tgt := 71) dX9_most_67 (by decide) ?_
              refine Ev_sub [] rfl ?_
              exact hK_8 _ h
        · replace h := h.2 hc
          refine Ev_aload_n dX9_most_31 0 rfl ?_
          refine Ev_iload dX9_most_32 4 rfl ?_
          refine Ev_invV (d' := 5) [(0, v4_4)] 0 dX9_most_34 M_X9_facesWithout q_763 (by decide) rfl rfl sh_0 rfl (Nat.le_of_ble_eq_true rfl) (k_X9_facesWithout h) ?_
          rintro _ s_10 ⟨r_9, rfl, h⟩
          refine Ev_istore dX9_most_37 (by decide) rfl ?_
          refine Ev_iload_n dX9_most_39 3 rfl ?_
          refine Ev_iconst (v := -1) dX9_most_40 rfl ⟨by decide, by decide⟩ ?_
          refine jc_2 (P := fun (v2_11 v3_12 : Int) => Ev mX9_most 6 56 [(0, (2, 0)), (1, (0, v1)), (2, (0, v2_11)), (3, (0, v3_12)), (4, (0, v4_4))] [] s_10 (poIs 0 post)) h ?_ ?_
          · intro v2_11 v3_12 h
            obtain ⟨v4_14, ev4_14⟩ : ∃ z : Int, z = w32 (v4_4 + 1) := ⟨_, rfl⟩
            replace h := h v4_14 ev4_14
            refine Ev_iinc (v := v4_14) dX9_most_56 4 rfl ev4_14.symm (by decide) rfl ?_
            refine Ev_goto (tgt := 19) dX9_most_59 (by decide) ?_
            refine Ev_sub [1, 2, 3, 4, 0] rfl ?_
            exact hagain_6 _ _ _ _ h
          · intro K_13 hK_13 h
            refine jc_0 (P := Ev mX9_most 6 50 [(0, (2, 0)), (1, (0, v1)), (4, (0, v4_4)), (5, (0, r_9))] [] s_10 (poIs 0 post)) h ?_ ?_
            · intro  h
              refine Ev_iload dX9_most_50 2 rfl ?_
              refine Ev_istore_n dX9_most_52 (by decide) rfl ?_
              refine Ev_iload dX9_most_53 4 rfl ?_
              refine Ev_istore_n dX9_most_55 (by decide) rfl ?_
              refine Ev_sub [2, 3, 1, 0, 4] rfl ?_
              exact hK_13 _ _ h
            · intro K_15 hK_15 h
              refine Ev_icmp_eq (tgt := 50) dX9_most_41 (by decide) (fun hc => ?_) (fun hc => ?_)
              · replace h := h.1 hc
                refine Ev_sub [1, 2, 5, 0] rfl ?_
                exact hK_15 h
              · replace h := h.2 hc
                refine Ev_iload dX9_most_44 0 rfl ?_
                refine Ev_iload_n dX9_most_46 4 rfl ?_
                refine Ev_icmp_ge (tgt := 56) dX9_most_47 (by decide) (fun hc => ?_) (fun hc => ?_)
                · replace h := h.1 hc
                  refine Ev_sub [1, 2, 3, 4, 5] rfl ?_
                  exact hK_13 _ _ h
                · replace h := h.2 hc
                  refine Ev_sub [1, 2, 5, 0] rfl ?_
                  exact hK_15 h
      · replace h := h.2 hc
        refine Ev_sub [] rfl ?_
        exact hK_1 h
theorem k_X9_move {s : Sg} {v1 v2 v3 v4 : Int} {post : Int → Sg → Prop} (h : w_X9_move s v1 v2 v3 v4 post) : EvM mX9_move 2 [(2, 0), (0, v1), (0, v2), (0, v3), (0, v4)] s (poIs 0 post) := by
  refine EvM_of rfl (by decide +kernel) (Nat.le_of_ble_eq_true rfl) ?_
  unfold w_X9_move at h
  show Ev mX9_move 2 0 [(0, (2, 0)), (1, (0, v1)), (2, (0, v2)), (3, (0, v3)), (4, (0, v4))] [] s (poIs 0 post)
  refine Ev_aload_n dX9_move_0 0 rfl ?_
  refine Ev_getr 0 (1) dX9_move_1 f_RX9_12 rfl sh_0 rfl ?_
  refine Ev_iload_n dX9_move_4 1 rfl ?_
  refine Ev_invV (d' := 0) [(0, v1)] 1 dX9_move_5 M_X2_has q_425 (by decide) rfl rfl sh_1 rfl (Nat.le_of_ble_eq_true rfl) (k_X2_has_1 h) ?_
  rintro _ _ ⟨rfl, r_1, rfl, h⟩
  refine jc_0 (P := Ev mX9_move 2 20 [] [] s (poIs 0 post)) h ?_ ?_
  · intro  h
    refine Ev_bipush (v := -2) dX9_move_20 (by decide +kernel) ?_
    exact Ev_ret dX9_move_22 trivial (poIs_mk h)
  · intro K_2 hK_2 h
    refine Ev_if_eq (tgt := 20) dX9_move_8 (by decide) (fun hc => ?_) (fun hc => ?_)
    · replace h := h.1 hc
      refine Ev_sub [] rfl ?_
      exact hK_2 h
    · replace h := h.2 hc
      refine Ev_iload_n dX9_move_11 2 rfl ?_
      refine Ev_if_lt (tgt := 20) dX9_move_12 (by decide) (fun hc => ?_) (fun hc => ?_)
      · replace h := h.1 hc
        refine Ev_sub [] rfl ?_
        exact hK_2 h
      · replace h := h.2 hc
        refine Ev_iload_n dX9_move_15 2 rfl ?_
        refine Ev_iconst (v := 1) dX9_move_16 rfl ⟨by decide, by decide⟩ ?_
        refine Ev_icmp_le (tgt := 23) dX9_move_17 (by decide) (fun hc => ?_) (fun hc => ?_)
        · replace h := h.1 hc
          refine Ev_iload_n dX9_move_23 2 rfl ?_
          refine jc_1 (P := fun (t_3 : Int) => Ev mX9_move 2 48 [(0, (2, 0)), (1, (0, v1)), (2, (0, v2)), (3, (0, v3)), (4, (0, v4))] [(0, t_3)] s (poIs 0 post)) h ?_ ?_
          · intro t_3 h
            refine Ev_istore dX9_move_48 (by decide) rfl ?_
            refine Ev_iload_n dX9_move_50 3 rfl ?_
            refine jc_1 (P := fun (t_5 : Int) => Ev mX9_move 2 75 [(0, (2, 0)), (1, (0, v1)), (3, (0, v3)), (4, (0, v4)), (5, (0, t_3))] [(0, t_5)] s (poIs 0 post)) h ?_ ?_
            · intro t_5 h
              refine Ev_istore dX9_move_75 (by decide) rfl ?_
              refine Ev_iload_n dX9_move_77 3 rfl ?_
              refine Ev_iload dX9_move_78 4 rfl ?_
              refine Ev_iload dX9_move_80 5 rfl ?_
              refine Ev_iload dX9_move_82 0 rfl ?_
              refine Ev_invS (d' := 1) [(0, v3), (0, v4), (0, t_3), (0, t_5)] dX9_move_84 M_X9_canBeEnds (Or.inl q_394) (by decide) rfl (Nat.le_of_ble_eq_true rfl) (k_X9_canBeEnds h) ?_
              rintro _ _ ⟨rfl, r_7, rfl, h⟩
              refine Ev_if_ne (tgt := 93) dX9_move_87 (by decide) (fun hc => ?_) (fun hc => ?_)
              · replace h := h.1 hc
                refine Ev_aload_n dX9_move_93 1 rfl ?_
                refine Ev_invV (d' := 0) [] 0 dX9_move_94 M_X9_forgetWhatFollows q_404 (by decide) rfl rfl sh_0 rfl (Nat.le_of_ble_eq_true rfl) (k_X9_forgetWhatFollows h) ?_
                rintro _ s_8 ⟨rfl, h⟩
                refine Ev_aload_n dX9_move_97 1 rfl ?_
                refine Ev_getr 0 (1) dX9_move_98 f_RX9_12 rfl sh_0 rfl ?_
                refine Ev_iload_n dX9_move_101 2 rfl ?_
                refine Ev_iload_n dX9_move_102 3 rfl ?_
                refine Ev_iload dX9_move_103 4 rfl ?_
                refine Ev_iload dX9_move_105 5 rfl ?_
                refine Ev_iload dX9_move_107 0 rfl ?_
                refine Ev_invV (d' := 1) [(0, v1), (0, v3), (0, v4), (0, t_3), (0, t_5)] 1 dX9_move_109 M_X2_lay q_434 (by decide) rfl rfl sh_1 rfl (Nat.le_of_ble_eq_true rfl) (k_X2_lay_1 h) ?_
                rintro _ s_9 ⟨rfl, h⟩
                refine Ev_iconst (v := 1) dX9_move_112 rfl ⟨by decide, by decide⟩ ?_
                exact Ev_ret dX9_move_113 trivial (poIs_mk h)
              · replace h := h.2 hc
                refine Ev_bipush (v := -2) dX9_move_90 (by decide +kernel) ?_
                exact Ev_ret dX9_move_92 trivial (poIs_mk h)
            · intro K_6 hK_6 h
              refine Ev_if_ne (tgt := 66) dX9_move_51 (by decide) (fun hc => ?_) (fun hc => ?_)
              · replace h := h.1 hc
                refine Ev_aload_n dX9_move_66 1 rfl ?_
                refine Ev_getr 0 (1) dX9_move_67 f_RX9_12 rfl sh_0 rfl ?_
                refine Ev_getr 1 (3) dX9_move_70 f_RX9_118 rfl sh_1 rfl ?_
                refine Ev_iload_n dX9_move_73 2 rfl ?_
                obtain ⟨hb_10, h⟩ := h
                refine Ev_iald (3) dX9_move_74 rfl sh_3 hb_10 ?_
                refine Ev_sub [1, 2, 4, 5, 0] rfl ?_
                exact hK_6 _ h
              · replace h := h.2 hc
                refine Ev_aload_n dX9_move_54 1 rfl ?_
                refine Ev_getr 0 (1) dX9_move_55 f_RX9_12 rfl sh_0 rfl ?_
                refine Ev_getr 1 (5) dX9_move_58 f_RX9_115 rfl sh_1 rfl ?_
                refine Ev_iload_n dX9_move_61 2 rfl ?_
                obtain ⟨hb_11, h⟩ := h
                refine Ev_iald (5) dX9_move_62 rfl sh_5 hb_11 ?_
                refine Ev_goto (tgt := 75) dX9_move_63 (by decide) ?_
                refine Ev_sub [1, 2, 4, 5, 0] rfl ?_
                exact hK_6 _ h
          · intro K_4 hK_4 h
            refine Ev_if_ne (tgt := 39) dX9_move_24 (by decide) (fun hc => ?_) (fun hc => ?_)
            · replace h := h.1 hc
              refine Ev_aload_n dX9_move_39 0 rfl ?_
              refine Ev_getr 0 (1) dX9_move_40 f_RX9_12 rfl sh_0 rfl ?_
              refine Ev_getr 1 (2) dX9_move_43 f_RX9_112 rfl sh_1 rfl ?_
              refine Ev_iload_n dX9_move_46 1 rfl ?_
              obtain ⟨hb_12, h⟩ := h
              refine Ev_iald (2) dX9_move_47 rfl sh_2 hb_12 ?_
              exact hK_4 _ h
            · replace h := h.2 hc
              refine Ev_aload_n dX9_move_27 0 rfl ?_
              refine Ev_getr 0 (1) dX9_move_28 f_RX9_12 rfl sh_0 rfl ?_
              refine Ev_getr 1 (4) dX9_move_31 f_RX9_108 rfl sh_1 rfl ?_
              refine Ev_iload_n dX9_move_34 1 rfl ?_
              obtain ⟨hb_13, h⟩ := h
              refine Ev_iald (4) dX9_move_35 rfl sh_4 hb_13 ?_
              refine Ev_goto (tgt := 48) dX9_move_36 (by decide) ?_
              exact hK_4 _ h
        · replace h := h.2 hc
          refine Ev_sub [] rfl ?_
          exact hK_2 h
theorem k_X9_on {s : Sg} {v1 v2 v3 : Int} {post : Int → Prop} (h : w_X9_on s v1 v2 v3 post) : EvM mX9_on 3 [(2, 0), (0, v1), (0, v2), (0, v3)] s (poI 0 s post) := by
  refine EvM_of rfl (by decide +kernel) (Nat.le_of_ble_eq_true rfl) ?_
  unfold w_X9_on at h
  show Ev mX9_on 3 0 [(0, (2, 0)), (1, (0, v1)), (2, (0, v2)), (3, (0, v3))] [] s (poI 0 s post)
  refine Ev_iload_n dX9_on_0 1 rfl ?_
  refine Ev_iload_n dX9_on_1 2 rfl ?_
  refine Ev_iload_n dX9_on_2 3 rfl ?_
  refine Ev_invS (d' := 0) [(0, v1), (0, v2), (0, v3)] dX9_on_3 M_X9_canBePlace (Or.inl q_728) (by decide) rfl (Nat.le_of_ble_eq_true rfl) (k_X9_canBePlace h) ?_
  rintro _ _ ⟨rfl, r_1, rfl, h⟩
  refine jc_1 (P := fun (t_2 : Int) => Ev mX9_on 3 21 [] [(0, t_2)] s (poI 0 s post)) h ?_ ?_
  · intro t_2 h
    exact Ev_ret dX9_on_21 trivial (poI_mk h)
  · intro K_3 hK_3 h
    refine Ev_if_eq (tgt := 19) dX9_on_6 (by decide) (fun hc => ?_) (fun hc => ?_)
    · replace h := h.1 hc
      refine Ev_bipush (v := -2) dX9_on_19 (by decide +kernel) ?_
      refine Ev_sub [] rfl ?_
      exact hK_3 _ h
    · replace h := h.2 hc
      refine Ev_aload_n dX9_on_9 0 rfl ?_
      refine Ev_iload_n dX9_on_10 1 rfl ?_
      refine Ev_iload_n dX9_on_11 2 rfl ?_
      refine Ev_iload_n dX9_on_12 3 rfl ?_
      refine Ev_invV (d' := 2) [(0, v1), (0, v2), (0, v3)] 0 dX9_on_13 M_X9_linesOn q_731 (by decide) rfl rfl sh_0 rfl (Nat.le_of_ble_eq_true rfl) (k_X9_linesOn h) ?_
      rintro _ _ ⟨rfl, r_4, rfl, h⟩
      refine Ev_goto (tgt := 21) dX9_on_16 (by decide) ?_
      refine Ev_sub [] rfl ?_
      exact hK_3 _ h
theorem k_X9_order {s : Sg} {v1 v2 v3 : Int} {post : Int → Sg → Prop} (h : w_X9_order s v1 v2 v3 post) : EvM mX9_order 4 [(2, 0), (0, v1), (0, v2), (0, v3)] s (poIs 0 post) := by
  refine EvM_of rfl (by decide +kernel) (Nat.le_of_ble_eq_true rfl) ?_
  unfold w_X9_order at h
  show Ev mX9_order 4 0 [(0, (2, 0)), (1, (0, v1)), (2, (0, v2)), (3, (0, v3))] [] s (poIs 0 post)
  refine Ev_iload_n dX9_order_0 1 rfl ?_
  refine jc_0 (P := Ev mX9_order 4 22 [] [] s (poIs 0 post)) h ?_ ?_
  · intro  h
    refine Ev_bipush (v := -2) dX9_order_22 (by decide +kernel) ?_
    exact Ev_ret dX9_order_24 trivial (poIs_mk h)
  · intro K_1 hK_1 h
    refine Ev_if_lt (tgt := 22) dX9_order_1 (by decide) (fun hc => ?_) (fun hc => ?_)
    · replace h := h.1 hc
      refine Ev_sub [] rfl ?_
      exact hK_1 h
    · replace h := h.2 hc
      refine Ev_iload_n dX9_order_4 1 rfl ?_
      refine Ev_sipush (v := 400) dX9_order_5 (by decide +kernel) ?_
      refine Ev_icmp_gt (tgt := 22) dX9_order_8 (by decide) (fun hc => ?_) (fun hc => ?_)
      · replace h := h.1 hc
        refine Ev_sub [] rfl ?_
        exact hK_1 h
      · replace h := h.2 hc
        refine Ev_iload_n dX9_order_11 2 rfl ?_
        refine Ev_iconst (v := 1) dX9_order_12 rfl ⟨by decide, by decide⟩ ?_
        refine Ev_icmp_lt (tgt := 22) dX9_order_13 (by decide) (fun hc => ?_) (fun hc => ?_)
        · replace h := h.1 hc
          refine Ev_sub [] rfl ?_
          exact hK_1 h
        · replace h := h.2 hc
          refine Ev_iload_n dX9_order_16 2 rfl ?_
          refine Ev_bipush (v := 10) dX9_order_17 (by decide +kernel) ?_
          refine Ev_icmp_le (tgt := 25) dX9_order_19 (by decide) (fun hc => ?_) (fun hc => ?_)
          · replace h := h.1 hc
            refine Ev_aload_n dX9_order_25 0 rfl ?_
            refine Ev_getr 0 (35) dX9_order_26 f_RX9_42 rfl sh_0 rfl ?_
            refine Ev_aload_n dX9_order_29 0 rfl ?_
            refine Ev_getr 0 (1) dX9_order_30 f_RX9_12 rfl sh_0 rfl ?_
            refine Ev_iload_n dX9_order_33 1 rfl ?_
            refine Ev_i2l dX9_order_34 ?_
            refine Ev_iload_n dX9_order_35 2 rfl ?_
            refine Ev_i2l dX9_order_36 ?_
            refine Ev_invV (d' := 3) [(2, 1), (1, v1), (1, v2)] 35 dX9_order_37 M_X7_stand q_596 (by decide) rfl rfl sh_35 rfl (Nat.le_of_ble_eq_true rfl) (k_X7_stand h) ?_
            rintro _ s_2 ⟨rfl, h⟩
            refine Ev_iload_n dX9_order_40 3 rfl ?_
            refine Ev_iconst (v := -1) dX9_order_41 rfl ⟨by decide, by decide⟩ ?_
            refine Ev_icmp_ne (tgt := 53) dX9_order_42 (by decide) (fun hc => ?_) (fun hc => ?_)
            · replace h := h.1 hc
              refine Ev_iload_n dX9_order_53 3 rfl ?_
              refine jc_0 (P := Ev mX9_order 4 68 [] [] s_2 (poIs 0 post)) h ?_ ?_
              · intro  h
                refine Ev_bipush (v := -12) dX9_order_68 (by decide +kernel) ?_
                exact Ev_ret dX9_order_70 trivial (poIs_mk h)
              · intro K_3 hK_3 h
                refine Ev_if_lt (tgt := 68) dX9_order_54 (by decide) (fun hc => ?_) (fun hc => ?_)
                · replace h := h.1 hc
                  refine Ev_sub [] rfl ?_
                  exact hK_3 h
                · replace h := h.2 hc
                  refine Ev_iload_n dX9_order_57 3 rfl ?_
                  refine Ev_aload_n dX9_order_58 0 rfl ?_
                  refine Ev_getr 0 (35) dX9_order_59 f_RX9_42 rfl sh_0 rfl ?_
                  refine Ev_geti 35 dX9_order_62 f_RX9_193 rfl sh_35 ?_
                  refine Ev_icmp_lt (tgt := 71) dX9_order_65 (by decide) (fun hc => ?_) (fun hc => ?_)
                  · replace h := h.1 hc
                    refine Ev_aload_n dX9_order_71 0 rfl ?_
                    refine Ev_getr 0 (35) dX9_order_72 f_RX9_42 rfl sh_0 rfl ?_
                    refine Ev_getr 35 (36) dX9_order_75 f_RX9_194 rfl sh_35 rfl ?_
                    refine Ev_iload_n dX9_order_78 3 rfl ?_
                    obtain ⟨hb_4, h⟩ := h
                    refine Ev_iald (36) dX9_order_79 rfl sh_36 hb_4 ?_
                    exact Ev_ret dX9_order_80 trivial (poIs_mk h)
                  · replace h := h.2 hc
                    refine Ev_sub [] rfl ?_
                    exact hK_3 h
            · replace h := h.2 hc
              refine Ev_aload_n dX9_order_45 0 rfl ?_
              refine Ev_getr 0 (35) dX9_order_46 f_RX9_42 rfl sh_0 rfl ?_
              refine Ev_geti 35 dX9_order_49 f_RX9_193 rfl sh_35 ?_
              exact Ev_ret dX9_order_52 trivial (poIs_mk h)
          · replace h := h.2 hc
            refine Ev_sub [] rfl ?_
            exact hK_1 h
theorem k_X9_point {s : Sg} {v1 v2 : Int} {post : Int → Sg → Prop} (h : w_X9_point s v1 v2 post) : EvM mX9_point 6 [(2, 0), (0, v1), (0, v2)] s (poIs 0 post) := by
  refine EvM_of rfl (by decide +kernel) (Nat.le_of_ble_eq_true rfl) ?_
  unfold w_X9_point at h
  show Ev mX9_point 6 0 [(0, (2, 0)), (1, (0, v1)), (2, (0, v2))] [] s (poIs 0 post)
  refine Ev_iload_n dX9_point_0 2 rfl ?_
  refine jc_0 (P := Ev mX9_point 6 10 [] [] s (poIs 0 post)) h ?_ ?_
  · intro  h
    refine Ev_bipush (v := -2) dX9_point_10 (by decide +kernel) ?_
    exact Ev_ret dX9_point_12 trivial (poIs_mk h)
  · intro K_1 hK_1 h
    refine Ev_if_lt (tgt := 10) dX9_point_1 (by decide) (fun hc => ?_) (fun hc => ?_)
    · replace h := h.1 hc
      refine Ev_sub [] rfl ?_
      exact hK_1 h
    · replace h := h.2 hc
      refine Ev_iload_n dX9_point_4 2 rfl ?_
      refine Ev_bipush (v := 6) dX9_point_5 (by decide +kernel) ?_
      refine Ev_icmp_le (tgt := 13) dX9_point_7 (by decide) (fun hc => ?_) (fun hc => ?_)
      · replace h := h.1 hc
        refine Ev_aload_n dX9_point_13 0 rfl ?_
        refine Ev_invV (d' := 5) [] 0 dX9_point_14 M_X9_knowPoints q_443 (by decide) rfl rfl sh_0 rfl (Nat.le_of_ble_eq_true rfl) (k_X9_knowPoints h) ?_
        rintro _ s_2 ⟨rfl, h⟩
        refine Ev_iload_n dX9_point_17 1 rfl ?_
        refine jc_0 (P := Ev mX9_point 6 32 [] [] s_2 (poIs 0 post)) h ?_ ?_
        · intro  h
          refine Ev_bipush (v := -12) dX9_point_32 (by decide +kernel) ?_
          exact Ev_ret dX9_point_34 trivial (poIs_mk h)
        · intro K_3 hK_3 h
          refine Ev_if_lt (tgt := 32) dX9_point_18 (by decide) (fun hc => ?_) (fun hc => ?_)
          · replace h := h.1 hc
            refine Ev_sub [] rfl ?_
            exact hK_3 h
          · replace h := h.2 hc
            refine Ev_iload_n dX9_point_21 1 rfl ?_
            refine Ev_aload_n dX9_point_22 0 rfl ?_
            refine Ev_getr 0 (16) dX9_point_23 f_RX9_25 rfl sh_0 rfl ?_
            refine Ev_geti 16 dX9_point_26 f_RX9_169 rfl sh_16 ?_
            refine Ev_icmp_lt (tgt := 35) dX9_point_29 (by decide) (fun hc => ?_) (fun hc => ?_)
            · replace h := h.1 hc
              refine Ev_iload_n dX9_point_35 2 rfl ?_
              rcases (show v2 = 0 ∨ v2 = 1 ∨ v2 = 2 ∨ v2 = 3 ∨ v2 = 4 ∨ v2 = 5 ∨ (v2 < 0 ∨ 5 < v2) by omega) with hc | hc | hc | hc | hc | hc | hc
              · replace h := h.1 hc
                refine Ev_tabIn (tgt := 76) (off := 40) dX9_point_36 (by omega) (by omega) (by rw [hc]; rfl) (by decide) ?_
                refine Ev_aload_n dX9_point_76 0 rfl ?_
                refine Ev_getr 0 (16) dX9_point_77 f_RX9_25 rfl sh_0 rfl ?_
                refine Ev_getr 16 (17) dX9_point_80 f_RX9_170 rfl sh_16 rfl ?_
                refine Ev_iload_n dX9_point_83 1 rfl ?_
                obtain ⟨hb_4, h⟩ := h
                refine Ev_lald (17) dX9_point_84 rfl sh_17 hb_4 ?_
                refine Ev_l2i dX9_point_85 ?_
                exact Ev_ret dX9_point_86 trivial (poIs_mk h)
              · replace h := h.2.1 hc
                refine Ev_tabIn (tgt := 87) (off := 51) dX9_point_36 (by omega) (by omega) (by rw [hc]; rfl) (by decide) ?_
                refine Ev_aload_n dX9_point_87 0 rfl ?_
                refine Ev_getr 0 (16) dX9_point_88 f_RX9_25 rfl sh_0 rfl ?_
                refine Ev_getr 16 (18) dX9_point_91 f_RX9_173 rfl sh_16 rfl ?_
                refine Ev_iload_n dX9_point_94 1 rfl ?_
                obtain ⟨hb_5, h⟩ := h
                refine Ev_lald (18) dX9_point_95 rfl sh_18 hb_5 ?_
                refine Ev_l2i dX9_point_96 ?_
                exact Ev_ret dX9_point_97 trivial (poIs_mk h)
              · replace h := h.2.2.1 hc
                refine Ev_tabIn (tgt := 98) (off := 62) dX9_point_36 (by omega) (by omega) (by rw [hc]; rfl) (by decide) ?_
                refine Ev_aload_n dX9_point_98 0 rfl ?_
                refine Ev_getr 0 (16) dX9_point_99 f_RX9_25 rfl sh_0 rfl ?_
                refine Ev_getr 16 (19) dX9_point_102 f_RX9_175 rfl sh_16 rfl ?_
                refine Ev_iload_n dX9_point_105 1 rfl ?_
                obtain ⟨hb_6, h⟩ := h
                refine Ev_lald (19) dX9_point_106 rfl sh_19 hb_6 ?_
                refine Ev_l2i dX9_point_107 ?_
                exact Ev_ret dX9_point_108 trivial (poIs_mk h)
              · replace h := h.2.2.2.1 hc
                refine Ev_tabIn (tgt := 109) (off := 73) dX9_point_36 (by omega) (by omega) (by rw [hc]; rfl) (by decide) ?_
                refine Ev_aload_n dX9_point_109 0 rfl ?_
                refine Ev_getr 0 (16) dX9_point_110 f_RX9_25 rfl sh_0 rfl ?_
                refine Ev_getr 16 (20) dX9_point_113 f_RX9_177 rfl sh_16 rfl ?_
                refine Ev_iload_n dX9_point_116 1 rfl ?_
                obtain ⟨hb_7, h⟩ := h
                refine Ev_lald (20) dX9_point_117 rfl sh_20 hb_7 ?_
                refine Ev_l2i dX9_point_118 ?_
                exact Ev_ret dX9_point_119 trivial (poIs_mk h)
              · replace h := h.2.2.2.2.1 hc
                refine Ev_tabIn (tgt := 120) (off := 84) dX9_point_36 (by omega) (by omega) (by rw [hc]; rfl) (by decide) ?_
                refine Ev_aload_n dX9_point_120 0 rfl ?_
                refine Ev_getr 0 (16) dX9_point_121 f_RX9_25 rfl sh_0 rfl ?_
                refine Ev_getr 16 (21) dX9_point_124 f_RX9_179 rfl sh_16 rfl ?_
                refine Ev_iload_n dX9_point_127 1 rfl ?_
                obtain ⟨hb_8, h⟩ := h
                refine Ev_iald (21) dX9_point_128 rfl sh_21 hb_8 ?_
                exact Ev_ret dX9_point_129 trivial (poIs_mk h)
              · replace h := h.2.2.2.2.2.1 hc
                refine Ev_tabIn (tgt := 130) (off := 94) dX9_point_36 (by omega) (by omega) (by rw [hc]; rfl) (by decide) ?_
                refine Ev_aload_n dX9_point_130 0 rfl ?_
                refine Ev_getr 0 (16) dX9_point_131 f_RX9_25 rfl sh_0 rfl ?_
                refine Ev_aload_n dX9_point_134 0 rfl ?_
                refine Ev_getr 0 (1) dX9_point_135 f_RX9_12 rfl sh_0 rfl ?_
                refine Ev_iload_n dX9_point_138 1 rfl ?_
                refine Ev_invV (d' := 0) [(2, 1), (0, v1)] 16 dX9_point_139 M_X4_endsAt q_588 (by decide) rfl rfl sh_16 rfl (Nat.le_of_ble_eq_true rfl) (k_X4_endsAt h) ?_
                rintro _ _ ⟨rfl, r_9, rfl, h⟩
                exact Ev_ret dX9_point_142 trivial (poIs_mk h)
              · replace h := h.2.2.2.2.2.2 hc
                refine Ev_tabOut (tgt := 143) dX9_point_36 hc (by decide) ?_
                refine Ev_aload_n dX9_point_143 0 rfl ?_
                refine Ev_getr 0 (16) dX9_point_144 f_RX9_25 rfl sh_0 rfl ?_
                refine Ev_getr 16 (22) dX9_point_147 f_RX9_186 rfl sh_16 rfl ?_
                refine Ev_iload_n dX9_point_150 1 rfl ?_
                obtain ⟨hb_10, h⟩ := h
                refine Ev_iald (22) dX9_point_151 rfl sh_22 hb_10 ?_
                exact Ev_ret dX9_point_152 trivial (poIs_mk h)
            · replace h := h.2 hc
              refine Ev_sub [] rfl ?_
              exact hK_3 h
      · replace h := h.2 hc
        refine Ev_sub [] rfl ?_
        exact hK_1 h
theorem k_X9_put {s : Sg} {v1 v2 v3 : Int} {post : Int → Sg → Prop} (h : w_X9_put s v1 v2 v3 post) : EvM mX9_put 1 [(2, 0), (0, v1), (0, v2), (0, v3)] s (poIs 0 post) := by
  refine EvM_of rfl (by decide +kernel) (Nat.le_of_ble_eq_true rfl) ?_
  unfold w_X9_put at h
  show Ev mX9_put 1 0 [(0, (2, 0)), (1, (0, v1)), (2, (0, v2)), (3, (0, v3))] [] s (poIs 0 post)
  refine Ev_aload_n dX9_put_0 0 rfl ?_
  refine Ev_getr 0 (64) dX9_put_1 f_RX9_77 rfl sh_0 rfl ?_
  refine Ev_iload_n dX9_put_4 1 rfl ?_
  refine Ev_invV (d' := 0) [(0, v1)] 64 dX9_put_5 M_X5_isOne q_803 (by decide) rfl rfl sh_64 rfl (Nat.le_of_ble_eq_true rfl) (k_X5_isOne h) ?_
  rintro _ _ ⟨rfl, r_1, rfl, h⟩
  refine Ev_if_ne (tgt := 14) dX9_put_8 (by decide) (fun hc => ?_) (fun hc => ?_)
  · replace h := h.1 hc
    refine Ev_aload_n dX9_put_14 0 rfl ?_
    refine Ev_getr 0 (64) dX9_put_15 f_RX9_77 rfl sh_0 rfl ?_
    refine Ev_iload_n dX9_put_18 1 rfl ?_
    refine Ev_invV (d' := 0) [(0, v1)] 64 dX9_put_19 M_X5_isMissing q_807 (by decide) rfl rfl sh_64 rfl (Nat.le_of_ble_eq_true rfl) (k_X5_isMissing h) ?_
    rintro _ _ ⟨rfl, r_2, rfl, h⟩
    refine Ev_if_eq (tgt := 28) dX9_put_22 (by decide) (fun hc => ?_) (fun hc => ?_)
    · replace h := h.1 hc
      refine Ev_iload_n dX9_put_28 2 rfl ?_
      refine jc_0 (P := Ev mX9_put 1 45 [] [] s (poIs 0 post)) h ?_ ?_
      · intro  h
        refine Ev_bipush (v := -12) dX9_put_45 (by decide +kernel) ?_
        exact Ev_ret dX9_put_47 trivial (poIs_mk h)
      · intro K_3 hK_3 h
        refine Ev_if_lt (tgt := 45) dX9_put_29 (by decide) (fun hc => ?_) (fun hc => ?_)
        · replace h := h.1 hc
          refine Ev_sub [] rfl ?_
          exact hK_3 h
        · replace h := h.2 hc
          refine Ev_iload_n dX9_put_32 2 rfl ?_
          refine Ev_aload_n dX9_put_33 0 rfl ?_
          refine Ev_getr 0 (64) dX9_put_34 f_RX9_77 rfl sh_0 rfl ?_
          refine Ev_getr 64 (66) dX9_put_37 f_RX9_288 rfl sh_64 rfl ?_
          refine Ev_iload_n dX9_put_40 1 rfl ?_
          obtain ⟨hb_4, h⟩ := h
          refine Ev_iald (66) dX9_put_41 rfl sh_66 hb_4 ?_
          refine Ev_icmp_lt (tgt := 48) dX9_put_42 (by decide) (fun hc => ?_) (fun hc => ?_)
          · replace h := h.1 hc
            refine Ev_aload_n dX9_put_48 0 rfl ?_
            refine Ev_getr 0 (64) dX9_put_49 f_RX9_77 rfl sh_0 rfl ?_
            refine Ev_iload_n dX9_put_52 1 rfl ?_
            refine Ev_iload_n dX9_put_53 2 rfl ?_
            refine Ev_iload_n dX9_put_54 3 rfl ?_
            refine Ev_invV (d' := 0) [(0, v1), (0, v2), (0, v3)] 64 dX9_put_55 M_X5_set q_835 (by decide) rfl rfl sh_64 rfl (Nat.le_of_ble_eq_true rfl) (k_X5_set h) ?_
            rintro _ s_5 ⟨rfl, h⟩
            refine Ev_iconst (v := 1) dX9_put_58 rfl ⟨by decide, by decide⟩ ?_
            exact Ev_ret dX9_put_59 trivial (poIs_mk h)
          · replace h := h.2 hc
            refine Ev_sub [] rfl ?_
            exact hK_3 h
    · replace h := h.2 hc
      refine Ev_bipush (v := -11) dX9_put_25 (by decide +kernel) ?_
      exact Ev_ret dX9_put_27 trivial (poIs_mk h)
  · replace h := h.2 hc
    refine Ev_bipush (v := -2) dX9_put_11 (by decide +kernel) ?_
    exact Ev_ret dX9_put_13 trivial (poIs_mk h)
theorem k_X9_sheet {s : Sg} {v1 v2 v3 : Int} {post : Int → Sg → Prop} (h : w_X9_sheet s v1 v2 v3 post) : EvM mX9_sheet 1 [(2, 0), (0, v1), (0, v2), (0, v3)] s (poIs 0 post) := by
  refine EvM_of rfl (by decide +kernel) (Nat.le_of_ble_eq_true rfl) ?_
  unfold w_X9_sheet at h
  show Ev mX9_sheet 1 0 [(0, (2, 0)), (1, (0, v1)), (2, (0, v2)), (3, (0, v3))] [] s (poIs 0 post)
  refine Ev_aload_n dX9_sheet_0 0 rfl ?_
  refine Ev_getr 0 (64) dX9_sheet_1 f_RX9_77 rfl sh_0 rfl ?_
  refine Ev_iload_n dX9_sheet_4 1 rfl ?_
  refine Ev_invV (d' := 0) [(0, v1)] 64 dX9_sheet_5 M_X5_isOne q_803 (by decide) rfl rfl sh_64 rfl (Nat.le_of_ble_eq_true rfl) (k_X5_isOne h) ?_
  rintro _ _ ⟨rfl, r_1, rfl, h⟩
  refine jc_0 (P := Ev mX9_sheet 1 27 [] [] s (poIs 0 post)) h ?_ ?_
  · intro  h
    refine Ev_bipush (v := -2) dX9_sheet_27 (by decide +kernel) ?_
    exact Ev_ret dX9_sheet_29 trivial (poIs_mk h)
  · intro K_2 hK_2 h
    refine Ev_if_eq (tgt := 27) dX9_sheet_8 (by decide) (fun hc => ?_) (fun hc => ?_)
    · replace h := h.1 hc
      refine Ev_sub [] rfl ?_
      exact hK_2 h
    · replace h := h.2 hc
      refine Ev_iload_n dX9_sheet_11 2 rfl ?_
      refine Ev_iconst (v := -1) dX9_sheet_12 rfl ⟨by decide, by decide⟩ ?_
      refine jc_0 (P := Ev mX9_sheet 1 30 [(0, (2, 0)), (1, (0, v1)), (2, (0, v2)), (3, (0, v3))] [] s (poIs 0 post)) h ?_ ?_
      · intro  h
        refine Ev_iload_n dX9_sheet_30 2 rfl ?_
        refine Ev_iconst (v := -1) dX9_sheet_31 rfl ⟨by decide, by decide⟩ ?_
        refine Ev_icmp_ne (tgt := 47) dX9_sheet_32 (by decide) (fun hc => ?_) (fun hc => ?_)
        · replace h := h.1 hc
          refine Ev_iload_n dX9_sheet_47 3 rfl ?_
          refine Ev_bipush (v := 40) dX9_sheet_48 (by decide +kernel) ?_
          refine Ev_icmp_le (tgt := 56) dX9_sheet_50 (by decide) (fun hc => ?_) (fun hc => ?_)
          · replace h := h.1 hc
            refine Ev_iload_n dX9_sheet_56 3 rfl ?_
            refine Ev_if_ge (tgt := 63) dX9_sheet_57 (by decide) (fun hc => ?_) (fun hc => ?_)
            · replace h := h.1 hc
              refine Ev_aload_n dX9_sheet_63 0 rfl ?_
              refine Ev_getr 0 (64) dX9_sheet_64 f_RX9_77 rfl sh_0 rfl ?_
              refine Ev_iload_n dX9_sheet_67 1 rfl ?_
              refine Ev_iload_n dX9_sheet_68 2 rfl ?_
              refine Ev_iload_n dX9_sheet_69 3 rfl ?_
              refine Ev_invV (d' := 0) [(0, v1), (0, v2), (0, v3)] 64 dX9_sheet_70 M_X5_make q_831 (by decide) rfl rfl sh_64 rfl (Nat.le_of_ble_eq_true rfl) (k_X5_make h) ?_
              rintro _ s_4 ⟨rfl, h⟩
              refine Ev_iconst (v := 1) dX9_sheet_73 rfl ⟨by decide, by decide⟩ ?_
              exact Ev_ret dX9_sheet_74 trivial (poIs_mk h)
            · replace h := h.2 hc
              refine Ev_bipush (v := -14) dX9_sheet_60 (by decide +kernel) ?_
              exact Ev_ret dX9_sheet_62 trivial (poIs_mk h)
          · replace h := h.2 hc
            refine Ev_bipush (v := -2) dX9_sheet_53 (by decide +kernel) ?_
            exact Ev_ret dX9_sheet_55 trivial (poIs_mk h)
        · replace h := h.2 hc
          refine Ev_aload_n dX9_sheet_35 0 rfl ?_
          refine Ev_getr 0 (64) dX9_sheet_36 f_RX9_77 rfl sh_0 rfl ?_
          refine Ev_iload_n dX9_sheet_39 1 rfl ?_
          refine Ev_iconst (v := -1) dX9_sheet_40 rfl ⟨by decide, by decide⟩ ?_
          refine Ev_iconst (v := 0) dX9_sheet_41 rfl ⟨by decide, by decide⟩ ?_
          refine Ev_invV (d' := 0) [(0, v1), (0, (-1)), (0, 0)] 64 dX9_sheet_42 M_X5_make q_831 (by decide) rfl rfl sh_64 rfl (Nat.le_of_ble_eq_true rfl) (k_X5_make h) ?_
          rintro _ s_5 ⟨rfl, h⟩
          refine Ev_iconst (v := 1) dX9_sheet_45 rfl ⟨by decide, by decide⟩ ?_
          exact Ev_ret dX9_sheet_46 trivial (poIs_mk h)
      · intro K_3 hK_3 h
        refine Ev_icmp_eq (tgt := 30) dX9_sheet_13 (by decide) (fun hc => ?_) (fun hc => ?_)
        · replace h := h.1 hc
          exact hK_3 h
        · replace h := h.2 hc
          refine Ev_aload_n dX9_sheet_16 0 rfl ?_
          refine Ev_getr 0 (64) dX9_sheet_17 f_RX9_77 rfl sh_0 rfl ?_
          refine Ev_iload_n dX9_sheet_20 2 rfl ?_
          refine Ev_invV (d' := 0) [(0, v2)] 64 dX9_sheet_21 M_X5_isSort q_851 (by decide) rfl rfl sh_64 rfl (Nat.le_of_ble_eq_true rfl) (k_X5_isSort h) ?_
          rintro _ _ ⟨rfl, r_6, rfl, h⟩
          refine Ev_if_ne (tgt := 30) dX9_sheet_24 (by decide) (fun hc => ?_) (fun hc => ?_)
          · replace h := h.1 hc
            exact hK_3 h
          · replace h := h.2 hc
            refine Ev_sub [] rfl ?_
            exact hK_2 h
theorem k_X9_slab {s : Sg} {v1 v2 : Int} {post : Int → Sg → Prop} (h : w_X9_slab s v1 v2 post) : EvM mX9_slab 6 [(2, 0), (0, v1), (0, v2)] s (poIs 0 post) := by
  refine EvM_of rfl (by decide +kernel) (Nat.le_of_ble_eq_true rfl) ?_
  unfold w_X9_slab at h
  show Ev mX9_slab 6 0 [(0, (2, 0)), (1, (0, v1)), (2, (0, v2))] [] s (poIs 0 post)
  refine Ev_iload_n dX9_slab_0 2 rfl ?_
  refine jc_0 (P := Ev mX9_slab 6 9 [] [] s (poIs 0 post)) h ?_ ?_
  · intro  h
    refine Ev_bipush (v := -2) dX9_slab_9 (by decide +kernel) ?_
    exact Ev_ret dX9_slab_11 trivial (poIs_mk h)
  · intro K_1 hK_1 h
    refine Ev_if_lt (tgt := 9) dX9_slab_1 (by decide) (fun hc => ?_) (fun hc => ?_)
    · replace h := h.1 hc
      refine Ev_sub [] rfl ?_
      exact hK_1 h
    · replace h := h.2 hc
      refine Ev_iload_n dX9_slab_4 2 rfl ?_
      refine Ev_iconst (v := 3) dX9_slab_5 rfl ⟨by decide, by decide⟩ ?_
      refine Ev_icmp_le (tgt := 12) dX9_slab_6 (by decide) (fun hc => ?_) (fun hc => ?_)
      · replace h := h.1 hc
        refine Ev_aload_n dX9_slab_12 0 rfl ?_
        refine Ev_invV (d' := 5) [] 0 dX9_slab_13 M_X9_knowFaces q_621 (by decide) rfl rfl sh_0 rfl (Nat.le_of_ble_eq_true rfl) (k_X9_knowFaces h) ?_
        rintro _ s_2 ⟨rfl, h⟩
        refine Ev_iload_n dX9_slab_16 1 rfl ?_
        refine jc_0 (P := Ev mX9_slab 6 31 [] [] s_2 (poIs 0 post)) h ?_ ?_
        · intro  h
          refine Ev_bipush (v := -12) dX9_slab_31 (by decide +kernel) ?_
          exact Ev_ret dX9_slab_33 trivial (poIs_mk h)
        · intro K_3 hK_3 h
          refine Ev_if_lt (tgt := 31) dX9_slab_17 (by decide) (fun hc => ?_) (fun hc => ?_)
          · replace h := h.1 hc
            refine Ev_sub [] rfl ?_
            exact hK_3 h
          · replace h := h.2 hc
            refine Ev_iload_n dX9_slab_20 1 rfl ?_
            refine Ev_aload_n dX9_slab_21 0 rfl ?_
            refine Ev_getr 0 (38) dX9_slab_22 f_RX9_49 rfl sh_0 rfl ?_
            refine Ev_geti 38 dX9_slab_25 f_RX9_200 rfl sh_38 ?_
            refine Ev_icmp_le (tgt := 34) dX9_slab_28 (by decide) (fun hc => ?_) (fun hc => ?_)
            · replace h := h.1 hc
              refine Ev_iload_n dX9_slab_34 2 rfl ?_
              refine Ev_iconst (v := 2) dX9_slab_35 rfl ⟨by decide, by decide⟩ ?_
              refine Ev_icmp_ne (tgt := 61) dX9_slab_36 (by decide) (fun hc => ?_) (fun hc => ?_)
              · replace h := h.1 hc
                refine Ev_iload_n dX9_slab_61 2 rfl ?_
                refine Ev_iconst (v := 3) dX9_slab_62 rfl ⟨by decide, by decide⟩ ?_
                refine Ev_icmp_ne (tgt := 76) dX9_slab_63 (by decide) (fun hc => ?_) (fun hc => ?_)
                · replace h := h.1 hc
                  refine Ev_iload_n dX9_slab_76 1 rfl ?_
                  refine Ev_if_ne (tgt := 83) dX9_slab_77 (by decide) (fun hc => ?_) (fun hc => ?_)
                  · replace h := h.1 hc
                    refine Ev_iload_n dX9_slab_83 2 rfl ?_
                    refine jc_1 (P := fun (t_4 : Int) => Ev mX9_slab 6 112 [] [(1, t_4)] s_2 (poIs 0 post)) h ?_ ?_
                    · intro t_4 h
                      refine Ev_l2i dX9_slab_112 ?_
                      exact Ev_ret dX9_slab_113 trivial (poIs_mk h)
                    · intro K_5 hK_5 h
                      refine Ev_if_ne (tgt := 101) dX9_slab_84 (by decide) (fun hc => ?_) (fun hc => ?_)
                      · replace h := h.1 hc
                        refine Ev_aload_n dX9_slab_101 0 rfl ?_
                        refine Ev_getr 0 (38) dX9_slab_102 f_RX9_49 rfl sh_0 rfl ?_
                        refine Ev_getr 38 (40) dX9_slab_105 f_RX9_207 rfl sh_38 rfl ?_
                        refine Ev_iload_n dX9_slab_108 1 rfl ?_
                        refine Ev_iconst (v := 1) dX9_slab_109 rfl ⟨by decide, by decide⟩ ?_
                        refine Ev_isub dX9_slab_110 ?_
                        obtain ⟨hb_6, h⟩ := h
                        refine Ev_lald (40) dX9_slab_111 rfl sh_40 hb_6 ?_
                        refine Ev_sub [] rfl ?_
                        exact hK_5 _ h
                      · replace h := h.2 hc
                        refine Ev_aload_n dX9_slab_87 0 rfl ?_
                        refine Ev_getr 0 (38) dX9_slab_88 f_RX9_49 rfl sh_0 rfl ?_
                        refine Ev_getr 38 (39) dX9_slab_91 f_RX9_206 rfl sh_38 rfl ?_
                        refine Ev_iload_n dX9_slab_94 1 rfl ?_
                        refine Ev_iconst (v := 1) dX9_slab_95 rfl ⟨by decide, by decide⟩ ?_
                        refine Ev_isub dX9_slab_96 ?_
                        obtain ⟨hb_7, h⟩ := h
                        refine Ev_lald (39) dX9_slab_97 rfl sh_39 hb_7 ?_
                        refine Ev_goto (tgt := 112) dX9_slab_98 (by decide) ?_
                        refine Ev_sub [] rfl ?_
                        exact hK_5 _ h
                  · replace h := h.2 hc
                    refine Ev_bipush (v := -3) dX9_slab_80 (by decide +kernel) ?_
                    exact Ev_ret dX9_slab_82 trivial (poIs_mk h)
                · replace h := h.2 hc
                  refine Ev_aload_n dX9_slab_66 0 rfl ?_
                  refine Ev_getr 0 (38) dX9_slab_67 f_RX9_49 rfl sh_0 rfl ?_
                  refine Ev_getr 38 (41) dX9_slab_70 f_RX9_203 rfl sh_38 rfl ?_
                  refine Ev_iload_n dX9_slab_73 1 rfl ?_
                  obtain ⟨hb_8, h⟩ := h
                  refine Ev_iald (41) dX9_slab_74 rfl sh_41 hb_8 ?_
                  exact Ev_ret dX9_slab_75 trivial (poIs_mk h)
              · replace h := h.2 hc
                refine Ev_aload_n dX9_slab_39 0 rfl ?_
                refine Ev_getr 0 (38) dX9_slab_40 f_RX9_49 rfl sh_0 rfl ?_
                refine Ev_getr 38 (41) dX9_slab_43 f_RX9_203 rfl sh_38 rfl ?_
                refine Ev_iload_n dX9_slab_46 1 rfl ?_
                refine Ev_iconst (v := 1) dX9_slab_47 rfl ⟨by decide, by decide⟩ ?_
                refine Ev_iadd dX9_slab_48 ?_
                obtain ⟨hb_9, h⟩ := h
                refine Ev_iald (41) dX9_slab_49 rfl sh_41 hb_9 ?_
                refine Ev_aload_n dX9_slab_50 0 rfl ?_
                refine Ev_getr 0 (38) dX9_slab_51 f_RX9_49 rfl sh_0 rfl ?_
                refine Ev_getr 38 (41) dX9_slab_54 f_RX9_203 rfl sh_38 rfl ?_
                refine Ev_iload_n dX9_slab_57 1 rfl ?_
                obtain ⟨hb_10, h⟩ := h
                refine Ev_iald (41) dX9_slab_58 rfl sh_41 hb_10 ?_
                refine Ev_isub dX9_slab_59 ?_
                exact Ev_ret dX9_slab_60 trivial (poIs_mk h)
            · replace h := h.2 hc
              refine Ev_sub [] rfl ?_
              exact hK_3 h
      · replace h := h.2 hc
        refine Ev_sub [] rfl ?_
        exact hK_1 h
theorem k_X9_taken {s : Sg} {v1 v2 : Int} {post : Int → Prop} (h : w_X9_taken s v1 v2 post) : EvM mX9_taken 1 [(2, 0), (0, v1), (0, v2)] s (poI 0 s post) := by
  refine EvM_of rfl (by decide +kernel) (Nat.le_of_ble_eq_true rfl) ?_
  unfold w_X9_taken at h
  show Ev mX9_taken 1 0 [(0, (2, 0)), (1, (0, v1)), (2, (0, v2))] [] s (poI 0 s post)
  refine Ev_aload_n dX9_taken_0 0 rfl ?_
  refine Ev_getr 0 (1) dX9_taken_1 f_RX9_12 rfl sh_0 rfl ?_
  refine Ev_iload_n dX9_taken_4 1 rfl ?_
  refine Ev_invV (d' := 0) [(0, v1)] 1 dX9_taken_5 M_X2_has q_425 (by decide) rfl rfl sh_1 rfl (Nat.le_of_ble_eq_true rfl) (k_X2_has_1 h) ?_
  rintro _ _ ⟨rfl, r_1, rfl, h⟩
  refine jc_0 (P := Ev mX9_taken 1 20 [] [] s (poI 0 s post)) h ?_ ?_
  · intro  h
    refine Ev_bipush (v := -2) dX9_taken_20 (by decide +kernel) ?_
    exact Ev_ret dX9_taken_22 trivial (poI_mk h)
  · intro K_2 hK_2 h
    refine Ev_if_eq (tgt := 20) dX9_taken_8 (by decide) (fun hc => ?_) (fun hc => ?_)
    · replace h := h.1 hc
      refine Ev_sub [] rfl ?_
      exact hK_2 h
    · replace h := h.2 hc
      refine Ev_iload_n dX9_taken_11 2 rfl ?_
      refine Ev_if_lt (tgt := 20) dX9_taken_12 (by decide) (fun hc => ?_) (fun hc => ?_)
      · replace h := h.1 hc
        refine Ev_sub [] rfl ?_
        exact hK_2 h
      · replace h := h.2 hc
        refine Ev_iload_n dX9_taken_15 2 rfl ?_
        refine Ev_iconst (v := 2) dX9_taken_16 rfl ⟨by decide, by decide⟩ ?_
        refine Ev_icmp_le (tgt := 23) dX9_taken_17 (by decide) (fun hc => ?_) (fun hc => ?_)
        · replace h := h.1 hc
          refine Ev_aload_n dX9_taken_23 0 rfl ?_
          refine Ev_getr 0 (1) dX9_taken_24 f_RX9_12 rfl sh_0 rfl ?_
          refine Ev_iload_n dX9_taken_27 1 rfl ?_
          refine Ev_invV (d' := 0) [(0, v1)] 1 dX9_taken_28 M_X2_isUpright q_439 (by decide) rfl rfl sh_1 rfl (Nat.le_of_ble_eq_true rfl) (k_X2_isUpright h) ?_
          rintro _ _ ⟨rfl, r_3, rfl, h⟩
          refine Ev_istore_n dX9_taken_31 (by decide) rfl ?_
          refine Ev_iload_n dX9_taken_32 3 rfl ?_
          refine jc_1 (P := fun (t_4 : Int) => Ev mX9_taken 1 67 [(1, (0, v1))] [(0, t_4)] s (poI 0 s post)) h ?_ ?_
          · intro t_4 h
            refine Ev_istore dX9_taken_67 (by decide) rfl ?_
            refine Ev_iload dX9_taken_69 0 rfl ?_
            refine jc_1 (P := fun (t_6 : Int) => Ev mX9_taken 1 80 [] [(0, t_6)] s (poI 0 s post)) h ?_ ?_
            · intro t_6 h
              exact Ev_ret dX9_taken_80 trivial (poI_mk h)
            · intro K_7 hK_7 h
              refine Ev_if_eq (tgt := 78) dX9_taken_71 (by decide) (fun hc => ?_) (fun hc => ?_)
              · replace h := h.1 hc
                refine Ev_bipush (v := -13) dX9_taken_78 (by decide +kernel) ?_
                refine Ev_sub [] rfl ?_
                exact hK_7 _ h
              · replace h := h.2 hc
                refine Ev_iload_n dX9_taken_74 1 rfl ?_
                refine Ev_goto (tgt := 80) dX9_taken_75 (by decide) ?_
                refine Ev_sub [] rfl ?_
                exact hK_7 _ h
          · intro K_5 hK_5 h
            refine Ev_if_ne (tgt := 40) dX9_taken_33 (by decide) (fun hc => ?_) (fun hc => ?_)
            · replace h := h.1 hc
              refine Ev_iload_n dX9_taken_40 0 rfl ?_
              refine jc_0 (P := Ev mX9_taken 1 66 [(1, (0, v1))] [] s (poI 0 s post)) h ?_ ?_
              · intro  h
                refine Ev_iconst (v := 0) dX9_taken_66 rfl ⟨by decide, by decide⟩ ?_
                exact hK_5 _ h
              · intro K_8 hK_8 h
                refine Ev_if_ne (tgt := 66) dX9_taken_41 (by decide) (fun hc => ?_) (fun hc => ?_)
                · replace h := h.1 hc
                  refine Ev_sub [2] rfl ?_
                  exact hK_8 h
                · replace h := h.2 hc
                  refine Ev_iload_n dX9_taken_44 3 rfl ?_
                  refine Ev_iconst (v := 1) dX9_taken_45 rfl ⟨by decide, by decide⟩ ?_
                  refine jc_0 (P := Ev mX9_taken 1 62 [(1, (0, v1))] [] s (poI 0 s post)) h ?_ ?_
                  · intro  h
                    refine Ev_iconst (v := 1) dX9_taken_62 rfl ⟨by decide, by decide⟩ ?_
                    refine Ev_goto (tgt := 67) dX9_taken_63 (by decide) ?_
                    exact hK_5 _ h
                  · intro K_9 hK_9 h
                    refine Ev_icmp_eq (tgt := 62) dX9_taken_46 (by decide) (fun hc => ?_) (fun hc => ?_)
                    · replace h := h.1 hc
                      refine Ev_sub [2] rfl ?_
                      exact hK_9 h
                    · replace h := h.2 hc
                      refine Ev_aload_n dX9_taken_49 1 rfl ?_
                      refine Ev_getr 0 (1) dX9_taken_50 f_RX9_12 rfl sh_0 rfl ?_
                      refine Ev_iload_n dX9_taken_53 2 rfl ?_
                      refine Ev_invV (d' := 0) [(0, v1)] 1 dX9_taken_54 M_X2_rise q_574 (by decide) rfl rfl sh_1 rfl (Nat.le_of_ble_eq_true rfl) (k_X2_rise_1 h) ?_
                      rintro _ _ ⟨rfl, r_10, rfl, h⟩
                      refine Ev_lconst (v := 0) dX9_taken_57 (by decide +kernel) ?_
                      refine Ev_lcmp dX9_taken_58 ?_
                      refine Ev_if_ne (tgt := 66) dX9_taken_59 (by decide) (fun hc => ?_) (fun hc => ?_)
                      · replace h := h.1 (fun q => hc (lcmp_eq.mpr q))
                        refine Ev_sub [2] rfl ?_
                        exact hK_8 h
                      · replace h := h.2 (lcmp_eq.mp hc)
                        refine Ev_sub [2] rfl ?_
                        exact hK_9 h
            · replace h := h.2 hc
              refine Ev_iload_n dX9_taken_36 0 rfl ?_
              refine Ev_goto (tgt := 67) dX9_taken_37 (by decide) ?_
              refine Ev_sub [2] rfl ?_
              exact hK_5 _ h
        · replace h := h.2 hc
          refine Ev_sub [] rfl ?_
          exact hK_2 h
theorem k_X9_toldXs {s : Sg} {v1 v2 : Int} {post : Int → Sg → Prop} (h : w_X9_toldXs s v1 v2 post) : EvM mX9_toldXs 4 [(2, 0), (0, v1), (0, v2)] s (poIs 0 post) := by
  refine EvM_of rfl (by decide +kernel) (Nat.le_of_ble_eq_true rfl) ?_
  unfold w_X9_toldXs at h
  show Ev mX9_toldXs 4 0 [(0, (2, 0)), (1, (0, v1)), (2, (0, v2))] [] s (poIs 0 post)
  refine Ev_iconst (v := 0) dX9_toldXs_0 rfl ⟨by decide, by decide⟩ ?_
  refine Ev_istore_n dX9_toldXs_1 (by decide) rfl ?_
  refine Ev_iconst (v := 0) dX9_toldXs_2 rfl ⟨by decide, by decide⟩ ?_
  refine Ev_istore dX9_toldXs_3 (by decide) rfl ?_
  refine Ev_sub [2, 3, 4, 1, 0] rfl ?_
  refine li_2s (P := fun (v3_1 v4_2 : Int) (s_3 : Sg) => Ev mX9_toldXs 4 5 [(0, (2, 0)), (1, (0, v1)), (2, (0, v2)), (3, (0, v3_1)), (4, (0, v4_2))] [] s_3 (poIs 0 post)) ?_ h
  intro again_4 v3_1 v4_2 s_3 hagain_4 h
  refine Ev_iload dX9_toldXs_5 4 rfl ?_
  refine Ev_bipush (v := 40) dX9_toldXs_7 (by decide +kernel) ?_
  refine Ev_icmp_gt (tgt := 60) dX9_toldXs_9 (by decide) (fun hc => ?_) (fun hc => ?_)
  · replace h := h.1 hc
    refine Ev_iload_n dX9_toldXs_60 2 rfl ?_
    refine jc_1 (P := fun (t_5 : Int) => Ev mX9_toldXs 4 69 [] [(0, t_5)] s_3 (poIs 0 post)) h ?_ ?_
    · intro t_5 h
      exact Ev_ret dX9_toldXs_69 trivial (poIs_mk h)
    · intro K_6 hK_6 h
      refine Ev_if_eq (tgt := 68) dX9_toldXs_61 (by decide) (fun hc => ?_) (fun hc => ?_)
      · replace h := h.1 hc
        refine Ev_iconst (v := -1) dX9_toldXs_68 rfl ⟨by decide, by decide⟩ ?_
        refine Ev_sub [] rfl ?_
        exact hK_6 _ h
      · replace h := h.2 hc
        refine Ev_iload_n dX9_toldXs_64 3 rfl ?_
        refine Ev_goto (tgt := 69) dX9_toldXs_65 (by decide) ?_
        refine Ev_sub [] rfl ?_
        exact hK_6 _ h
  · replace h := h.2 hc
    refine Ev_aload_n dX9_toldXs_12 0 rfl ?_
    refine Ev_getr 0 (35) dX9_toldXs_13 f_RX9_42 rfl sh_0 rfl ?_
    refine Ev_aload_n dX9_toldXs_16 0 rfl ?_
    refine Ev_getr 0 (1) dX9_toldXs_17 f_RX9_12 rfl sh_0 rfl ?_
    refine Ev_iload dX9_toldXs_20 4 rfl ?_
    refine Ev_i2l dX9_toldXs_22 ?_
    refine Ev_lconst (v := 1) dX9_toldXs_23 (by decide +kernel) ?_
    refine Ev_invV (d' := 3) [(2, 1), (1, v4_2), (1, 1)] 35 dX9_toldXs_24 M_X7_stand q_596 (by decide) rfl rfl sh_35 rfl (Nat.le_of_ble_eq_true rfl) (k_X7_stand h) ?_
    rintro _ s_7 ⟨rfl, h⟩
    refine Ev_aload_n dX9_toldXs_27 0 rfl ?_
    refine Ev_getr 0 (64) dX9_toldXs_28 f_RX9_77 rfl sh_0 rfl ?_
    refine Ev_iload_n dX9_toldXs_31 1 rfl ?_
    refine Ev_aload_n dX9_toldXs_32 0 rfl ?_
    refine Ev_getr 0 (35) dX9_toldXs_33 f_RX9_42 rfl sh_0 rfl ?_
    refine Ev_iconst (v := -1) dX9_toldXs_36 rfl ⟨by decide, by decide⟩ ?_
    refine Ev_invV (d' := 1) [(0, v1), (2, 35), (0, (-1))] 64 dX9_toldXs_37 M_X5_firstOtherwise q_811 (by decide) rfl rfl sh_64 rfl (Nat.le_of_ble_eq_true rfl) (k_X5_firstOtherwise h) ?_
    rintro _ _ ⟨rfl, r_8, rfl, h⟩
    refine Ev_iconst (v := -1) dX9_toldXs_40 rfl ⟨by decide, by decide⟩ ?_
    refine jc_1 (P := fun (v3_9 : Int) => Ev mX9_toldXs 4 54 [(0, (2, 0)), (1, (0, v1)), (2, (0, v2)), (3, (0, v3_9)), (4, (0, v4_2))] [] s_7 (poIs 0 post)) h ?_ ?_
    · intro v3_9 h
      obtain ⟨v4_11, ev4_11⟩ : ∃ z : Int, z = w32 (v4_2 + 1) := ⟨_, rfl⟩
      replace h := h v4_11 ev4_11
      refine Ev_iinc (v := v4_11) dX9_toldXs_54 4 rfl ev4_11.symm (by decide) rfl ?_
      refine Ev_goto (tgt := 5) dX9_toldXs_57 (by decide) ?_
      refine Ev_sub [1, 2, 3, 4, 0] rfl ?_
      exact hagain_4 _ _ _ h
    · intro K_10 hK_10 h
      refine Ev_icmp_ne (tgt := 54) dX9_toldXs_41 (by decide) (fun hc => ?_) (fun hc => ?_)
      · replace h := h.1 hc
        exact hK_10 _ h
      · replace h := h.2 hc
        refine Ev_iload_n dX9_toldXs_44 2 rfl ?_
        refine Ev_if_ne (tgt := 51) dX9_toldXs_45 (by decide) (fun hc => ?_) (fun hc => ?_)
        · replace h := h.1 hc
          obtain ⟨v3_12, ev3_12⟩ : ∃ z : Int, z = w32 (v3_1 + 1) := ⟨_, rfl⟩
          replace h := h v3_12 ev3_12
          refine Ev_iinc (v := v3_12) dX9_toldXs_51 3 rfl ev3_12.symm (by decide) rfl ?_
          refine Ev_sub [1, 2, 3, 0, 4] rfl ?_
          exact hK_10 _ h
        · replace h := h.2 hc
          refine Ev_iload dX9_toldXs_48 4 rfl ?_
          exact Ev_ret dX9_toldXs_50 trivial (poIs_mk h)
theorem k_X9_toldWithout {s : Sg} {v1 v2 : Int} {post : Int → Sg → Prop} (h : w_X9_toldWithout s v1 v2 post) : EvM mX9_toldWithout 4 [(2, 0), (0, v1), (0, v2)] s (poIs 0 post) := by
  refine EvM_of rfl (by decide +kernel) (Nat.le_of_ble_eq_true rfl) ?_
  unfold w_X9_toldWithout at h
  show Ev mX9_toldWithout 4 0 [(0, (2, 0)), (1, (0, v1)), (2, (0, v2))] [] s (poIs 0 post)
  refine Ev_aload_n dX9_toldWithout_0 0 rfl ?_
  refine Ev_getr 0 (35) dX9_toldWithout_1 f_RX9_42 rfl sh_0 rfl ?_
  refine Ev_aload_n dX9_toldWithout_4 0 rfl ?_
  refine Ev_getr 0 (1) dX9_toldWithout_5 f_RX9_12 rfl sh_0 rfl ?_
  refine Ev_iload_n dX9_toldWithout_8 2 rfl ?_
  refine Ev_i2l dX9_toldWithout_9 ?_
  refine Ev_lconst (v := 1) dX9_toldWithout_10 (by decide +kernel) ?_
  refine Ev_invV (d' := 3) [(2, 1), (1, v2), (1, 1)] 35 dX9_toldWithout_11 M_X7_stand q_596 (by decide) rfl rfl sh_35 rfl (Nat.le_of_ble_eq_true rfl) (k_X7_stand h) ?_
  rintro _ s_1 ⟨rfl, h⟩
  refine Ev_iconst (v := 0) dX9_toldWithout_14 rfl ⟨by decide, by decide⟩ ?_
  refine Ev_istore_n dX9_toldWithout_15 (by decide) rfl ?_
  refine Ev_iconst (v := 0) dX9_toldWithout_16 rfl ⟨by decide, by decide⟩ ?_
  refine Ev_istore dX9_toldWithout_17 (by decide) rfl ?_
  refine Ev_sub [2, 3, 1, 0] rfl ?_
  refine li_2 (P := fun (v3_2 v4_3 : Int) => Ev mX9_toldWithout 4 19 [(0, (2, 0)), (1, (0, v1)), (3, (0, v3_2)), (4, (0, v4_3))] [] s_1 (poIs 0 post)) ?_ h
  intro again_4 v3_2 v4_3 hagain_4 h
  refine Ev_iload dX9_toldWithout_19 3 rfl ?_
  refine Ev_aload_n dX9_toldWithout_21 0 rfl ?_
  refine Ev_getr 0 (1) dX9_toldWithout_22 f_RX9_12 rfl sh_0 rfl ?_
  refine Ev_geti 1 dX9_toldWithout_25 f_RX9_104 rfl sh_1 ?_
  refine Ev_icmp_ge (tgt := 62) dX9_toldWithout_28 (by decide) (fun hc => ?_) (fun hc => ?_)
  · replace h := h.1 hc
    refine Ev_iload_n dX9_toldWithout_62 2 rfl ?_
    exact Ev_ret dX9_toldWithout_63 trivial (poIs_mk h)
  · replace h := h.2 hc
    refine Ev_aload_n dX9_toldWithout_31 0 rfl ?_
    refine Ev_getr 0 (64) dX9_toldWithout_32 f_RX9_77 rfl sh_0 rfl ?_
    refine Ev_iload_n dX9_toldWithout_35 1 rfl ?_
    refine Ev_aload_n dX9_toldWithout_36 0 rfl ?_
    refine Ev_getr 0 (35) dX9_toldWithout_37 f_RX9_42 rfl sh_0 rfl ?_
    refine Ev_iload dX9_toldWithout_40 3 rfl ?_
    refine Ev_invV (d' := 1) [(0, v1), (2, 35), (0, v4_3)] 64 dX9_toldWithout_42 M_X5_firstOtherwise q_811 (by decide) rfl rfl sh_64 rfl (Nat.le_of_ble_eq_true rfl) (k_X5_firstOtherwise h) ?_
    rintro _ _ ⟨rfl, r_5, rfl, h⟩
    refine Ev_iconst (v := -1) dX9_toldWithout_45 rfl ⟨by decide, by decide⟩ ?_
    refine jc_1 (P := fun (v3_6 : Int) => Ev mX9_toldWithout 4 56 [(0, (2, 0)), (1, (0, v1)), (3, (0, v3_6)), (4, (0, v4_3))] [] s_1 (poIs 0 post)) h ?_ ?_
    · intro v3_6 h
      obtain ⟨v4_8, ev4_8⟩ : ∃ z : Int, z = w32 (v4_3 + 1) := ⟨_, rfl⟩
      replace h := h v4_8 ev4_8
      refine Ev_iinc (v := v4_8) dX9_toldWithout_56 3 rfl ev4_8.symm (by decide) rfl ?_
      refine Ev_goto (tgt := 19) dX9_toldWithout_59 (by decide) ?_
      refine Ev_sub [1, 2, 3, 0] rfl ?_
      exact hagain_4 _ _ h
    · intro K_7 hK_7 h
      refine Ev_icmp_ne (tgt := 56) dX9_toldWithout_46 (by decide) (fun hc => ?_) (fun hc => ?_)
      · replace h := h.1 hc
        exact hK_7 _ h
      · replace h := h.2 hc
        refine Ev_iload_n dX9_toldWithout_49 2 rfl ?_
        refine Ev_iconst (v := 1) dX9_toldWithout_50 rfl ⟨by decide, by decide⟩ ?_
        refine Ev_iload dX9_toldWithout_51 3 rfl ?_
        refine Ev_ishl dX9_toldWithout_53 ?_
        refine Ev_ior dX9_toldWithout_54 ?_
        obtain ⟨v3_9, ev3_9⟩ : ∃ z : Int, z = ior v3_2 (ishl 1 v4_3) := ⟨_, rfl⟩
        replace h := h v3_9 ev3_9
        rw [← ev3_9]
        refine Ev_istore_n dX9_toldWithout_55 (by decide) rfl ?_
        refine Ev_sub [1, 2, 0, 3] rfl ?_
        exact hK_7 _ h
theorem k_X9_tells {s : Sg} {v1 v2 v3 : Int} {post : Int → Sg → Prop} (h : w_X9_tells s v1 v2 v3 post) : EvM mX9_tells 5 [(2, 0), (0, v1), (0, v2), (0, v3)] s (poIs 0 post) := by
  refine EvM_of rfl (by decide +kernel) (Nat.le_of_ble_eq_true rfl) ?_
  unfold w_X9_tells at h
  show Ev mX9_tells 5 0 [(0, (2, 0)), (1, (0, v1)), (2, (0, v2)), (3, (0, v3))] [] s (poIs 0 post)
  refine Ev_aload_n dX9_tells_0 0 rfl ?_
  refine Ev_getr 0 (64) dX9_tells_1 f_RX9_77 rfl sh_0 rfl ?_
  refine Ev_iload_n dX9_tells_4 1 rfl ?_
  refine Ev_invV (d' := 0) [(0, v1)] 64 dX9_tells_5 M_X5_isOne q_803 (by decide) rfl rfl sh_64 rfl (Nat.le_of_ble_eq_true rfl) (k_X5_isOne h) ?_
  rintro _ _ ⟨rfl, r_1, rfl, h⟩
  refine jc_0 (P := Ev mX9_tells 5 27 [] [] s (poIs 0 post)) h ?_ ?_
  · intro  h
    refine Ev_bipush (v := -2) dX9_tells_27 (by decide +kernel) ?_
    exact Ev_ret dX9_tells_29 trivial (poIs_mk h)
  · intro K_2 hK_2 h
    refine Ev_if_eq (tgt := 27) dX9_tells_8 (by decide) (fun hc => ?_) (fun hc => ?_)
    · replace h := h.1 hc
      refine Ev_sub [] rfl ?_
      exact hK_2 h
    · replace h := h.2 hc
      refine Ev_iload_n dX9_tells_11 2 rfl ?_
      refine Ev_invS (d' := 0) [(0, v2)] dX9_tells_12 M_X9_isCoordinate (Or.inl q_397) (by decide) rfl (Nat.le_of_ble_eq_true rfl) (k_X9_isCoordinate h) ?_
      rintro _ _ ⟨rfl, r_3, rfl, h⟩
      refine Ev_if_eq (tgt := 27) dX9_tells_15 (by decide) (fun hc => ?_) (fun hc => ?_)
      · replace h := h.1 hc
        refine Ev_sub [] rfl ?_
        exact hK_2 h
      · replace h := h.2 hc
        refine Ev_iload_n dX9_tells_18 3 rfl ?_
        refine Ev_if_lt (tgt := 27) dX9_tells_19 (by decide) (fun hc => ?_) (fun hc => ?_)
        · replace h := h.1 hc
          refine Ev_sub [] rfl ?_
          exact hK_2 h
        · replace h := h.2 hc
          refine Ev_iload_n dX9_tells_22 3 rfl ?_
          refine Ev_iconst (v := 3) dX9_tells_23 rfl ⟨by decide, by decide⟩ ?_
          refine Ev_icmp_le (tgt := 30) dX9_tells_24 (by decide) (fun hc => ?_) (fun hc => ?_)
          · replace h := h.1 hc
            refine Ev_aload_n dX9_tells_30 0 rfl ?_
            refine Ev_getr 0 (64) dX9_tells_31 f_RX9_77 rfl sh_0 rfl ?_
            refine Ev_iload_n dX9_tells_34 1 rfl ?_
            refine Ev_invV (d' := 0) [(0, v1)] 64 dX9_tells_35 M_X5_isMissing q_807 (by decide) rfl rfl sh_64 rfl (Nat.le_of_ble_eq_true rfl) (k_X5_isMissing h) ?_
            rintro _ _ ⟨rfl, r_4, rfl, h⟩
            refine Ev_if_eq (tgt := 44) dX9_tells_38 (by decide) (fun hc => ?_) (fun hc => ?_)
            · replace h := h.1 hc
              refine Ev_aload_n dX9_tells_44 0 rfl ?_
              refine Ev_getr 0 (64) dX9_tells_45 f_RX9_77 rfl sh_0 rfl ?_
              refine Ev_getr 64 (66) dX9_tells_48 f_RX9_288 rfl sh_64 rfl ?_
              refine Ev_iload_n dX9_tells_51 1 rfl ?_
              obtain ⟨hb_5, h⟩ := h
              refine Ev_iald (66) dX9_tells_52 rfl sh_66 hb_5 ?_
              refine Ev_bipush (v := 10) dX9_tells_53 (by decide +kernel) ?_
              refine Ev_icmp_le (tgt := 61) dX9_tells_55 (by decide) (fun hc => ?_) (fun hc => ?_)
              · replace h := h.1 hc
                refine Ev_iload_n dX9_tells_61 3 rfl ?_
                rcases (show v3 = 0 ∨ v3 = 1 ∨ v3 = 2 ∨ (v3 < 0 ∨ 2 < v3) by omega) with hc | hc | hc | hc
                · replace h := h.1 hc
                  refine Ev_tabIn (tgt := 88) (off := 26) dX9_tells_62 (by omega) (by omega) (by rw [hc]; rfl) (by decide) ?_
                  refine Ev_aload_n dX9_tells_88 0 rfl ?_
                  refine Ev_getr 0 (35) dX9_tells_89 f_RX9_42 rfl sh_0 rfl ?_
                  refine Ev_aload_n dX9_tells_92 0 rfl ?_
                  refine Ev_getr 0 (1) dX9_tells_93 f_RX9_12 rfl sh_0 rfl ?_
                  refine Ev_iload_n dX9_tells_96 2 rfl ?_
                  refine Ev_i2l dX9_tells_97 ?_
                  refine Ev_lconst (v := 1) dX9_tells_98 (by decide +kernel) ?_
                  refine Ev_invV (d' := 3) [(2, 1), (1, v2), (1, 1)] 35 dX9_tells_99 M_X7_stand q_596 (by decide) rfl rfl sh_35 rfl (Nat.le_of_ble_eq_true rfl) (k_X7_stand h) ?_
                  rintro _ s_6 ⟨rfl, h⟩
                  refine Ev_aload_n dX9_tells_102 0 rfl ?_
                  refine Ev_getr 0 (64) dX9_tells_103 f_RX9_77 rfl sh_0 rfl ?_
                  refine Ev_iload_n dX9_tells_106 1 rfl ?_
                  refine Ev_aload_n dX9_tells_107 0 rfl ?_
                  refine Ev_getr 0 (35) dX9_tells_108 f_RX9_42 rfl sh_0 rfl ?_
                  refine Ev_iconst (v := -1) dX9_tells_111 rfl ⟨by decide, by decide⟩ ?_
                  refine Ev_invV (d' := 1) [(0, v1), (2, 35), (0, (-1))] 64 dX9_tells_112 M_X5_firstOtherwise q_811 (by decide) rfl rfl sh_64 rfl (Nat.le_of_ble_eq_true rfl) (k_X5_firstOtherwise h) ?_
                  rintro _ _ ⟨rfl, r_7, rfl, h⟩
                  exact Ev_ret dX9_tells_115 trivial (poIs_mk h)
                · replace h := h.2.1 hc
                  refine Ev_tabIn (tgt := 116) (off := 54) dX9_tells_62 (by omega) (by omega) (by rw [hc]; rfl) (by decide) ?_
                  refine Ev_aload_n dX9_tells_116 0 rfl ?_
                  refine Ev_iload_n dX9_tells_117 1 rfl ?_
                  refine Ev_iconst (v := 1) dX9_tells_118 rfl ⟨by decide, by decide⟩ ?_
                  refine Ev_invV (d' := 4) [(0, v1), (0, 1)] 0 dX9_tells_119 M_X9_toldXs q_819 (by decide) rfl rfl sh_0 rfl (Nat.le_of_ble_eq_true rfl) (k_X9_toldXs h) ?_
                  rintro _ s_9 ⟨r_8, rfl, h⟩
                  exact Ev_ret dX9_tells_122 trivial (poIs_mk h)
                · replace h := h.2.2.1 hc
                  refine Ev_tabIn (tgt := 123) (off := 61) dX9_tells_62 (by omega) (by omega) (by rw [hc]; rfl) (by decide) ?_
                  refine Ev_aload_n dX9_tells_123 0 rfl ?_
                  refine Ev_iload_n dX9_tells_124 1 rfl ?_
                  refine Ev_iconst (v := 0) dX9_tells_125 rfl ⟨by decide, by decide⟩ ?_
                  refine Ev_invV (d' := 4) [(0, v1), (0, 0)] 0 dX9_tells_126 M_X9_toldXs q_819 (by decide) rfl rfl sh_0 rfl (Nat.le_of_ble_eq_true rfl) (k_X9_toldXs h) ?_
                  rintro _ s_11 ⟨r_10, rfl, h⟩
                  exact Ev_ret dX9_tells_129 trivial (poIs_mk h)
                · replace h := h.2.2.2 hc
                  refine Ev_tabOut (tgt := 130) dX9_tells_62 hc (by decide) ?_
                  refine Ev_aload_n dX9_tells_130 0 rfl ?_
                  refine Ev_iload_n dX9_tells_131 1 rfl ?_
                  refine Ev_iload_n dX9_tells_132 2 rfl ?_
                  refine Ev_invV (d' := 4) [(0, v1), (0, v2)] 0 dX9_tells_133 M_X9_toldWithout q_823 (by decide) rfl rfl sh_0 rfl (Nat.le_of_ble_eq_true rfl) (k_X9_toldWithout h) ?_
                  rintro _ s_13 ⟨r_12, rfl, h⟩
                  exact Ev_ret dX9_tells_136 trivial (poIs_mk h)
              · replace h := h.2 hc
                refine Ev_bipush (v := -2) dX9_tells_58 (by decide +kernel) ?_
                exact Ev_ret dX9_tells_60 trivial (poIs_mk h)
            · replace h := h.2 hc
              refine Ev_bipush (v := -11) dX9_tells_41 (by decide +kernel) ?_
              exact Ev_ret dX9_tells_43 trivial (poIs_mk h)
          · replace h := h.2 hc
            refine Ev_sub [] rfl ?_
            exact hK_2 h
theorem k_X9_told {s : Sg} {v1 v2 : Int} {post : Int → Sg → Prop} (h : w_X9_told s v1 v2 post) : EvM mX9_told 6 [(2, 0), (0, v1), (0, v2)] s (poIs 0 post) := by
  refine EvM_of rfl (by decide +kernel) (Nat.le_of_ble_eq_true rfl) ?_
  unfold w_X9_told at h
  show Ev mX9_told 6 0 [(0, (2, 0)), (1, (0, v1)), (2, (0, v2))] [] s (poIs 0 post)
  refine Ev_aload_n dX9_told_0 0 rfl ?_
  refine Ev_getr 0 (1) dX9_told_1 f_RX9_12 rfl sh_0 rfl ?_
  refine Ev_iload_n dX9_told_4 1 rfl ?_
  refine Ev_invV (d' := 0) [(0, v1)] 1 dX9_told_5 M_X2_has q_425 (by decide) rfl rfl sh_1 rfl (Nat.le_of_ble_eq_true rfl) (k_X2_has_1 h) ?_
  rintro _ _ ⟨rfl, r_1, rfl, h⟩
  refine Ev_if_ne (tgt := 14) dX9_told_8 (by decide) (fun hc => ?_) (fun hc => ?_)
  · replace h := h.1 hc
    refine Ev_iload_n dX9_told_14 2 rfl ?_
    rcases (show v2 = 0 ∨ v2 = 1 ∨ v2 = 2 ∨ v2 = 3 ∨ v2 = 4 ∨ v2 = 5 ∨ v2 = 6 ∨ v2 = 7 ∨ (v2 < 0 ∨ 7 < v2) by omega) with hc | hc | hc | hc | hc | hc | hc | hc | hc
    · replace h := h.1 hc
      refine Ev_tabIn (tgt := 60) (off := 45) dX9_told_15 (by omega) (by omega) (by rw [hc]; rfl) (by decide) ?_
      refine Ev_aload_n dX9_told_60 0 rfl ?_
      refine Ev_getr 0 (1) dX9_told_61 f_RX9_12 rfl sh_0 rfl ?_
      refine Ev_getr 1 (2) dX9_told_64 f_RX9_112 rfl sh_1 rfl ?_
      refine Ev_iload_n dX9_told_67 1 rfl ?_
      obtain ⟨hb_2, h⟩ := h
      refine Ev_iald (2) dX9_told_68 rfl sh_2 hb_2 ?_
      exact Ev_ret dX9_told_69 trivial (poIs_mk h)
    · replace h := h.2.1 hc
      refine Ev_tabIn (tgt := 70) (off := 55) dX9_told_15 (by omega) (by omega) (by rw [hc]; rfl) (by decide) ?_
      refine Ev_aload_n dX9_told_70 0 rfl ?_
      refine Ev_getr 0 (1) dX9_told_71 f_RX9_12 rfl sh_0 rfl ?_
      refine Ev_getr 1 (3) dX9_told_74 f_RX9_118 rfl sh_1 rfl ?_
      refine Ev_iload_n dX9_told_77 1 rfl ?_
      obtain ⟨hb_3, h⟩ := h
      refine Ev_iald (3) dX9_told_78 rfl sh_3 hb_3 ?_
      exact Ev_ret dX9_told_79 trivial (poIs_mk h)
    · replace h := h.2.2.1 hc
      refine Ev_tabIn (tgt := 80) (off := 65) dX9_told_15 (by omega) (by omega) (by rw [hc]; rfl) (by decide) ?_
      refine Ev_aload_n dX9_told_80 0 rfl ?_
      refine Ev_getr 0 (1) dX9_told_81 f_RX9_12 rfl sh_0 rfl ?_
      refine Ev_getr 1 (4) dX9_told_84 f_RX9_108 rfl sh_1 rfl ?_
      refine Ev_iload_n dX9_told_87 1 rfl ?_
      obtain ⟨hb_4, h⟩ := h
      refine Ev_iald (4) dX9_told_88 rfl sh_4 hb_4 ?_
      exact Ev_ret dX9_told_89 trivial (poIs_mk h)
    · replace h := h.2.2.2.1 hc
      refine Ev_tabIn (tgt := 90) (off := 75) dX9_told_15 (by omega) (by omega) (by rw [hc]; rfl) (by decide) ?_
      refine Ev_aload_n dX9_told_90 0 rfl ?_
      refine Ev_getr 0 (1) dX9_told_91 f_RX9_12 rfl sh_0 rfl ?_
      refine Ev_getr 1 (5) dX9_told_94 f_RX9_115 rfl sh_1 rfl ?_
      refine Ev_iload_n dX9_told_97 1 rfl ?_
      obtain ⟨hb_5, h⟩ := h
      refine Ev_iald (5) dX9_told_98 rfl sh_5 hb_5 ?_
      exact Ev_ret dX9_told_99 trivial (poIs_mk h)
    · replace h := h.2.2.2.2.1 hc
      refine Ev_tabIn (tgt := 100) (off := 85) dX9_told_15 (by omega) (by omega) (by rw [hc]; rfl) (by decide) ?_
      refine Ev_aload_n dX9_told_100 0 rfl ?_
      refine Ev_getr 0 (1) dX9_told_101 f_RX9_12 rfl sh_0 rfl ?_
      refine Ev_iload_n dX9_told_104 1 rfl ?_
      refine Ev_invV (d' := 0) [(0, v1)] 1 dX9_told_105 M_X2_isUpright q_439 (by decide) rfl rfl sh_1 rfl (Nat.le_of_ble_eq_true rfl) (k_X2_isUpright h) ?_
      rintro _ _ ⟨rfl, r_6, rfl, h⟩
      refine jc_1 (P := fun (t_7 : Int) => Ev mX9_told 6 116 [] [(0, t_7)] s (poIs 0 post)) h ?_ ?_
      · intro t_7 h
        exact Ev_ret dX9_told_116 trivial (poIs_mk h)
      · intro K_8 hK_8 h
        refine Ev_if_eq (tgt := 115) dX9_told_108 (by decide) (fun hc => ?_) (fun hc => ?_)
        · replace h := h.1 hc
          refine Ev_iconst (v := 0) dX9_told_115 rfl ⟨by decide, by decide⟩ ?_
          refine Ev_sub [] rfl ?_
          exact hK_8 _ h
        · replace h := h.2 hc
          refine Ev_iconst (v := 1) dX9_told_111 rfl ⟨by decide, by decide⟩ ?_
          refine Ev_goto (tgt := 116) dX9_told_112 (by decide) ?_
          refine Ev_sub [] rfl ?_
          exact hK_8 _ h
    · replace h := h.2.2.2.2.2.1 hc
      refine Ev_tabIn (tgt := 117) (off := 102) dX9_told_15 (by omega) (by omega) (by rw [hc]; rfl) (by decide) ?_
      refine Ev_aload_n dX9_told_117 0 rfl ?_
      refine Ev_invV (d' := 5) [] 0 dX9_told_118 M_X9_knowPoints q_443 (by decide) rfl rfl sh_0 rfl (Nat.le_of_ble_eq_true rfl) (k_X9_knowPoints h) ?_
      rintro _ s_9 ⟨rfl, h⟩
      refine Ev_aload_n dX9_told_121 0 rfl ?_
      refine Ev_getr 0 (16) dX9_told_122 f_RX9_25 rfl sh_0 rfl ?_
      refine Ev_iload_n dX9_told_125 1 rfl ?_
      refine Ev_invV (d' := 0) [(0, v1)] 16 dX9_told_126 M_X4_countOn q_533 (by decide) rfl rfl sh_16 rfl (Nat.le_of_ble_eq_true rfl) (k_X4_countOn h) ?_
      rintro _ _ ⟨rfl, r_10, rfl, h⟩
      exact Ev_ret dX9_told_129 trivial (poIs_mk h)
    · replace h := h.2.2.2.2.2.2.1 hc
      refine Ev_tabIn (tgt := 130) (off := 115) dX9_told_15 (by omega) (by omega) (by rw [hc]; rfl) (by decide) ?_
      refine Ev_aload_n dX9_told_130 0 rfl ?_
      refine Ev_invV (d' := 5) [] 0 dX9_told_131 M_X9_knowHulls q_537 (by decide) rfl rfl sh_0 rfl (Nat.le_of_ble_eq_true rfl) (k_X9_knowHulls h) ?_
      rintro _ s_11 ⟨rfl, h⟩
      refine Ev_aload_n dX9_told_134 0 rfl ?_
      refine Ev_getr 0 (60) dX9_told_135 f_RX9_70 rfl sh_0 rfl ?_
      refine Ev_aload_n dX9_told_138 0 rfl ?_
      refine Ev_getr 0 (1) dX9_told_139 f_RX9_12 rfl sh_0 rfl ?_
      refine Ev_getr 1 (2) dX9_told_142 f_RX9_112 rfl sh_1 rfl ?_
      refine Ev_iload_n dX9_told_145 1 rfl ?_
      obtain ⟨hb_12, h⟩ := h
      refine Ev_iald (2) dX9_told_146 rfl sh_2 hb_12 ?_
      refine Ev_aload_n dX9_told_147 0 rfl ?_
      refine Ev_getr 0 (1) dX9_told_148 f_RX9_12 rfl sh_0 rfl ?_
      refine Ev_getr 1 (3) dX9_told_151 f_RX9_118 rfl sh_1 rfl ?_
      refine Ev_iload_n dX9_told_154 1 rfl ?_
      obtain ⟨hb_13, h⟩ := h
      refine Ev_iald (3) dX9_told_155 rfl sh_3 hb_13 ?_
      refine Ev_invV (d' := 0) [(0, s_11 2 v1.toNat), (0, s_11 3 v1.toNat)] 60 dX9_told_156 M_X1_hullOf q_569 (by decide) rfl rfl sh_60 rfl (Nat.le_of_ble_eq_true rfl) (k_X1_hullOf h) ?_
      rintro _ _ ⟨rfl, r_14, rfl, h⟩
      exact Ev_ret dX9_told_159 trivial (poIs_mk h)
    · replace h := h.2.2.2.2.2.2.2.1 hc
      refine Ev_tabIn (tgt := 160) (off := 145) dX9_told_15 (by omega) (by omega) (by rw [hc]; rfl) (by decide) ?_
      refine Ev_aload_n dX9_told_160 0 rfl ?_
      refine Ev_invV (d' := 5) [] 0 dX9_told_161 M_X9_knowHulls q_537 (by decide) rfl rfl sh_0 rfl (Nat.le_of_ble_eq_true rfl) (k_X9_knowHulls h) ?_
      rintro _ s_15 ⟨rfl, h⟩
      refine Ev_aload_n dX9_told_164 0 rfl ?_
      refine Ev_getr 0 (60) dX9_told_165 f_RX9_70 rfl sh_0 rfl ?_
      refine Ev_aload_n dX9_told_168 0 rfl ?_
      refine Ev_getr 0 (1) dX9_told_169 f_RX9_12 rfl sh_0 rfl ?_
      refine Ev_getr 1 (4) dX9_told_172 f_RX9_108 rfl sh_1 rfl ?_
      refine Ev_iload_n dX9_told_175 1 rfl ?_
      obtain ⟨hb_16, h⟩ := h
      refine Ev_iald (4) dX9_told_176 rfl sh_4 hb_16 ?_
      refine Ev_aload_n dX9_told_177 0 rfl ?_
      refine Ev_getr 0 (1) dX9_told_178 f_RX9_12 rfl sh_0 rfl ?_
      refine Ev_getr 1 (5) dX9_told_181 f_RX9_115 rfl sh_1 rfl ?_
      refine Ev_iload_n dX9_told_184 1 rfl ?_
      obtain ⟨hb_17, h⟩ := h
      refine Ev_iald (5) dX9_told_185 rfl sh_5 hb_17 ?_
      refine Ev_invV (d' := 0) [(0, s_15 4 v1.toNat), (0, s_15 5 v1.toNat)] 60 dX9_told_186 M_X1_hullOf q_569 (by decide) rfl rfl sh_60 rfl (Nat.le_of_ble_eq_true rfl) (k_X1_hullOf h) ?_
      rintro _ _ ⟨rfl, r_18, rfl, h⟩
      exact Ev_ret dX9_told_189 trivial (poIs_mk h)
    · replace h := h.2.2.2.2.2.2.2.2 hc
      refine Ev_tabOut (tgt := 190) dX9_told_15 hc (by decide) ?_
      refine Ev_bipush (v := -2) dX9_told_190 (by decide +kernel) ?_
      exact Ev_ret dX9_told_192 trivial (poIs_mk h)
  · replace h := h.2 hc
    refine Ev_bipush (v := -2) dX9_told_11 (by decide +kernel) ?_
    exact Ev_ret dX9_told_13 trivial (poIs_mk h)
theorem k_X9_where {s : Sg} {v1 v2 v3 : Int} {post : Int → Sg → Prop} (h : w_X9_where s v1 v2 v3 post) : EvM mX9_where 6 [(2, 0), (0, v1), (0, v2), (0, v3)] s (poIs 0 post) := by
  refine EvM_of rfl (by decide +kernel) (Nat.le_of_ble_eq_true rfl) ?_
  unfold w_X9_where at h
  show Ev mX9_where 6 0 [(0, (2, 0)), (1, (0, v1)), (2, (0, v2)), (3, (0, v3))] [] s (poIs 0 post)
  refine Ev_iload_n dX9_where_0 1 rfl ?_
  refine Ev_iload_n dX9_where_1 2 rfl ?_
  refine Ev_iload_n dX9_where_2 3 rfl ?_
  refine Ev_invS (d' := 0) [(0, v1), (0, v2), (0, v3)] dX9_where_3 M_X9_canBePlace (Or.inl q_728) (by decide) rfl (Nat.le_of_ble_eq_true rfl) (k_X9_canBePlace h) ?_
  rintro _ _ ⟨rfl, r_1, rfl, h⟩
  refine Ev_if_ne (tgt := 12) dX9_where_6 (by decide) (fun hc => ?_) (fun hc => ?_)
  · replace h := h.1 hc
    refine Ev_aload_n dX9_where_12 0 rfl ?_
    refine Ev_iload_n dX9_where_13 1 rfl ?_
    refine Ev_iload_n dX9_where_14 2 rfl ?_
    refine Ev_iload_n dX9_where_15 3 rfl ?_
    refine Ev_invV (d' := 2) [(0, v1), (0, v2), (0, v3)] 0 dX9_where_16 M_X9_linesOn q_731 (by decide) rfl rfl sh_0 rfl (Nat.le_of_ble_eq_true rfl) (k_X9_linesOn h) ?_
    rintro _ _ ⟨rfl, r_2, rfl, h⟩
    refine Ev_if_eq (tgt := 24) dX9_where_19 (by decide) (fun hc => ?_) (fun hc => ?_)
    · replace h := h.1 hc
      refine Ev_aload_n dX9_where_24 0 rfl ?_
      refine Ev_invV (d' := 5) [] 0 dX9_where_25 M_X9_knowFaces q_621 (by decide) rfl rfl sh_0 rfl (Nat.le_of_ble_eq_true rfl) (k_X9_knowFaces h) ?_
      rintro _ s_3 ⟨rfl, h⟩
      refine Ev_aload_n dX9_where_28 0 rfl ?_
      refine Ev_getr 0 (53) dX9_where_29 f_RX9_63 rfl sh_0 rfl ?_
      refine Ev_getr 53 (55) dX9_where_32 f_RX9_214 rfl sh_53 rfl ?_
      refine Ev_aload_n dX9_where_35 0 rfl ?_
      refine Ev_getr 0 (38) dX9_where_36 f_RX9_49 rfl sh_0 rfl ?_
      refine Ev_aload_n dX9_where_39 0 rfl ?_
      refine Ev_getr 0 (1) dX9_where_40 f_RX9_12 rfl sh_0 rfl ?_
      refine Ev_iload_n dX9_where_43 1 rfl ?_
      refine Ev_iload_n dX9_where_44 2 rfl ?_
      refine Ev_iload_n dX9_where_45 3 rfl ?_
      refine Ev_invV (d' := 1) [(2, 1), (0, v1), (0, v2), (0, v3)] 38 dX9_where_46 M_X6_cellAround q_736 (by decide) rfl rfl sh_38 rfl (Nat.le_of_ble_eq_true rfl) (k_X6_cellAround h) ?_
      rintro _ _ ⟨rfl, r_4, rfl, h⟩
      obtain ⟨hb_5, h⟩ := h
      refine Ev_iald (55) dX9_where_49 rfl sh_55 hb_5 ?_
      exact Ev_ret dX9_where_50 trivial (poIs_mk h)
    · replace h := h.2 hc
      refine Ev_iconst (v := -1) dX9_where_22 rfl ⟨by decide, by decide⟩ ?_
      exact Ev_ret dX9_where_23 trivial (poIs_mk h)
  · replace h := h.2 hc
    refine Ev_bipush (v := -2) dX9_where_9 (by decide +kernel) ?_
    exact Ev_ret dX9_where_11 trivial (poIs_mk h)
theorem k_X9_without {s : Sg} {v1 : Int} {post : Int → Sg → Prop} (h : w_X9_without s v1 post) : EvM mX9_without 6 [(2, 0), (0, v1)] s (poIs 0 post) := by
  refine EvM_of rfl (by decide +kernel) (Nat.le_of_ble_eq_true rfl) ?_
  unfold w_X9_without at h
  show Ev mX9_without 6 0 [(0, (2, 0)), (1, (0, v1))] [] s (poIs 0 post)
  refine Ev_aload_n dX9_without_0 0 rfl ?_
  refine Ev_getr 0 (1) dX9_without_1 f_RX9_12 rfl sh_0 rfl ?_
  refine Ev_iload_n dX9_without_4 1 rfl ?_
  refine Ev_invV (d' := 0) [(0, v1)] 1 dX9_without_5 M_X2_has q_425 (by decide) rfl rfl sh_1 rfl (Nat.le_of_ble_eq_true rfl) (k_X2_has_1 h) ?_
  rintro _ _ ⟨rfl, r_1, rfl, h⟩
  refine jc_1s (P := fun (t_2 : Int) (s_3 : Sg) => Ev mX9_without 6 21 [] [(0, t_2)] s_3 (poIs 0 post)) h ?_ ?_
  · intro t_2 s_3 h
    exact Ev_ret dX9_without_21 trivial (poIs_mk h)
  · intro K_4 hK_4 h
    refine Ev_if_eq (tgt := 19) dX9_without_8 (by decide) (fun hc => ?_) (fun hc => ?_)
    · replace h := h.1 hc
      refine Ev_bipush (v := -2) dX9_without_19 (by decide +kernel) ?_
      refine Ev_sub [] rfl ?_
      exact hK_4 _ _ h
    · replace h := h.2 hc
      refine Ev_aload_n dX9_without_11 0 rfl ?_
      refine Ev_iload_n dX9_without_12 1 rfl ?_
      refine Ev_invV (d' := 5) [(0, v1)] 0 dX9_without_13 M_X9_facesWithout q_763 (by decide) rfl rfl sh_0 rfl (Nat.le_of_ble_eq_true rfl) (k_X9_facesWithout h) ?_
      rintro _ s_6 ⟨r_5, rfl, h⟩
      refine Ev_goto (tgt := 21) dX9_without_16 (by decide) ?_
      refine Ev_sub [] rfl ?_
      exact hK_4 _ _ h
