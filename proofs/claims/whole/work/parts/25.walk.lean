theorem k_X3_findInOneRow_24_1 {s : Sg} {v2 v3 : Int} {post : Sg → Prop} (h : w_X3_findInOneRow s 24 1 v2 v3 post) : EvM mX3_findInOneRow 1 [(2, 24), (2, 1), (0, v2), (0, v3)] s (poV post) := by
  refine EvM_of rfl (by decide +kernel) (Nat.le_of_ble_eq_true rfl) ?_
  unfold w_X3_findInOneRow at h
  show Ev mX3_findInOneRow 1 0 [(0, (2, 24)), (1, (2, 1)), (2, (0, v2)), (3, (0, v3))] [] s (poV post)
  refine Ev_aload_n dX3_findInOneRow_0 1 rfl ?_
  refine Ev_getr 1 (2) dX3_findInOneRow_1 f_RX3_24 rfl sh_1 rfl ?_
  refine Ev_iload_n dX3_findInOneRow_4 2 rfl ?_
  obtain ⟨hb_1, h⟩ := h
  refine Ev_iald (2) dX3_findInOneRow_5 rfl sh_2 hb_1 ?_
  refine Ev_aload_n dX3_findInOneRow_6 1 rfl ?_
  refine Ev_getr 1 (3) dX3_findInOneRow_7 f_RX3_28 rfl sh_1 rfl ?_
  refine Ev_iload_n dX3_findInOneRow_10 2 rfl ?_
  obtain ⟨hb_2, h⟩ := h
  refine Ev_iald (3) dX3_findInOneRow_11 rfl sh_3 hb_2 ?_
  refine Ev_aload_n dX3_findInOneRow_12 1 rfl ?_
  refine Ev_getr 1 (2) dX3_findInOneRow_13 f_RX3_24 rfl sh_1 rfl ?_
  refine Ev_iload_n dX3_findInOneRow_16 3 rfl ?_
  obtain ⟨hb_3, h⟩ := h
  refine Ev_iald (2) dX3_findInOneRow_17 rfl sh_2 hb_3 ?_
  refine Ev_aload_n dX3_findInOneRow_18 1 rfl ?_
  refine Ev_getr 1 (3) dX3_findInOneRow_19 f_RX3_28 rfl sh_1 rfl ?_
  refine Ev_iload_n dX3_findInOneRow_22 3 rfl ?_
  obtain ⟨hb_4, h⟩ := h
  refine Ev_iald (3) dX3_findInOneRow_23 rfl sh_3 hb_4 ?_
  refine Ev_invS (d' := 0) [(0, s 2 v2.toNat), (0, s 3 v2.toNat), (0, s 2 v3.toNat), (0, s 3 v3.toNat)] dX3_findInOneRow_24 M_X3_isAhead (Or.inl q_482) (by decide) rfl (Nat.le_of_ble_eq_true rfl) (k_X3_isAhead h) ?_
  rintro _ _ ⟨rfl, r_5, rfl, h⟩
  refine Ev_istore dX3_findInOneRow_27 (by decide) rfl ?_
  refine Ev_aload_n dX3_findInOneRow_29 2 rfl ?_
  refine Ev_getr 1 (4) dX3_findInOneRow_30 f_RX3_43 rfl sh_1 rfl ?_
  refine Ev_iload_n dX3_findInOneRow_33 4 rfl ?_
  obtain ⟨hb_6, h⟩ := h
  refine Ev_iald (4) dX3_findInOneRow_34 rfl sh_4 hb_6 ?_
  refine Ev_aload_n dX3_findInOneRow_35 2 rfl ?_
  refine Ev_getr 1 (5) dX3_findInOneRow_36 f_RX3_46 rfl sh_1 rfl ?_
  refine Ev_iload_n dX3_findInOneRow_39 4 rfl ?_
  obtain ⟨hb_7, h⟩ := h
  refine Ev_iald (5) dX3_findInOneRow_40 rfl sh_5 hb_7 ?_
  refine Ev_aload_n dX3_findInOneRow_41 2 rfl ?_
  refine Ev_getr 1 (4) dX3_findInOneRow_42 f_RX3_43 rfl sh_1 rfl ?_
  refine Ev_iload_n dX3_findInOneRow_45 3 rfl ?_
  obtain ⟨hb_8, h⟩ := h
  refine Ev_iald (4) dX3_findInOneRow_46 rfl sh_4 hb_8 ?_
  refine Ev_aload_n dX3_findInOneRow_47 2 rfl ?_
  refine Ev_getr 1 (5) dX3_findInOneRow_48 f_RX3_46 rfl sh_1 rfl ?_
  refine Ev_iload_n dX3_findInOneRow_51 3 rfl ?_
  obtain ⟨hb_9, h⟩ := h
  refine Ev_iald (5) dX3_findInOneRow_52 rfl sh_5 hb_9 ?_
  refine Ev_invS (d' := 0) [(0, s 4 v3.toNat), (0, s 5 v3.toNat), (0, s 4 v2.toNat), (0, s 5 v2.toNat)] dX3_findInOneRow_53 M_X3_isAhead (Or.inl q_482) (by decide) rfl (Nat.le_of_ble_eq_true rfl) (k_X3_isAhead h) ?_
  rintro _ _ ⟨rfl, r_10, rfl, h⟩
  refine Ev_istore dX3_findInOneRow_56 (by decide) rfl ?_
  refine Ev_iload dX3_findInOneRow_58 1 rfl ?_
  refine jc_1 (P := fun (t_11 : Int) => Ev mX3_findInOneRow 1 68 [(0, (2, 24)), (1, (2, 1)), (2, (0, v2)), (3, (0, v3)), (5, (0, r_10))] [(0, t_11)] s (poV post)) h ?_ ?_
  · intro t_11 h
    refine Ev_istore dX3_findInOneRow_68 (by decide) rfl ?_
    refine Ev_iload dX3_findInOneRow_70 5 rfl ?_
    refine jc_1 (P := fun (t_13 : Int) => Ev mX3_findInOneRow 1 80 [(0, (2, 24)), (1, (2, 1)), (6, (0, t_11))] [(0, t_13)] s (poV post)) h ?_ ?_
    · intro t_13 h
      refine Ev_istore dX3_findInOneRow_80 (by decide) rfl ?_
      refine Ev_aload_n dX3_findInOneRow_82 2 rfl ?_
      refine Ev_getr 1 (2) dX3_findInOneRow_83 f_RX3_24 rfl sh_1 rfl ?_
      refine Ev_iload dX3_findInOneRow_86 3 rfl ?_
      obtain ⟨hb_15, h⟩ := h
      refine Ev_iald (2) dX3_findInOneRow_88 rfl sh_2 hb_15 ?_
      refine Ev_aload_n dX3_findInOneRow_89 2 rfl ?_
      refine Ev_getr 1 (3) dX3_findInOneRow_90 f_RX3_28 rfl sh_1 rfl ?_
      refine Ev_iload dX3_findInOneRow_93 3 rfl ?_
      obtain ⟨hb_16, h⟩ := h
      refine Ev_iald (3) dX3_findInOneRow_95 rfl sh_3 hb_16 ?_
      refine Ev_aload_n dX3_findInOneRow_96 2 rfl ?_
      refine Ev_getr 1 (4) dX3_findInOneRow_97 f_RX3_43 rfl sh_1 rfl ?_
      refine Ev_iload dX3_findInOneRow_100 0 rfl ?_
      obtain ⟨hb_17, h⟩ := h
      refine Ev_iald (4) dX3_findInOneRow_102 rfl sh_4 hb_17 ?_
      refine Ev_aload_n dX3_findInOneRow_103 2 rfl ?_
      refine Ev_getr 1 (5) dX3_findInOneRow_104 f_RX3_46 rfl sh_1 rfl ?_
      refine Ev_iload dX3_findInOneRow_107 0 rfl ?_
      obtain ⟨hb_18, h⟩ := h
      refine Ev_iald (5) dX3_findInOneRow_109 rfl sh_5 hb_18 ?_
      refine Ev_invS (d' := 0) [(0, s 2 t_11.toNat), (0, s 3 t_11.toNat), (0, s 4 t_13.toNat), (0, s 5 t_13.toNat)] dX3_findInOneRow_110 M_X3_isAhead (Or.inl q_482) (by decide) rfl (Nat.le_of_ble_eq_true rfl) (k_X3_isAhead h) ?_
      rintro _ _ ⟨rfl, r_19, rfl, h⟩
      refine jc_0s (P := fun (s_20 : Sg) => Ev mX3_findInOneRow 1 197 [] [] s_20 (poV post)) h ?_ ?_
      · intro s_20 h
        exact Ev_retv dX3_findInOneRow_197 rfl (poV_mk h)
      · intro K_21 hK_21 h
        refine Ev_if_eq (tgt := 124) dX3_findInOneRow_113 (by decide) (fun hc => ?_) (fun hc => ?_)
        · replace h := h.1 hc
          refine Ev_aload_n dX3_findInOneRow_124 2 rfl ?_
          refine Ev_getr 1 (2) dX3_findInOneRow_125 f_RX3_24 rfl sh_1 rfl ?_
          refine Ev_iload dX3_findInOneRow_128 3 rfl ?_
          obtain ⟨hb_22, h⟩ := h
          refine Ev_iald (2) dX3_findInOneRow_130 rfl sh_2 hb_22 ?_
          refine Ev_aload_n dX3_findInOneRow_131 2 rfl ?_
          refine Ev_getr 1 (4) dX3_findInOneRow_132 f_RX3_43 rfl sh_1 rfl ?_
          refine Ev_iload dX3_findInOneRow_135 0 rfl ?_
          obtain ⟨hb_23, h⟩ := h
          refine Ev_iald (4) dX3_findInOneRow_137 rfl sh_4 hb_23 ?_
          refine Ev_icmp_ne (tgt := 197) dX3_findInOneRow_138 (by decide) (fun hc => ?_) (fun hc => ?_)
          · replace h := h.1 hc
            refine Ev_sub [] rfl ?_
            exact hK_21 _ h
          · replace h := h.2 hc
            refine Ev_aload_n dX3_findInOneRow_141 2 rfl ?_
            refine Ev_getr 1 (3) dX3_findInOneRow_142 f_RX3_28 rfl sh_1 rfl ?_
            refine Ev_iload dX3_findInOneRow_145 3 rfl ?_
            obtain ⟨hb_24, h⟩ := h
            refine Ev_iald (3) dX3_findInOneRow_147 rfl sh_3 hb_24 ?_
            refine Ev_aload_n dX3_findInOneRow_148 2 rfl ?_
            refine Ev_getr 1 (5) dX3_findInOneRow_149 f_RX3_46 rfl sh_1 rfl ?_
            refine Ev_iload dX3_findInOneRow_152 0 rfl ?_
            obtain ⟨hb_25, h⟩ := h
            refine Ev_iald (5) dX3_findInOneRow_154 rfl sh_5 hb_25 ?_
            refine Ev_icmp_ne (tgt := 197) dX3_findInOneRow_155 (by decide) (fun hc => ?_) (fun hc => ?_)
            · replace h := h.1 hc
              refine Ev_sub [] rfl ?_
              exact hK_21 _ h
            · replace h := h.2 hc
              refine Ev_aload_n dX3_findInOneRow_158 1 rfl ?_
              refine Ev_iconst (v := 2) dX3_findInOneRow_159 rfl ⟨by decide, by decide⟩ ?_
              obtain ⟨s_26, es_26⟩ : ∃ z : Sg, z = (up s 24 0 2) := ⟨_, rfl⟩
              replace h := h s_26 es_26
              refine Ev_puti 24 dX3_findInOneRow_160 fp_RX3_9 rfl sh_24 ?_
              rw [← es_26]
              refine Ev_aload_n dX3_findInOneRow_163 1 rfl ?_
              refine Ev_aload_n dX3_findInOneRow_164 2 rfl ?_
              refine Ev_getr 1 (2) dX3_findInOneRow_165 f_RX3_24 rfl sh_1 rfl ?_
              refine Ev_iload dX3_findInOneRow_168 3 rfl ?_
              obtain ⟨hb_27, h⟩ := h
              refine Ev_iald (2) dX3_findInOneRow_170 rfl sh_2 hb_27 ?_
              refine Ev_i2l dX3_findInOneRow_171 ?_
              obtain ⟨s_28, es_28⟩ : ∃ z : Sg, z = (up s_26 24 1 (s_26 2 t_11.toNat)) := ⟨_, rfl⟩
              replace h := h s_28 es_28
              refine Ev_putl 24 dX3_findInOneRow_172 fp_RX3_49 rfl sh_24 ?_
              rw [← es_28]
              refine Ev_aload_n dX3_findInOneRow_175 1 rfl ?_
              refine Ev_lconst (v := 1) dX3_findInOneRow_176 (by decide +kernel) ?_
              obtain ⟨s_29, es_29⟩ : ∃ z : Sg, z = (up s_28 24 2 1) := ⟨_, rfl⟩
              replace h := h s_29 es_29
              refine Ev_putl 24 dX3_findInOneRow_177 fp_RX3_53 rfl sh_24 ?_
              rw [← es_29]
              refine Ev_aload_n dX3_findInOneRow_180 1 rfl ?_
              refine Ev_aload_n dX3_findInOneRow_181 2 rfl ?_
              refine Ev_getr 1 (3) dX3_findInOneRow_182 f_RX3_28 rfl sh_1 rfl ?_
              refine Ev_iload dX3_findInOneRow_185 3 rfl ?_
              obtain ⟨hb_30, h⟩ := h
              refine Ev_iald (3) dX3_findInOneRow_187 rfl sh_3 hb_30 ?_
              refine Ev_i2l dX3_findInOneRow_188 ?_
              obtain ⟨s_31, es_31⟩ : ∃ z : Sg, z = (up s_29 24 3 (s_29 3 t_11.toNat)) := ⟨_, rfl⟩
              replace h := h s_31 es_31
              refine Ev_putl 24 dX3_findInOneRow_189 fp_RX3_56 rfl sh_24 ?_
              rw [← es_31]
              refine Ev_aload_n dX3_findInOneRow_192 1 rfl ?_
              refine Ev_lconst (v := 1) dX3_findInOneRow_193 (by decide +kernel) ?_
              obtain ⟨s_32, es_32⟩ : ∃ z : Sg, z = (up s_31 24 4 1) := ⟨_, rfl⟩
              replace h := h s_32 es_32
              refine Ev_putl 24 dX3_findInOneRow_194 fp_RX3_59 rfl sh_24 ?_
              rw [← es_32]
              refine Ev_sub [] rfl ?_
              exact hK_21 _ h
        · replace h := h.2 hc
          refine Ev_aload_n dX3_findInOneRow_116 1 rfl ?_
          refine Ev_iconst (v := 3) dX3_findInOneRow_117 rfl ⟨by decide, by decide⟩ ?_
          obtain ⟨s_33, es_33⟩ : ∃ z : Sg, z = (up s 24 0 3) := ⟨_, rfl⟩
          replace h := h s_33 es_33
          refine Ev_puti 24 dX3_findInOneRow_118 fp_RX3_9 rfl sh_24 ?_
          rw [← es_33]
          refine Ev_goto (tgt := 197) dX3_findInOneRow_121 (by decide) ?_
          refine Ev_sub [] rfl ?_
          exact hK_21 _ h
    · intro K_14 hK_14 h
      refine Ev_if_eq (tgt := 79) dX3_findInOneRow_72 (by decide) (fun hc => ?_) (fun hc => ?_)
      · replace h := h.1 hc
        refine Ev_iload_n dX3_findInOneRow_79 3 rfl ?_
        refine Ev_sub [1, 2, 0] rfl ?_
        exact hK_14 _ h
      · replace h := h.2 hc
        refine Ev_iload_n dX3_findInOneRow_75 4 rfl ?_
        refine Ev_goto (tgt := 80) dX3_findInOneRow_76 (by decide) ?_
        refine Ev_sub [1, 2, 0] rfl ?_
        exact hK_14 _ h
  · intro K_12 hK_12 h
    refine Ev_if_eq (tgt := 67) dX3_findInOneRow_60 (by decide) (fun hc => ?_) (fun hc => ?_)
    · replace h := h.1 hc
      refine Ev_iload_n dX3_findInOneRow_67 4 rfl ?_
      refine Ev_sub [2, 3, 4, 5, 0] rfl ?_
      exact hK_12 _ h
    · replace h := h.2 hc
      refine Ev_iload_n dX3_findInOneRow_63 5 rfl ?_
      refine Ev_goto (tgt := 68) dX3_findInOneRow_64 (by decide) ?_
      refine Ev_sub [2, 3, 4, 5, 0] rfl ?_
      exact hK_12 _ h
theorem k_X3_findInOneRow_33_11 {s : Sg} {v2 v3 : Int} {post : Sg → Prop} (h : w_X3_findInOneRow s 33 11 v2 v3 post) : EvM mX3_findInOneRow 1 [(2, 33), (2, 11), (0, v2), (0, v3)] s (poV post) := by
  refine EvM_of rfl (by decide +kernel) (Nat.le_of_ble_eq_true rfl) ?_
  unfold w_X3_findInOneRow at h
  show Ev mX3_findInOneRow 1 0 [(0, (2, 33)), (1, (2, 11)), (2, (0, v2)), (3, (0, v3))] [] s (poV post)
  refine Ev_aload_n dX3_findInOneRow_0 1 rfl ?_
  refine Ev_getr 11 (12) dX3_findInOneRow_1 f_RX3_24 rfl sh_11 rfl ?_
  refine Ev_iload_n dX3_findInOneRow_4 2 rfl ?_
  obtain ⟨hb_1, h⟩ := h
  refine Ev_iald (12) dX3_findInOneRow_5 rfl sh_12 hb_1 ?_
  refine Ev_aload_n dX3_findInOneRow_6 1 rfl ?_
  refine Ev_getr 11 (13) dX3_findInOneRow_7 f_RX3_28 rfl sh_11 rfl ?_
  refine Ev_iload_n dX3_findInOneRow_10 2 rfl ?_
  obtain ⟨hb_2, h⟩ := h
  refine Ev_iald (13) dX3_findInOneRow_11 rfl sh_13 hb_2 ?_
  refine Ev_aload_n dX3_findInOneRow_12 1 rfl ?_
  refine Ev_getr 11 (12) dX3_findInOneRow_13 f_RX3_24 rfl sh_11 rfl ?_
  refine Ev_iload_n dX3_findInOneRow_16 3 rfl ?_
  obtain ⟨hb_3, h⟩ := h
  refine Ev_iald (12) dX3_findInOneRow_17 rfl sh_12 hb_3 ?_
  refine Ev_aload_n dX3_findInOneRow_18 1 rfl ?_
  refine Ev_getr 11 (13) dX3_findInOneRow_19 f_RX3_28 rfl sh_11 rfl ?_
  refine Ev_iload_n dX3_findInOneRow_22 3 rfl ?_
  obtain ⟨hb_4, h⟩ := h
  refine Ev_iald (13) dX3_findInOneRow_23 rfl sh_13 hb_4 ?_
  refine Ev_invS (d' := 0) [(0, s 12 v2.toNat), (0, s 13 v2.toNat), (0, s 12 v3.toNat), (0, s 13 v3.toNat)] dX3_findInOneRow_24 M_X3_isAhead (Or.inl q_482) (by decide) rfl (Nat.le_of_ble_eq_true rfl) (k_X3_isAhead h) ?_
  rintro _ _ ⟨rfl, r_5, rfl, h⟩
  refine Ev_istore dX3_findInOneRow_27 (by decide) rfl ?_
  refine Ev_aload_n dX3_findInOneRow_29 2 rfl ?_
  refine Ev_getr 11 (14) dX3_findInOneRow_30 f_RX3_43 rfl sh_11 rfl ?_
  refine Ev_iload_n dX3_findInOneRow_33 4 rfl ?_
  obtain ⟨hb_6, h⟩ := h
  refine Ev_iald (14) dX3_findInOneRow_34 rfl sh_14 hb_6 ?_
  refine Ev_aload_n dX3_findInOneRow_35 2 rfl ?_
  refine Ev_getr 11 (15) dX3_findInOneRow_36 f_RX3_46 rfl sh_11 rfl ?_
  refine Ev_iload_n dX3_findInOneRow_39 4 rfl ?_
  obtain ⟨hb_7, h⟩ := h
  refine Ev_iald (15) dX3_findInOneRow_40 rfl sh_15 hb_7 ?_
  refine Ev_aload_n dX3_findInOneRow_41 2 rfl ?_
  refine Ev_getr 11 (14) dX3_findInOneRow_42 f_RX3_43 rfl sh_11 rfl ?_
  refine Ev_iload_n dX3_findInOneRow_45 3 rfl ?_
  obtain ⟨hb_8, h⟩ := h
  refine Ev_iald (14) dX3_findInOneRow_46 rfl sh_14 hb_8 ?_
  refine Ev_aload_n dX3_findInOneRow_47 2 rfl ?_
  refine Ev_getr 11 (15) dX3_findInOneRow_48 f_RX3_46 rfl sh_11 rfl ?_
  refine Ev_iload_n dX3_findInOneRow_51 3 rfl ?_
  obtain ⟨hb_9, h⟩ := h
  refine Ev_iald (15) dX3_findInOneRow_52 rfl sh_15 hb_9 ?_
  refine Ev_invS (d' := 0) [(0, s 14 v3.toNat), (0, s 15 v3.toNat), (0, s 14 v2.toNat), (0, s 15 v2.toNat)] dX3_findInOneRow_53 M_X3_isAhead (Or.inl q_482) (by decide) rfl (Nat.le_of_ble_eq_true rfl) (k_X3_isAhead h) ?_
  rintro _ _ ⟨rfl, r_10, rfl, h⟩
  refine Ev_istore dX3_findInOneRow_56 (by decide) rfl ?_
  refine Ev_iload dX3_findInOneRow_58 1 rfl ?_
  refine jc_1 (P := fun (t_11 : Int) => Ev mX3_findInOneRow 1 68 [(0, (2, 33)), (1, (2, 11)), (2, (0, v2)), (3, (0, v3)), (5, (0, r_10))] [(0, t_11)] s (poV post)) h ?_ ?_
  · intro t_11 h
    refine Ev_istore dX3_findInOneRow_68 (by decide) rfl ?_
    refine Ev_iload dX3_findInOneRow_70 5 rfl ?_
    refine jc_1 (P := fun (t_13 : Int) => Ev mX3_findInOneRow 1 80 [(0, (2, 33)), (1, (2, 11)), (6, (0, t_11))] [(0, t_13)] s (poV post)) h ?_ ?_
    · intro t_13 h
      refine Ev_istore dX3_findInOneRow_80 (by decide) rfl ?_
      refine Ev_aload_n dX3_findInOneRow_82 2 rfl ?_
      refine Ev_getr 11 (12) dX3_findInOneRow_83 f_RX3_24 rfl sh_11 rfl ?_
      refine Ev_iload dX3_findInOneRow_86 3 rfl ?_
      obtain ⟨hb_15, h⟩ := h
      refine Ev_iald (12) dX3_findInOneRow_88 rfl sh_12 hb_15 ?_
      refine Ev_aload_n dX3_findInOneRow_89 2 rfl ?_
      refine Ev_getr 11 (13) dX3_findInOneRow_90 f_RX3_28 rfl sh_11 rfl ?_
      refine Ev_iload dX3_findInOneRow_93 3 rfl ?_
      obtain ⟨hb_16, h⟩ := h
      refine Ev_iald (13) dX3_findInOneRow_95 rfl sh_13 hb_16 ?_
      refine Ev_aload_n dX3_findInOneRow_96 2 rfl ?_
      refine Ev_getr 11 (14) dX3_findInOneRow_97 f_RX3_43 rfl sh_11 rfl ?_
      refine Ev_iload dX3_findInOneRow_100 0 rfl ?_
      obtain ⟨hb_17, h⟩ := h
      refine Ev_iald (14) dX3_findInOneRow_102 rfl sh_14 hb_17 ?_
      refine Ev_aload_n dX3_findInOneRow_103 2 rfl ?_
      refine Ev_getr 11 (15) dX3_findInOneRow_104 f_RX3_46 rfl sh_11 rfl ?_
      refine Ev_iload dX3_findInOneRow_107 0 rfl ?_
      obtain ⟨hb_18, h⟩ := h
      refine Ev_iald (15) dX3_findInOneRow_109 rfl sh_15 hb_18 ?_
      refine Ev_invS (d' := 0) [(0, s 12 t_11.toNat), (0, s 13 t_11.toNat), (0, s 14 t_13.toNat), (0, s 15 t_13.toNat)] dX3_findInOneRow_110 M_X3_isAhead (Or.inl q_482) (by decide) rfl (Nat.le_of_ble_eq_true rfl) (k_X3_isAhead h) ?_
      rintro _ _ ⟨rfl, r_19, rfl, h⟩
      refine jc_0s (P := fun (s_20 : Sg) => Ev mX3_findInOneRow 1 197 [] [] s_20 (poV post)) h ?_ ?_
      · intro s_20 h
        exact Ev_retv dX3_findInOneRow_197 rfl (poV_mk h)
      · intro K_21 hK_21 h
        refine Ev_if_eq (tgt := 124) dX3_findInOneRow_113 (by decide) (fun hc => ?_) (fun hc => ?_)
        · replace h := h.1 hc
          refine Ev_aload_n dX3_findInOneRow_124 2 rfl ?_
          refine Ev_getr 11 (12) dX3_findInOneRow_125 f_RX3_24 rfl sh_11 rfl ?_
          refine Ev_iload dX3_findInOneRow_128 3 rfl ?_
          obtain ⟨hb_22, h⟩ := h
          refine Ev_iald (12) dX3_findInOneRow_130 rfl sh_12 hb_22 ?_
          refine Ev_aload_n dX3_findInOneRow_131 2 rfl ?_
          refine Ev_getr 11 (14) dX3_findInOneRow_132 f_RX3_43 rfl sh_11 rfl ?_
          refine Ev_iload dX3_findInOneRow_135 0 rfl ?_
          obtain ⟨hb_23, h⟩ := h
          refine Ev_iald (14) dX3_findInOneRow_137 rfl sh_14 hb_23 ?_
          refine Ev_icmp_ne (tgt := 197) dX3_findInOneRow_138 (by decide) (fun hc => ?_) (fun hc => ?_)
          · replace h := h.1 hc
            refine Ev_sub [] rfl ?_
            exact hK_21 _ h
          · replace h := h.2 hc
            refine Ev_aload_n dX3_findInOneRow_141 2 rfl ?_
            refine Ev_getr 11 (13) dX3_findInOneRow_142 f_RX3_28 rfl sh_11 rfl ?_
            refine Ev_iload dX3_findInOneRow_145 3 rfl ?_
            obtain ⟨hb_24, h⟩ := h
            refine Ev_iald (13) dX3_findInOneRow_147 rfl sh_13 hb_24 ?_
            refine Ev_aload_n dX3_findInOneRow_148 2 rfl ?_
            refine Ev_getr 11 (15) dX3_findInOneRow_149 f_RX3_46 rfl sh_11 rfl ?_
            refine Ev_iload dX3_findInOneRow_152 0 rfl ?_
            obtain ⟨hb_25, h⟩ := h
            refine Ev_iald (15) dX3_findInOneRow_154 rfl sh_15 hb_25 ?_
            refine Ev_icmp_ne (tgt := 197) dX3_findInOneRow_155 (by decide) (fun hc => ?_) (fun hc => ?_)
            · replace h := h.1 hc
              refine Ev_sub [] rfl ?_
              exact hK_21 _ h
            · replace h := h.2 hc
              refine Ev_aload_n dX3_findInOneRow_158 1 rfl ?_
              refine Ev_iconst (v := 2) dX3_findInOneRow_159 rfl ⟨by decide, by decide⟩ ?_
              obtain ⟨s_26, es_26⟩ : ∃ z : Sg, z = (up s 33 0 2) := ⟨_, rfl⟩
              replace h := h s_26 es_26
              refine Ev_puti 33 dX3_findInOneRow_160 fp_RX3_9 rfl sh_33 ?_
              rw [← es_26]
              refine Ev_aload_n dX3_findInOneRow_163 1 rfl ?_
              refine Ev_aload_n dX3_findInOneRow_164 2 rfl ?_
              refine Ev_getr 11 (12) dX3_findInOneRow_165 f_RX3_24 rfl sh_11 rfl ?_
              refine Ev_iload dX3_findInOneRow_168 3 rfl ?_
              obtain ⟨hb_27, h⟩ := h
              refine Ev_iald (12) dX3_findInOneRow_170 rfl sh_12 hb_27 ?_
              refine Ev_i2l dX3_findInOneRow_171 ?_
              obtain ⟨s_28, es_28⟩ : ∃ z : Sg, z = (up s_26 33 1 (s_26 12 t_11.toNat)) := ⟨_, rfl⟩
              replace h := h s_28 es_28
              refine Ev_putl 33 dX3_findInOneRow_172 fp_RX3_49 rfl sh_33 ?_
              rw [← es_28]
              refine Ev_aload_n dX3_findInOneRow_175 1 rfl ?_
              refine Ev_lconst (v := 1) dX3_findInOneRow_176 (by decide +kernel) ?_
              obtain ⟨s_29, es_29⟩ : ∃ z : Sg, z = (up s_28 33 2 1) := ⟨_, rfl⟩
              replace h := h s_29 es_29
              refine Ev_putl 33 dX3_findInOneRow_177 fp_RX3_53 rfl sh_33 ?_
              rw [← es_29]
              refine Ev_aload_n dX3_findInOneRow_180 1 rfl ?_
              refine Ev_aload_n dX3_findInOneRow_181 2 rfl ?_
              refine Ev_getr 11 (13) dX3_findInOneRow_182 f_RX3_28 rfl sh_11 rfl ?_
              refine Ev_iload dX3_findInOneRow_185 3 rfl ?_
              obtain ⟨hb_30, h⟩ := h
              refine Ev_iald (13) dX3_findInOneRow_187 rfl sh_13 hb_30 ?_
              refine Ev_i2l dX3_findInOneRow_188 ?_
              obtain ⟨s_31, es_31⟩ : ∃ z : Sg, z = (up s_29 33 3 (s_29 13 t_11.toNat)) := ⟨_, rfl⟩
              replace h := h s_31 es_31
              refine Ev_putl 33 dX3_findInOneRow_189 fp_RX3_56 rfl sh_33 ?_
              rw [← es_31]
              refine Ev_aload_n dX3_findInOneRow_192 1 rfl ?_
              refine Ev_lconst (v := 1) dX3_findInOneRow_193 (by decide +kernel) ?_
              obtain ⟨s_32, es_32⟩ : ∃ z : Sg, z = (up s_31 33 4 1) := ⟨_, rfl⟩
              replace h := h s_32 es_32
              refine Ev_putl 33 dX3_findInOneRow_194 fp_RX3_59 rfl sh_33 ?_
              rw [← es_32]
              refine Ev_sub [] rfl ?_
              exact hK_21 _ h
        · replace h := h.2 hc
          refine Ev_aload_n dX3_findInOneRow_116 1 rfl ?_
          refine Ev_iconst (v := 3) dX3_findInOneRow_117 rfl ⟨by decide, by decide⟩ ?_
          obtain ⟨s_33, es_33⟩ : ∃ z : Sg, z = (up s 33 0 3) := ⟨_, rfl⟩
          replace h := h s_33 es_33
          refine Ev_puti 33 dX3_findInOneRow_118 fp_RX3_9 rfl sh_33 ?_
          rw [← es_33]
          refine Ev_goto (tgt := 197) dX3_findInOneRow_121 (by decide) ?_
          refine Ev_sub [] rfl ?_
          exact hK_21 _ h
    · intro K_14 hK_14 h
      refine Ev_if_eq (tgt := 79) dX3_findInOneRow_72 (by decide) (fun hc => ?_) (fun hc => ?_)
      · replace h := h.1 hc
        refine Ev_iload_n dX3_findInOneRow_79 3 rfl ?_
        refine Ev_sub [1, 2, 0] rfl ?_
        exact hK_14 _ h
      · replace h := h.2 hc
        refine Ev_iload_n dX3_findInOneRow_75 4 rfl ?_
        refine Ev_goto (tgt := 80) dX3_findInOneRow_76 (by decide) ?_
        refine Ev_sub [1, 2, 0] rfl ?_
        exact hK_14 _ h
  · intro K_12 hK_12 h
    refine Ev_if_eq (tgt := 67) dX3_findInOneRow_60 (by decide) (fun hc => ?_) (fun hc => ?_)
    · replace h := h.1 hc
      refine Ev_iload_n dX3_findInOneRow_67 4 rfl ?_
      refine Ev_sub [2, 3, 4, 5, 0] rfl ?_
      exact hK_12 _ h
    · replace h := h.2 hc
      refine Ev_iload_n dX3_findInOneRow_63 5 rfl ?_
      refine Ev_goto (tgt := 68) dX3_findInOneRow_64 (by decide) ?_
      refine Ev_sub [2, 3, 4, 5, 0] rfl ?_
      exact hK_12 _ h
theorem k_X3_findInOneRow_34_1 {s : Sg} {v2 v3 : Int} {post : Sg → Prop} (h : w_X3_findInOneRow s 34 1 v2 v3 post) : EvM mX3_findInOneRow 1 [(2, 34), (2, 1), (0, v2), (0, v3)] s (poV post) := by
  refine EvM_of rfl (by decide +kernel) (Nat.le_of_ble_eq_true rfl) ?_
  unfold w_X3_findInOneRow at h
  show Ev mX3_findInOneRow 1 0 [(0, (2, 34)), (1, (2, 1)), (2, (0, v2)), (3, (0, v3))] [] s (poV post)
  refine Ev_aload_n dX3_findInOneRow_0 1 rfl ?_
  refine Ev_getr 1 (2) dX3_findInOneRow_1 f_RX3_24 rfl sh_1 rfl ?_
  refine Ev_iload_n dX3_findInOneRow_4 2 rfl ?_
  obtain ⟨hb_1, h⟩ := h
  refine Ev_iald (2) dX3_findInOneRow_5 rfl sh_2 hb_1 ?_
  refine Ev_aload_n dX3_findInOneRow_6 1 rfl ?_
  refine Ev_getr 1 (3) dX3_findInOneRow_7 f_RX3_28 rfl sh_1 rfl ?_
  refine Ev_iload_n dX3_findInOneRow_10 2 rfl ?_
  obtain ⟨hb_2, h⟩ := h
  refine Ev_iald (3) dX3_findInOneRow_11 rfl sh_3 hb_2 ?_
  refine Ev_aload_n dX3_findInOneRow_12 1 rfl ?_
  refine Ev_getr 1 (2) dX3_findInOneRow_13 f_RX3_24 rfl sh_1 rfl ?_
  refine Ev_iload_n dX3_findInOneRow_16 3 rfl ?_
  obtain ⟨hb_3, h⟩ := h
  refine Ev_iald (2) dX3_findInOneRow_17 rfl sh_2 hb_3 ?_
  refine Ev_aload_n dX3_findInOneRow_18 1 rfl ?_
  refine Ev_getr 1 (3) dX3_findInOneRow_19 f_RX3_28 rfl sh_1 rfl ?_
  refine Ev_iload_n dX3_findInOneRow_22 3 rfl ?_
  obtain ⟨hb_4, h⟩ := h
  refine Ev_iald (3) dX3_findInOneRow_23 rfl sh_3 hb_4 ?_
  refine Ev_invS (d' := 0) [(0, s 2 v2.toNat), (0, s 3 v2.toNat), (0, s 2 v3.toNat), (0, s 3 v3.toNat)] dX3_findInOneRow_24 M_X3_isAhead (Or.inl q_482) (by decide) rfl (Nat.le_of_ble_eq_true rfl) (k_X3_isAhead h) ?_
  rintro _ _ ⟨rfl, r_5, rfl, h⟩
  refine Ev_istore dX3_findInOneRow_27 (by decide) rfl ?_
  refine Ev_aload_n dX3_findInOneRow_29 2 rfl ?_
  refine Ev_getr 1 (4) dX3_findInOneRow_30 f_RX3_43 rfl sh_1 rfl ?_
  refine Ev_iload_n dX3_findInOneRow_33 4 rfl ?_
  obtain ⟨hb_6, h⟩ := h
  refine Ev_iald (4) dX3_findInOneRow_34 rfl sh_4 hb_6 ?_
  refine Ev_aload_n dX3_findInOneRow_35 2 rfl ?_
  refine Ev_getr 1 (5) dX3_findInOneRow_36 f_RX3_46 rfl sh_1 rfl ?_
  refine Ev_iload_n dX3_findInOneRow_39 4 rfl ?_
  obtain ⟨hb_7, h⟩ := h
  refine Ev_iald (5) dX3_findInOneRow_40 rfl sh_5 hb_7 ?_
  refine Ev_aload_n dX3_findInOneRow_41 2 rfl ?_
  refine Ev_getr 1 (4) dX3_findInOneRow_42 f_RX3_43 rfl sh_1 rfl ?_
  refine Ev_iload_n dX3_findInOneRow_45 3 rfl ?_
  obtain ⟨hb_8, h⟩ := h
  refine Ev_iald (4) dX3_findInOneRow_46 rfl sh_4 hb_8 ?_
  refine Ev_aload_n dX3_findInOneRow_47 2 rfl ?_
  refine Ev_getr 1 (5) dX3_findInOneRow_48 f_RX3_46 rfl sh_1 rfl ?_
  refine Ev_iload_n dX3_findInOneRow_51 3 rfl ?_
  obtain ⟨hb_9, h⟩ := h
  refine Ev_iald (5) dX3_findInOneRow_52 rfl sh_5 hb_9 ?_
  refine Ev_invS (d' := 0) [(0, s 4 v3.toNat), (0, s 5 v3.toNat), (0, s 4 v2.toNat), (0, s 5 v2.toNat)] dX3_findInOneRow_53 M_X3_isAhead (Or.inl q_482) (by decide) rfl (Nat.le_of_ble_eq_true rfl) (k_X3_isAhead h) ?_
  rintro _ _ ⟨rfl, r_10, rfl, h⟩
  refine Ev_istore dX3_findInOneRow_56 (by decide) rfl ?_
  refine Ev_iload dX3_findInOneRow_58 1 rfl ?_
  refine jc_1 (P := fun (t_11 : Int) => Ev mX3_findInOneRow 1 68 [(0, (2, 34)), (1, (2, 1)), (2, (0, v2)), (3, (0, v3)), (5, (0, r_10))] [(0, t_11)] s (poV post)) h ?_ ?_
  · intro t_11 h
    refine Ev_istore dX3_findInOneRow_68 (by decide) rfl ?_
    refine Ev_iload dX3_findInOneRow_70 5 rfl ?_
    refine jc_1 (P := fun (t_13 : Int) => Ev mX3_findInOneRow 1 80 [(0, (2, 34)), (1, (2, 1)), (6, (0, t_11))] [(0, t_13)] s (poV post)) h ?_ ?_
    · intro t_13 h
      refine Ev_istore dX3_findInOneRow_80 (by decide) rfl ?_
      refine Ev_aload_n dX3_findInOneRow_82 2 rfl ?_
      refine Ev_getr 1 (2) dX3_findInOneRow_83 f_RX3_24 rfl sh_1 rfl ?_
      refine Ev_iload dX3_findInOneRow_86 3 rfl ?_
      obtain ⟨hb_15, h⟩ := h
      refine Ev_iald (2) dX3_findInOneRow_88 rfl sh_2 hb_15 ?_
      refine Ev_aload_n dX3_findInOneRow_89 2 rfl ?_
      refine Ev_getr 1 (3) dX3_findInOneRow_90 f_RX3_28 rfl sh_1 rfl ?_
      refine Ev_iload dX3_findInOneRow_93 3 rfl ?_
      obtain ⟨hb_16, h⟩ := h
      refine Ev_iald (3) dX3_findInOneRow_95 rfl sh_3 hb_16 ?_
      refine Ev_aload_n dX3_findInOneRow_96 2 rfl ?_
      refine Ev_getr 1 (4) dX3_findInOneRow_97 f_RX3_43 rfl sh_1 rfl ?_
      refine Ev_iload dX3_findInOneRow_100 0 rfl ?_
      obtain ⟨hb_17, h⟩ := h
      refine Ev_iald (4) dX3_findInOneRow_102 rfl sh_4 hb_17 ?_
      refine Ev_aload_n dX3_findInOneRow_103 2 rfl ?_
      refine Ev_getr 1 (5) dX3_findInOneRow_104 f_RX3_46 rfl sh_1 rfl ?_
      refine Ev_iload dX3_findInOneRow_107 0 rfl ?_
      obtain ⟨hb_18, h⟩ := h
      refine Ev_iald (5) dX3_findInOneRow_109 rfl sh_5 hb_18 ?_
      refine Ev_invS (d' := 0) [(0, s 2 t_11.toNat), (0, s 3 t_11.toNat), (0, s 4 t_13.toNat), (0, s 5 t_13.toNat)] dX3_findInOneRow_110 M_X3_isAhead (Or.inl q_482) (by decide) rfl (Nat.le_of_ble_eq_true rfl) (k_X3_isAhead h) ?_
      rintro _ _ ⟨rfl, r_19, rfl, h⟩
      refine jc_0s (P := fun (s_20 : Sg) => Ev mX3_findInOneRow 1 197 [] [] s_20 (poV post)) h ?_ ?_
      · intro s_20 h
        exact Ev_retv dX3_findInOneRow_197 rfl (poV_mk h)
      · intro K_21 hK_21 h
        refine Ev_if_eq (tgt := 124) dX3_findInOneRow_113 (by decide) (fun hc => ?_) (fun hc => ?_)
        · replace h := h.1 hc
          refine Ev_aload_n dX3_findInOneRow_124 2 rfl ?_
          refine Ev_getr 1 (2) dX3_findInOneRow_125 f_RX3_24 rfl sh_1 rfl ?_
          refine Ev_iload dX3_findInOneRow_128 3 rfl ?_
          obtain ⟨hb_22, h⟩ := h
          refine Ev_iald (2) dX3_findInOneRow_130 rfl sh_2 hb_22 ?_
          refine Ev_aload_n dX3_findInOneRow_131 2 rfl ?_
          refine Ev_getr 1 (4) dX3_findInOneRow_132 f_RX3_43 rfl sh_1 rfl ?_
          refine Ev_iload dX3_findInOneRow_135 0 rfl ?_
          obtain ⟨hb_23, h⟩ := h
          refine Ev_iald (4) dX3_findInOneRow_137 rfl sh_4 hb_23 ?_
          refine Ev_icmp_ne (tgt := 197) dX3_findInOneRow_138 (by decide) (fun hc => ?_) (fun hc => ?_)
          · replace h := h.1 hc
            refine Ev_sub [] rfl ?_
            exact hK_21 _ h
          · replace h := h.2 hc
            refine Ev_aload_n dX3_findInOneRow_141 2 rfl ?_
            refine Ev_getr 1 (3) dX3_findInOneRow_142 f_RX3_28 rfl sh_1 rfl ?_
            refine Ev_iload dX3_findInOneRow_145 3 rfl ?_
            obtain ⟨hb_24, h⟩ := h
            refine Ev_iald (3) dX3_findInOneRow_147 rfl sh_3 hb_24 ?_
            refine Ev_aload_n dX3_findInOneRow_148 2 rfl ?_
            refine Ev_getr 1 (5) dX3_findInOneRow_149 f_RX3_46 rfl sh_1 rfl ?_
            refine Ev_iload dX3_findInOneRow_152 0 rfl ?_
            obtain ⟨hb_25, h⟩ := h
            refine Ev_iald (5) dX3_findInOneRow_154 rfl sh_5 hb_25 ?_
            refine Ev_icmp_ne (tgt := 197) dX3_findInOneRow_155 (by decide) (fun hc => ?_) (fun hc => ?_)
            · replace h := h.1 hc
              refine Ev_sub [] rfl ?_
              exact hK_21 _ h
            · replace h := h.2 hc
              refine Ev_aload_n dX3_findInOneRow_158 1 rfl ?_
              refine Ev_iconst (v := 2) dX3_findInOneRow_159 rfl ⟨by decide, by decide⟩ ?_
              obtain ⟨s_26, es_26⟩ : ∃ z : Sg, z = (up s 34 0 2) := ⟨_, rfl⟩
              replace h := h s_26 es_26
              refine Ev_puti 34 dX3_findInOneRow_160 fp_RX3_9 rfl sh_34 ?_
              rw [← es_26]
              refine Ev_aload_n dX3_findInOneRow_163 1 rfl ?_
              refine Ev_aload_n dX3_findInOneRow_164 2 rfl ?_
              refine Ev_getr 1 (2) dX3_findInOneRow_165 f_RX3_24 rfl sh_1 rfl ?_
              refine Ev_iload dX3_findInOneRow_168 3 rfl ?_
              obtain ⟨hb_27, h⟩ := h
              refine Ev_iald (2) dX3_findInOneRow_170 rfl sh_2 hb_27 ?_
              refine Ev_i2l dX3_findInOneRow_171 ?_
              obtain ⟨s_28, es_28⟩ : ∃ z : Sg, z = (up s_26 34 1 (s_26 2 t_11.toNat)) := ⟨_, rfl⟩
              replace h := h s_28 es_28
              refine Ev_putl 34 dX3_findInOneRow_172 fp_RX3_49 rfl sh_34 ?_
              rw [← es_28]
              refine Ev_aload_n dX3_findInOneRow_175 1 rfl ?_
              refine Ev_lconst (v := 1) dX3_findInOneRow_176 (by decide +kernel) ?_
              obtain ⟨s_29, es_29⟩ : ∃ z : Sg, z = (up s_28 34 2 1) := ⟨_, rfl⟩
              replace h := h s_29 es_29
              refine Ev_putl 34 dX3_findInOneRow_177 fp_RX3_53 rfl sh_34 ?_
              rw [← es_29]
              refine Ev_aload_n dX3_findInOneRow_180 1 rfl ?_
              refine Ev_aload_n dX3_findInOneRow_181 2 rfl ?_
              refine Ev_getr 1 (3) dX3_findInOneRow_182 f_RX3_28 rfl sh_1 rfl ?_
              refine Ev_iload dX3_findInOneRow_185 3 rfl ?_
              obtain ⟨hb_30, h⟩ := h
              refine Ev_iald (3) dX3_findInOneRow_187 rfl sh_3 hb_30 ?_
              refine Ev_i2l dX3_findInOneRow_188 ?_
              obtain ⟨s_31, es_31⟩ : ∃ z : Sg, z = (up s_29 34 3 (s_29 3 t_11.toNat)) := ⟨_, rfl⟩
              replace h := h s_31 es_31
              refine Ev_putl 34 dX3_findInOneRow_189 fp_RX3_56 rfl sh_34 ?_
              rw [← es_31]
              refine Ev_aload_n dX3_findInOneRow_192 1 rfl ?_
              refine Ev_lconst (v := 1) dX3_findInOneRow_193 (by decide +kernel) ?_
              obtain ⟨s_32, es_32⟩ : ∃ z : Sg, z = (up s_31 34 4 1) := ⟨_, rfl⟩
              replace h := h s_32 es_32
              refine Ev_putl 34 dX3_findInOneRow_194 fp_RX3_59 rfl sh_34 ?_
              rw [← es_32]
              refine Ev_sub [] rfl ?_
              exact hK_21 _ h
        · replace h := h.2 hc
          refine Ev_aload_n dX3_findInOneRow_116 1 rfl ?_
          refine Ev_iconst (v := 3) dX3_findInOneRow_117 rfl ⟨by decide, by decide⟩ ?_
          obtain ⟨s_33, es_33⟩ : ∃ z : Sg, z = (up s 34 0 3) := ⟨_, rfl⟩
          replace h := h s_33 es_33
          refine Ev_puti 34 dX3_findInOneRow_118 fp_RX3_9 rfl sh_34 ?_
          rw [← es_33]
          refine Ev_goto (tgt := 197) dX3_findInOneRow_121 (by decide) ?_
          refine Ev_sub [] rfl ?_
          exact hK_21 _ h
    · intro K_14 hK_14 h
      refine Ev_if_eq (tgt := 79) dX3_findInOneRow_72 (by decide) (fun hc => ?_) (fun hc => ?_)
      · replace h := h.1 hc
        refine Ev_iload_n dX3_findInOneRow_79 3 rfl ?_
        refine Ev_sub [1, 2, 0] rfl ?_
        exact hK_14 _ h
      · replace h := h.2 hc
        refine Ev_iload_n dX3_findInOneRow_75 4 rfl ?_
        refine Ev_goto (tgt := 80) dX3_findInOneRow_76 (by decide) ?_
        refine Ev_sub [1, 2, 0] rfl ?_
        exact hK_14 _ h
  · intro K_12 hK_12 h
    refine Ev_if_eq (tgt := 67) dX3_findInOneRow_60 (by decide) (fun hc => ?_) (fun hc => ?_)
    · replace h := h.1 hc
      refine Ev_iload_n dX3_findInOneRow_67 4 rfl ?_
      refine Ev_sub [2, 3, 4, 5, 0] rfl ?_
      exact hK_12 _ h
    · replace h := h.2 hc
      refine Ev_iload_n dX3_findInOneRow_63 5 rfl ?_
      refine Ev_goto (tgt := 68) dX3_findInOneRow_64 (by decide) ?_
      refine Ev_sub [2, 3, 4, 5, 0] rfl ?_
      exact hK_12 _ h
theorem k_X9_commonDivisor {s : Sg} {v0 v2 : Int} {post : Int → Prop} (h : w_X9_commonDivisor v0 v2 post) : EvM mX9_commonDivisor 0 [(1, v0), (1, v2)] s (poI 1 s post) := by
  refine EvM_of rfl (by decide +kernel) (Nat.le_of_ble_eq_true rfl) ?_
  unfold w_X9_commonDivisor at h
  show Ev mX9_commonDivisor 0 0 [(0, (1, v0)), (2, (1, v2))] [] s (poI 1 s post)
  refine Ev_lload_n dX9_commonDivisor_0 0 rfl ?_
  refine Ev_lstore dX9_commonDivisor_1 (by decide) rfl ?_
  refine Ev_lload_n dX9_commonDivisor_3 2 rfl ?_
  refine Ev_lstore dX9_commonDivisor_4 (by decide) rfl ?_
  refine Ev_iconst (v := 0) dX9_commonDivisor_6 rfl ⟨by decide, by decide⟩ ?_
  refine Ev_istore dX9_commonDivisor_7 (by decide) rfl ?_
  refine Ev_sub [2, 1, 0] rfl ?_
  refine li_3 (P := fun (v4_1 v6_2 v8_3 : Int) => Ev mX9_commonDivisor 0 9 [(4, (1, v4_1)), (6, (1, v6_2)), (8, (0, v8_3))] [] s (poI 1 s post)) ?_ h
  intro again_4 v4_1 v6_2 v8_3 hagain_4 h
  refine Ev_iload dX9_commonDivisor_9 2 rfl ?_
  refine Ev_bipush (v := 100) dX9_commonDivisor_11 (by decide +kernel) ?_
  refine jc_0 (P := Ev mX9_commonDivisor 0 44 [(4, (1, v4_1))] [] s (poI 1 s post)) h ?_ ?_
  · intro  h
    refine Ev_lload dX9_commonDivisor_44 0 rfl ?_
    refine Ev_lconst (v := 0) dX9_commonDivisor_46 (by decide +kernel) ?_
    refine Ev_lcmp dX9_commonDivisor_47 ?_
    refine jc_1 (P := fun (t_6 : Int) => Ev mX9_commonDivisor 0 57 [] [(1, t_6)] s (poI 1 s post)) h ?_ ?_
    · intro t_6 h
      exact Ev_ret dX9_commonDivisor_57 trivial (poI_mk h)
    · intro K_7 hK_7 h
      refine Ev_if_le (tgt := 56) dX9_commonDivisor_48 (by decide) (fun hc => ?_) (fun hc => ?_)
      · replace h := h.1 (lcmp_le.mp hc)
        refine Ev_lconst (v := 1) dX9_commonDivisor_56 (by decide +kernel) ?_
        refine Ev_sub [] rfl ?_
        exact hK_7 _ h
      · replace h := h.2 (fun q => hc (lcmp_le.mpr q))
        refine Ev_lload dX9_commonDivisor_51 0 rfl ?_
        refine Ev_goto (tgt := 57) dX9_commonDivisor_53 (by decide) ?_
        refine Ev_sub [] rfl ?_
        exact hK_7 _ h
  · intro K_5 hK_5 h
    refine Ev_icmp_ge (tgt := 44) dX9_commonDivisor_13 (by decide) (fun hc => ?_) (fun hc => ?_)
    · replace h := h.1 hc
      refine Ev_sub [0] rfl ?_
      exact hK_5 h
    · replace h := h.2 hc
      refine Ev_lload dX9_commonDivisor_16 1 rfl ?_
      refine Ev_lconst (v := 0) dX9_commonDivisor_18 (by decide +kernel) ?_
      refine Ev_lcmp dX9_commonDivisor_19 ?_
      refine Ev_if_eq (tgt := 44) dX9_commonDivisor_20 (by decide) (fun hc => ?_) (fun hc => ?_)
      · replace h := h.1 (lcmp_eq.mp hc)
        refine Ev_sub [0] rfl ?_
        exact hK_5 h
      · replace h := h.2 (fun q => hc (lcmp_eq.mpr q))
        refine Ev_lload dX9_commonDivisor_23 0 rfl ?_
        refine Ev_lload dX9_commonDivisor_25 1 rfl ?_
        obtain ⟨hb, h⟩ := h
        refine Ev_lrem dX9_commonDivisor_27 hb ?_
        obtain ⟨v9_8, ev9_8⟩ : ∃ z : Int, z = w64 (v4_1.tmod v6_2) := ⟨_, rfl⟩
        replace h := h v9_8 ev9_8
        rw [← ev9_8]
        refine Ev_lstore dX9_commonDivisor_28 (by decide) rfl ?_
        refine Ev_lload dX9_commonDivisor_30 2 rfl ?_
        refine Ev_lstore dX9_commonDivisor_32 (by decide) rfl ?_
        refine Ev_lload dX9_commonDivisor_34 1 rfl ?_
        refine Ev_lstore dX9_commonDivisor_36 (by decide) rfl ?_
        obtain ⟨v8_9, ev8_9⟩ : ∃ z : Int, z = w32 (v8_3 + 1) := ⟨_, rfl⟩
        replace h := h v8_9 ev8_9
        refine Ev_iinc (v := v8_9) dX9_commonDivisor_38 3 rfl ev8_9.symm (by decide) rfl ?_
        refine Ev_goto (tgt := 9) dX9_commonDivisor_41 (by decide) ?_
        refine Ev_sub [2, 1, 0] rfl ?_
        exact hagain_4 _ _ _ h
theorem k_X3_layAt_24 {s : Sg} {v1 v3 v5 : Int} {post : Sg → Prop} (h : w_X3_layAt s 24 v1 v3 v5 post) : EvM mX3_layAt 1 [(2, 24), (1, v1), (1, v3), (1, v5)] s (poV post) := by
  refine EvM_of rfl (by decide +kernel) (Nat.le_of_ble_eq_true rfl) ?_
  unfold w_X3_layAt at h
  show Ev mX3_layAt 1 0 [(0, (2, 24)), (1, (1, v1)), (3, (1, v3)), (5, (1, v5))] [] s (poV post)
  refine Ev_lload_n dX3_layAt_0 1 rfl ?_
  refine Ev_lload dX3_layAt_1 3 rfl ?_
  refine Ev_invS (d' := 0) [(1, v1), (1, v5)] dX3_layAt_3 M_X9_commonDivisor (Or.inr ⟨_, q_489⟩) (by decide) rfl (Nat.le_of_ble_eq_true rfl) (k_X9_commonDivisor h) ?_
  rintro _ _ ⟨rfl, r_1, rfl, h⟩
  refine Ev_lstore dX3_layAt_6 (by decide) rfl ?_
  refine Ev_lload_n dX3_layAt_8 3 rfl ?_
  refine Ev_lload dX3_layAt_9 4 rfl ?_
  refine Ev_invS (d' := 0) [(1, v3), (1, v5)] dX3_layAt_11 M_X9_commonDivisor (Or.inr ⟨_, q_489⟩) (by decide) rfl (Nat.le_of_ble_eq_true rfl) (k_X9_commonDivisor h) ?_
  rintro _ _ ⟨rfl, r_2, rfl, h⟩
  refine Ev_lstore dX3_layAt_14 (by decide) rfl ?_
  refine Ev_aload_n dX3_layAt_16 2 rfl ?_
  refine Ev_lload_n dX3_layAt_17 3 rfl ?_
  refine Ev_lload dX3_layAt_18 1 rfl ?_
  obtain ⟨hb, h⟩ := h
  refine Ev_ldiv dX3_layAt_20 hb ?_
  obtain ⟨s_3, es_3⟩ : ∃ z : Sg, z = (up s 24 1 (w64 (v1.tdiv r_1))) := ⟨_, rfl⟩
  replace h := h s_3 es_3
  refine Ev_putl 24 dX3_layAt_21 fp_RX3_49 rfl sh_24 ?_
  rw [← es_3]
  refine Ev_aload_n dX3_layAt_24 2 rfl ?_
  refine Ev_lload dX3_layAt_25 5 rfl ?_
  refine Ev_lload dX3_layAt_27 1 rfl ?_
  obtain ⟨hb, h⟩ := h
  refine Ev_ldiv dX3_layAt_29 hb ?_
  obtain ⟨s_4, es_4⟩ : ∃ z : Sg, z = (up s_3 24 2 (w64 (v5.tdiv r_1))) := ⟨_, rfl⟩
  replace h := h s_4 es_4
  refine Ev_putl 24 dX3_layAt_30 fp_RX3_53 rfl sh_24 ?_
  rw [← es_4]
  refine Ev_aload_n dX3_layAt_33 2 rfl ?_
  refine Ev_lload_n dX3_layAt_34 4 rfl ?_
  refine Ev_lload dX3_layAt_35 0 rfl ?_
  obtain ⟨hb, h⟩ := h
  refine Ev_ldiv dX3_layAt_37 hb ?_
  obtain ⟨s_5, es_5⟩ : ∃ z : Sg, z = (up s_4 24 3 (w64 (v3.tdiv r_2))) := ⟨_, rfl⟩
  replace h := h s_5 es_5
  refine Ev_putl 24 dX3_layAt_38 fp_RX3_56 rfl sh_24 ?_
  rw [← es_5]
  refine Ev_aload_n dX3_layAt_41 2 rfl ?_
  refine Ev_lload dX3_layAt_42 5 rfl ?_
  refine Ev_lload dX3_layAt_44 0 rfl ?_
  obtain ⟨hb, h⟩ := h
  refine Ev_ldiv dX3_layAt_46 hb ?_
  obtain ⟨s_6, es_6⟩ : ∃ z : Sg, z = (up s_5 24 4 (w64 (v5.tdiv r_2))) := ⟨_, rfl⟩
  replace h := h s_6 es_6
  refine Ev_putl 24 dX3_layAt_47 fp_RX3_59 rfl sh_24 ?_
  rw [← es_6]
  exact Ev_retv dX3_layAt_50 rfl (poV_mk h)
theorem k_X3_layAt_33 {s : Sg} {v1 v3 v5 : Int} {post : Sg → Prop} (h : w_X3_layAt s 33 v1 v3 v5 post) : EvM mX3_layAt 1 [(2, 33), (1, v1), (1, v3), (1, v5)] s (poV post) := by
  refine EvM_of rfl (by decide +kernel) (Nat.le_of_ble_eq_true rfl) ?_
  unfold w_X3_layAt at h
  show Ev mX3_layAt 1 0 [(0, (2, 33)), (1, (1, v1)), (3, (1, v3)), (5, (1, v5))] [] s (poV post)
  refine Ev_lload_n dX3_layAt_0 1 rfl ?_
  refine Ev_lload dX3_layAt_1 3 rfl ?_
  refine Ev_invS (d' := 0) [(1, v1), (1, v5)] dX3_layAt_3 M_X9_commonDivisor (Or.inr ⟨_, q_489⟩) (by decide) rfl (Nat.le_of_ble_eq_true rfl) (k_X9_commonDivisor h) ?_
  rintro _ _ ⟨rfl, r_1, rfl, h⟩
  refine Ev_lstore dX3_layAt_6 (by decide) rfl ?_
  refine Ev_lload_n dX3_layAt_8 3 rfl ?_
  refine Ev_lload dX3_layAt_9 4 rfl ?_
  refine Ev_invS (d' := 0) [(1, v3), (1, v5)] dX3_layAt_11 M_X9_commonDivisor (Or.inr ⟨_, q_489⟩) (by decide) rfl (Nat.le_of_ble_eq_true rfl) (k_X9_commonDivisor h) ?_
  rintro _ _ ⟨rfl, r_2, rfl, h⟩
  refine Ev_lstore dX3_layAt_14 (by decide) rfl ?_
  refine Ev_aload_n dX3_layAt_16 2 rfl ?_
  refine Ev_lload_n dX3_layAt_17 3 rfl ?_
  refine Ev_lload dX3_layAt_18 1 rfl ?_
  obtain ⟨hb, h⟩ := h
  refine Ev_ldiv dX3_layAt_20 hb ?_
  obtain ⟨s_3, es_3⟩ : ∃ z : Sg, z = (up s 33 1 (w64 (v1.tdiv r_1))) := ⟨_, rfl⟩
  replace h := h s_3 es_3
  refine Ev_putl 33 dX3_layAt_21 fp_RX3_49 rfl sh_33 ?_
  rw [← es_3]
  refine Ev_aload_n dX3_layAt_24 2 rfl ?_
  refine Ev_lload dX3_layAt_25 5 rfl ?_
  refine Ev_lload dX3_layAt_27 1 rfl ?_
  obtain ⟨hb, h⟩ := h
  refine Ev_ldiv dX3_layAt_29 hb ?_
  obtain ⟨s_4, es_4⟩ : ∃ z : Sg, z = (up s_3 33 2 (w64 (v5.tdiv r_1))) := ⟨_, rfl⟩
  replace h := h s_4 es_4
  refine Ev_putl 33 dX3_layAt_30 fp_RX3_53 rfl sh_33 ?_
  rw [← es_4]
  refine Ev_aload_n dX3_layAt_33 2 rfl ?_
  refine Ev_lload_n dX3_layAt_34 4 rfl ?_
  refine Ev_lload dX3_layAt_35 0 rfl ?_
  obtain ⟨hb, h⟩ := h
  refine Ev_ldiv dX3_layAt_37 hb ?_
  obtain ⟨s_5, es_5⟩ : ∃ z : Sg, z = (up s_4 33 3 (w64 (v3.tdiv r_2))) := ⟨_, rfl⟩
  replace h := h s_5 es_5
  refine Ev_putl 33 dX3_layAt_38 fp_RX3_56 rfl sh_33 ?_
  rw [← es_5]
  refine Ev_aload_n dX3_layAt_41 2 rfl ?_
  refine Ev_lload dX3_layAt_42 5 rfl ?_
  refine Ev_lload dX3_layAt_44 0 rfl ?_
  obtain ⟨hb, h⟩ := h
  refine Ev_ldiv dX3_layAt_46 hb ?_
  obtain ⟨s_6, es_6⟩ : ∃ z : Sg, z = (up s_5 33 4 (w64 (v5.tdiv r_2))) := ⟨_, rfl⟩
  replace h := h s_6 es_6
  refine Ev_putl 33 dX3_layAt_47 fp_RX3_59 rfl sh_33 ?_
  rw [← es_6]
  exact Ev_retv dX3_layAt_50 rfl (poV_mk h)
theorem k_X3_layAt_34 {s : Sg} {v1 v3 v5 : Int} {post : Sg → Prop} (h : w_X3_layAt s 34 v1 v3 v5 post) : EvM mX3_layAt 1 [(2, 34), (1, v1), (1, v3), (1, v5)] s (poV post) := by
  refine EvM_of rfl (by decide +kernel) (Nat.le_of_ble_eq_true rfl) ?_
  unfold w_X3_layAt at h
  show Ev mX3_layAt 1 0 [(0, (2, 34)), (1, (1, v1)), (3, (1, v3)), (5, (1, v5))] [] s (poV post)
  refine Ev_lload_n dX3_layAt_0 1 rfl ?_
  refine Ev_lload dX3_layAt_1 3 rfl ?_
  refine Ev_invS (d' := 0) [(1, v1), (1, v5)] dX3_layAt_3 M_X9_commonDivisor (Or.inr ⟨_, q_489⟩) (by decide) rfl (Nat.le_of_ble_eq_true rfl) (k_X9_commonDivisor h) ?_
  rintro _ _ ⟨rfl, r_1, rfl, h⟩
  refine Ev_lstore dX3_layAt_6 (by decide) rfl ?_
  refine Ev_lload_n dX3_layAt_8 3 rfl ?_
  refine Ev_lload dX3_layAt_9 4 rfl ?_
  refine Ev_invS (d' := 0) [(1, v3), (1, v5)] dX3_layAt_11 M_X9_commonDivisor (Or.inr ⟨_, q_489⟩) (by decide) rfl (Nat.le_of_ble_eq_true rfl) (k_X9_commonDivisor h) ?_
  rintro _ _ ⟨rfl, r_2, rfl, h⟩
  refine Ev_lstore dX3_layAt_14 (by decide) rfl ?_
  refine Ev_aload_n dX3_layAt_16 2 rfl ?_
  refine Ev_lload_n dX3_layAt_17 3 rfl ?_
  refine Ev_lload dX3_layAt_18 1 rfl ?_
  obtain ⟨hb, h⟩ := h
  refine Ev_ldiv dX3_layAt_20 hb ?_
  obtain ⟨s_3, es_3⟩ : ∃ z : Sg, z = (up s 34 1 (w64 (v1.tdiv r_1))) := ⟨_, rfl⟩
  replace h := h s_3 es_3
  refine Ev_putl 34 dX3_layAt_21 fp_RX3_49 rfl sh_34 ?_
  rw [← es_3]
  refine Ev_aload_n dX3_layAt_24 2 rfl ?_
  refine Ev_lload dX3_layAt_25 5 rfl ?_
  refine Ev_lload dX3_layAt_27 1 rfl ?_
  obtain ⟨hb, h⟩ := h
  refine Ev_ldiv dX3_layAt_29 hb ?_
  obtain ⟨s_4, es_4⟩ : ∃ z : Sg, z = (up s_3 34 2 (w64 (v5.tdiv r_1))) := ⟨_, rfl⟩
  replace h := h s_4 es_4
  refine Ev_putl 34 dX3_layAt_30 fp_RX3_53 rfl sh_34 ?_
  rw [← es_4]
  refine Ev_aload_n dX3_layAt_33 2 rfl ?_
  refine Ev_lload_n dX3_layAt_34 4 rfl ?_
  refine Ev_lload dX3_layAt_35 0 rfl ?_
  obtain ⟨hb, h⟩ := h
  refine Ev_ldiv dX3_layAt_37 hb ?_
  obtain ⟨s_5, es_5⟩ : ∃ z : Sg, z = (up s_4 34 3 (w64 (v3.tdiv r_2))) := ⟨_, rfl⟩
  replace h := h s_5 es_5
  refine Ev_putl 34 dX3_layAt_38 fp_RX3_56 rfl sh_34 ?_
  rw [← es_5]
  refine Ev_aload_n dX3_layAt_41 2 rfl ?_
  refine Ev_lload dX3_layAt_42 5 rfl ?_
  refine Ev_lload dX3_layAt_44 0 rfl ?_
  obtain ⟨hb, h⟩ := h
  refine Ev_ldiv dX3_layAt_46 hb ?_
  obtain ⟨s_6, es_6⟩ : ∃ z : Sg, z = (up s_5 34 4 (w64 (v5.tdiv r_2))) := ⟨_, rfl⟩
  replace h := h s_6 es_6
  refine Ev_putl 34 dX3_layAt_47 fp_RX3_59 rfl sh_34 ?_
  rw [← es_6]
  exact Ev_retv dX3_layAt_50 rfl (poV_mk h)
theorem k_X3_find_24_1 {s : Sg} {v2 v3 : Int} {post : Sg → Prop} (h : w_X3_find s 24 1 v2 v3 post) : EvM mX3_find 2 [(2, 24), (2, 1), (0, v2), (0, v3)] s (poV post) := by
  refine EvM_of rfl (by decide +kernel) (Nat.le_of_ble_eq_true rfl) ?_
  unfold w_X3_find at h
  show Ev mX3_find 2 0 [(0, (2, 24)), (1, (2, 1)), (2, (0, v2)), (3, (0, v3))] [] s (poV post)
  refine Ev_aload_n dX3_find_0 0 rfl ?_
  refine Ev_iconst (v := 0) dX3_find_1 rfl ⟨by decide, by decide⟩ ?_
  obtain ⟨s_1, es_1⟩ : ∃ z : Sg, z = (up s 24 0 0) := ⟨_, rfl⟩
  replace h := h s_1 es_1
  refine Ev_puti 24 dX3_find_2 fp_RX3_9 rfl sh_24 ?_
  rw [← es_1]
  refine Ev_aload_n dX3_find_5 1 rfl ?_
  refine Ev_iload_n dX3_find_6 2 rfl ?_
  refine Ev_invV (d' := 0) [(0, v2)] 1 dX3_find_7 M_X2_run q_470 (by decide) rfl rfl sh_1 rfl (Nat.le_of_ble_eq_true rfl) (k_X2_run_1 h) ?_
  rintro _ _ ⟨rfl, r_2, rfl, h⟩
  refine Ev_lstore dX3_find_10 (by decide) rfl ?_
  refine Ev_aload_n dX3_find_12 2 rfl ?_
  refine Ev_iload_n dX3_find_13 3 rfl ?_
  refine Ev_invV (d' := 0) [(0, v2)] 1 dX3_find_14 M_X2_rise q_474 (by decide) rfl rfl sh_1 rfl (Nat.le_of_ble_eq_true rfl) (k_X2_rise_1 h) ?_
  rintro _ _ ⟨rfl, r_3, rfl, h⟩
  refine Ev_lstore dX3_find_17 (by decide) rfl ?_
  refine Ev_aload_n dX3_find_19 3 rfl ?_
  refine Ev_iload_n dX3_find_20 5 rfl ?_
  refine Ev_invV (d' := 0) [(0, v3)] 1 dX3_find_21 M_X2_run q_470 (by decide) rfl rfl sh_1 rfl (Nat.le_of_ble_eq_true rfl) (k_X2_run_1 h) ?_
  rintro _ _ ⟨rfl, r_4, rfl, h⟩
  refine Ev_lstore dX3_find_24 (by decide) rfl ?_
  refine Ev_aload_n dX3_find_26 4 rfl ?_
  refine Ev_iload_n dX3_find_27 6 rfl ?_
  refine Ev_invV (d' := 0) [(0, v3)] 1 dX3_find_28 M_X2_rise q_474 (by decide) rfl rfl sh_1 rfl (Nat.le_of_ble_eq_true rfl) (k_X2_rise_1 h) ?_
  rintro _ _ ⟨rfl, r_5, rfl, h⟩
  refine Ev_lstore dX3_find_31 (by decide) rfl ?_
  refine Ev_aload_n dX3_find_33 5 rfl ?_
  refine Ev_getr 1 (2) dX3_find_34 f_RX3_24 rfl sh_1 rfl ?_
  refine Ev_iload_n dX3_find_37 7 rfl ?_
  obtain ⟨hb_6, h⟩ := h
  refine Ev_iald (2) dX3_find_38 rfl sh_2 hb_6 ?_
  refine Ev_aload_n dX3_find_39 5 rfl ?_
  refine Ev_getr 1 (2) dX3_find_40 f_RX3_24 rfl sh_1 rfl ?_
  refine Ev_iload_n dX3_find_43 6 rfl ?_
  obtain ⟨hb_7, h⟩ := h
  refine Ev_iald (2) dX3_find_44 rfl sh_2 hb_7 ?_
  refine Ev_isub dX3_find_45 ?_
  refine Ev_i2l dX3_find_46 ?_
  obtain ⟨v12_8, ev12_8⟩ : ∃ z : Int, z = w32 ((s_1 2 v3.toNat) - (s_1 2 v2.toNat)) := ⟨_, rfl⟩
  replace h := h v12_8 ev12_8
  rw [← ev12_8]
  refine Ev_lstore dX3_find_47 (by decide) rfl ?_
  refine Ev_aload_n dX3_find_49 6 rfl ?_
  refine Ev_getr 1 (3) dX3_find_50 f_RX3_28 rfl sh_1 rfl ?_
  refine Ev_iload_n dX3_find_53 8 rfl ?_
  obtain ⟨hb_9, h⟩ := h
  refine Ev_iald (3) dX3_find_54 rfl sh_3 hb_9 ?_
  refine Ev_aload_n dX3_find_55 6 rfl ?_
  refine Ev_getr 1 (3) dX3_find_56 f_RX3_28 rfl sh_1 rfl ?_
  refine Ev_iload_n dX3_find_59 7 rfl ?_
  obtain ⟨hb_10, h⟩ := h
  refine Ev_iald (3) dX3_find_60 rfl sh_3 hb_10 ?_
  refine Ev_isub dX3_find_61 ?_
  refine Ev_i2l dX3_find_62 ?_
  obtain ⟨v14_11, ev14_11⟩ : ∃ z : Int, z = w32 ((s_1 3 v3.toNat) - (s_1 3 v2.toNat)) := ⟨_, rfl⟩
  replace h := h v14_11 ev14_11
  rw [← ev14_11]
  refine Ev_lstore dX3_find_63 (by decide) rfl ?_
  refine Ev_lload dX3_find_65 5 rfl ?_
  refine Ev_lload dX3_find_67 2 rfl ?_
  refine Ev_lmul dX3_find_69 ?_
  refine Ev_lload dX3_find_70 4 rfl ?_
  refine Ev_lload dX3_find_72 3 rfl ?_
  refine Ev_lmul dX3_find_74 ?_
  refine Ev_lsub dX3_find_75 ?_
  obtain ⟨v16_12, ev16_12⟩ : ∃ z : Int, z = w64 ((w64 (r_2 * r_5)) - (w64 (r_3 * r_4))) := ⟨_, rfl⟩
  replace h := h v16_12 ev16_12
  rw [← ev16_12]
  refine Ev_lstore dX3_find_76 (by decide) rfl ?_
  refine Ev_lload dX3_find_78 0 rfl ?_
  refine Ev_lconst (v := 0) dX3_find_80 (by decide +kernel) ?_
  refine Ev_lcmp dX3_find_81 ?_
  refine Ev_if_ne (tgt := 107) dX3_find_82 (by decide) (fun hc => ?_) (fun hc => ?_)
  · replace h := h.1 (fun q => hc (lcmp_eq.mpr q))
    refine Ev_lload dX3_find_107 0 rfl ?_
    refine Ev_lconst (v := 0) dX3_find_109 (by decide +kernel) ?_
    refine Ev_lcmp dX3_find_110 ?_
    refine jc_1 (P := fun (t_13 : Int) => Ev mX3_find 2 119 [(0, (2, 24)), (1, (2, 1)), (2, (0, v2)), (4, (1, r_2)), (6, (1, r_3)), (8, (1, r_4)), (10, (1, r_5)), (12, (1, v12_8)), (14, (1, v14_11)), (16, (1, v16_12))] [(0, t_13)] s_1 (poV post)) h ?_ ?_
    · intro t_13 h
      refine Ev_istore dX3_find_119 (by decide) rfl ?_
      refine Ev_iload dX3_find_121 0 rfl ?_
      refine Ev_i2l dX3_find_123 ?_
      refine Ev_lload dX3_find_124 10 rfl ?_
      refine Ev_lmul dX3_find_126 ?_
      obtain ⟨v19_15, ev19_15⟩ : ∃ z : Int, z = w64 (t_13 * v16_12) := ⟨_, rfl⟩
      replace h := h v19_15 ev19_15
      rw [← ev19_15]
      refine Ev_lstore dX3_find_127 (by decide) rfl ?_
      refine Ev_iload dX3_find_129 1 rfl ?_
      refine Ev_i2l dX3_find_131 ?_
      refine Ev_lload dX3_find_132 9 rfl ?_
      refine Ev_lload dX3_find_134 8 rfl ?_
      refine Ev_lmul dX3_find_136 ?_
      refine Ev_lload dX3_find_137 10 rfl ?_
      refine Ev_lload dX3_find_139 7 rfl ?_
      refine Ev_lmul dX3_find_141 ?_
      refine Ev_lsub dX3_find_142 ?_
      refine Ev_lmul dX3_find_143 ?_
      obtain ⟨v21_16, ev21_16⟩ : ∃ z : Int, z = w64 (t_13 * (w64 ((w64 (v12_8 * r_5)) - (w64 (v14_11 * r_4))))) := ⟨_, rfl⟩
      replace h := h v21_16 ev21_16
      rw [← ev21_16]
      refine Ev_lstore dX3_find_144 (by decide) rfl ?_
      refine Ev_iload dX3_find_146 2 rfl ?_
      refine Ev_i2l dX3_find_148 ?_
      refine Ev_lload dX3_find_149 10 rfl ?_
      refine Ev_lload dX3_find_151 7 rfl ?_
      refine Ev_lmul dX3_find_153 ?_
      refine Ev_lload dX3_find_154 11 rfl ?_
      refine Ev_lload dX3_find_156 6 rfl ?_
      refine Ev_lmul dX3_find_158 ?_
      refine Ev_lsub dX3_find_159 ?_
      refine Ev_lmul dX3_find_160 ?_
      obtain ⟨v23_17, ev23_17⟩ : ∃ z : Int, z = w64 (t_13 * (w64 ((w64 (v12_8 * r_3)) - (w64 (v14_11 * r_2))))) := ⟨_, rfl⟩
      replace h := h v23_17 ev23_17
      rw [← ev23_17]
      refine Ev_lstore dX3_find_161 (by decide) rfl ?_
      refine Ev_lload dX3_find_163 1 rfl ?_
      refine Ev_lconst (v := 0) dX3_find_165 (by decide +kernel) ?_
      refine Ev_lcmp dX3_find_166 ?_
      refine jc_0 (P := Ev mX3_find 2 193 [] [] s_1 (poV post)) h ?_ ?_
      · intro  h
        exact Ev_retv dX3_find_193 rfl (poV_mk h)
      · intro K_18 hK_18 h
        refine Ev_if_lt (tgt := 193) dX3_find_167 (by decide) (fun hc => ?_) (fun hc => ?_)
        · replace h := h.1 (lcmp_lt.mp hc)
          refine Ev_sub [] rfl ?_
          exact hK_18 h
        · replace h := h.2 (fun q => hc (lcmp_lt.mpr q))
          refine Ev_lload dX3_find_170 1 rfl ?_
          refine Ev_lload dX3_find_172 2 rfl ?_
          refine Ev_lcmp dX3_find_174 ?_
          refine Ev_if_gt (tgt := 193) dX3_find_175 (by decide) (fun hc => ?_) (fun hc => ?_)
          · replace h := h.1 (lcmp_gt.mp hc)
            refine Ev_sub [] rfl ?_
            exact hK_18 h
          · replace h := h.2 (fun q => hc (lcmp_gt.mpr q))
            refine Ev_lload dX3_find_178 0 rfl ?_
            refine Ev_lconst (v := 0) dX3_find_180 (by decide +kernel) ?_
            refine Ev_lcmp dX3_find_181 ?_
            refine Ev_if_lt (tgt := 193) dX3_find_182 (by decide) (fun hc => ?_) (fun hc => ?_)
            · replace h := h.1 (lcmp_lt.mp hc)
              refine Ev_sub [] rfl ?_
              exact hK_18 h
            · replace h := h.2 (fun q => hc (lcmp_lt.mpr q))
              refine Ev_lload dX3_find_185 0 rfl ?_
              refine Ev_lload dX3_find_187 2 rfl ?_
              refine Ev_lcmp dX3_find_189 ?_
              refine Ev_if_le (tgt := 194) dX3_find_190 (by decide) (fun hc => ?_) (fun hc => ?_)
              · replace h := h.1 (lcmp_le.mp hc)
                refine Ev_lload dX3_find_194 1 rfl ?_
                refine Ev_lconst (v := 0) dX3_find_196 (by decide +kernel) ?_
                refine Ev_lcmp dX3_find_197 ?_
                refine jc_1 (P := fun (t_19 : Int) => Ev mX3_find 2 229 [(0, (2, 24)), (1, (2, 1)), (2, (0, v2)), (4, (1, r_2)), (6, (1, r_3)), (19, (1, v19_15)), (21, (1, v21_16))] [(0, t_19)] s_1 (poV post)) h ?_ ?_
                · intro t_19 h
                  refine Ev_istore dX3_find_229 (by decide) rfl ?_
                  refine Ev_aload_n dX3_find_231 1 rfl ?_
                  refine Ev_iload dX3_find_232 0 rfl ?_
                  refine jc_1 (P := fun (t_21 : Int) => Ev mX3_find 2 242 [(0, (2, 24)), (1, (2, 1)), (2, (0, v2)), (4, (1, r_2)), (6, (1, r_3)), (19, (1, v19_15)), (21, (1, v21_16))] [(0, t_21), (2, 24)] s_1 (poV post)) h ?_ ?_
                  · intro t_21 h
                    obtain ⟨s_23, es_23⟩ : ∃ z : Sg, z = (up s_1 24 0 t_21) := ⟨_, rfl⟩
                    replace h := h s_23 es_23
                    refine Ev_puti 24 dX3_find_242 fp_RX3_9 rfl sh_24 ?_
                    rw [← es_23]
                    refine Ev_aload_n dX3_find_245 0 rfl ?_
                    refine Ev_aload_n dX3_find_246 1 rfl ?_
                    refine Ev_getr 1 (2) dX3_find_247 f_RX3_24 rfl sh_1 rfl ?_
                    refine Ev_iload_n dX3_find_250 2 rfl ?_
                    obtain ⟨hb_24, h⟩ := h
                    refine Ev_iald (2) dX3_find_251 rfl sh_2 hb_24 ?_
                    refine Ev_i2l dX3_find_252 ?_
                    refine Ev_lload dX3_find_253 5 rfl ?_
                    refine Ev_lmul dX3_find_255 ?_
                    refine Ev_lload dX3_find_256 6 rfl ?_
                    refine Ev_lload dX3_find_258 3 rfl ?_
                    refine Ev_lmul dX3_find_260 ?_
                    refine Ev_ladd dX3_find_261 ?_
                    refine Ev_aload_n dX3_find_262 1 rfl ?_
                    refine Ev_getr 1 (3) dX3_find_263 f_RX3_28 rfl sh_1 rfl ?_
                    refine Ev_iload_n dX3_find_266 2 rfl ?_
                    obtain ⟨hb_25, h⟩ := h
                    refine Ev_iald (3) dX3_find_267 rfl sh_3 hb_25 ?_
                    refine Ev_i2l dX3_find_268 ?_
                    refine Ev_lload dX3_find_269 5 rfl ?_
                    refine Ev_lmul dX3_find_271 ?_
                    refine Ev_lload dX3_find_272 6 rfl ?_
                    refine Ev_lload dX3_find_274 4 rfl ?_
                    refine Ev_lmul dX3_find_276 ?_
                    refine Ev_ladd dX3_find_277 ?_
                    refine Ev_lload dX3_find_278 5 rfl ?_
                    refine Ev_invV (d' := 1) [(1, w64 ((w64 ((s_23 2 v2.toNat) * v19_15)) + (w64 (v21_16 * r_2)))), (1, w64 ((w64 ((s_23 3 v2.toNat) * v19_15)) + (w64 (v21_16 * r_3)))), (1, v19_15)] 24 dX3_find_280 M_X3_layAt q_485 (by decide) rfl rfl sh_24 rfl (Nat.le_of_ble_eq_true rfl) (k_X3_layAt_24 h) ?_
                    rintro _ s_26 ⟨rfl, h⟩
                    exact Ev_retv dX3_find_283 rfl (poV_mk h)
                  · intro K_22 hK_22 h
                    refine Ev_if_eq (tgt := 241) dX3_find_234 (by decide) (fun hc => ?_) (fun hc => ?_)
                    · replace h := h.1 hc
                      refine Ev_iconst (v := 2) dX3_find_241 rfl ⟨by decide, by decide⟩ ?_
                      refine Ev_sub [1, 2, 3, 4, 5, 6, 7] rfl ?_
                      exact hK_22 _ h
                    · replace h := h.2 hc
                      refine Ev_iconst (v := 1) dX3_find_237 rfl ⟨by decide, by decide⟩ ?_
                      refine Ev_goto (tgt := 242) dX3_find_238 (by decide) ?_
                      refine Ev_sub [1, 2, 3, 4, 5, 6, 7] rfl ?_
                      exact hK_22 _ h
                · intro K_20 hK_20 h
                  refine jc_0 (P := Ev mX3_find 2 228 [(0, (2, 24)), (1, (2, 1)), (2, (0, v2)), (4, (1, r_2)), (6, (1, r_3)), (19, (1, v19_15)), (21, (1, v21_16))] [] s_1 (poV post)) h ?_ ?_
                  · intro  h
                    refine Ev_iconst (v := 0) dX3_find_228 rfl ⟨by decide, by decide⟩ ?_
                    exact hK_20 _ h
                  · intro K_27 hK_27 h
                    refine Ev_if_le (tgt := 228) dX3_find_198 (by decide) (fun hc => ?_) (fun hc => ?_)
                    · replace h := h.1 (lcmp_le.mp hc)
                      refine Ev_sub [4, 5, 6, 7, 8, 2, 1] rfl ?_
                      exact hK_27 h
                    · replace h := h.2 (fun q => hc (lcmp_le.mpr q))
                      refine Ev_lload dX3_find_201 1 rfl ?_
                      refine Ev_lload dX3_find_203 2 rfl ?_
                      refine Ev_lcmp dX3_find_205 ?_
                      refine Ev_if_ge (tgt := 228) dX3_find_206 (by decide) (fun hc => ?_) (fun hc => ?_)
                      · replace h := h.1 (lcmp_ge.mp hc)
                        refine Ev_sub [4, 5, 6, 7, 8, 2, 1] rfl ?_
                        exact hK_27 h
                      · replace h := h.2 (fun q => hc (lcmp_ge.mpr q))
                        refine Ev_lload dX3_find_209 0 rfl ?_
                        refine Ev_lconst (v := 0) dX3_find_211 (by decide +kernel) ?_
                        refine Ev_lcmp dX3_find_212 ?_
                        refine Ev_if_le (tgt := 228) dX3_find_213 (by decide) (fun hc => ?_) (fun hc => ?_)
                        · replace h := h.1 (lcmp_le.mp hc)
                          refine Ev_sub [4, 5, 6, 7, 8, 2, 1] rfl ?_
                          exact hK_27 h
                        · replace h := h.2 (fun q => hc (lcmp_le.mpr q))
                          refine Ev_lload dX3_find_216 0 rfl ?_
                          refine Ev_lload dX3_find_218 2 rfl ?_
                          refine Ev_lcmp dX3_find_220 ?_
                          refine Ev_if_ge (tgt := 228) dX3_find_221 (by decide) (fun hc => ?_) (fun hc => ?_)
                          · replace h := h.1 (lcmp_ge.mp hc)
                            refine Ev_sub [4, 5, 6, 7, 8, 2, 1] rfl ?_
                            exact hK_27 h
                          · replace h := h.2 (fun q => hc (lcmp_ge.mpr q))
                            refine Ev_iconst (v := 1) dX3_find_224 rfl ⟨by decide, by decide⟩ ?_
                            refine Ev_goto (tgt := 229) dX3_find_225 (by decide) ?_
                            refine Ev_sub [4, 5, 6, 7, 8, 2, 1] rfl ?_
                            exact hK_20 _ h
              · replace h := h.2 (fun q => hc (lcmp_le.mpr q))
                refine Ev_sub [] rfl ?_
                exact hK_18 h
    · intro K_14 hK_14 h
      refine Ev_if_ge (tgt := 118) dX3_find_111 (by decide) (fun hc => ?_) (fun hc => ?_)
      · replace h := h.1 (lcmp_ge.mp hc)
        refine Ev_iconst (v := 1) dX3_find_118 rfl ⟨by decide, by decide⟩ ?_
        refine Ev_sub [7, 8, 9, 6, 5, 4, 3, 2, 1, 0] rfl ?_
        exact hK_14 _ h
      · replace h := h.2 (fun q => hc (lcmp_ge.mpr q))
        refine Ev_iconst (v := -1) dX3_find_114 rfl ⟨by decide, by decide⟩ ?_
        refine Ev_goto (tgt := 119) dX3_find_115 (by decide) ?_
        refine Ev_sub [7, 8, 9, 6, 5, 4, 3, 2, 1, 0] rfl ?_
        exact hK_14 _ h
  · replace h := h.2 (lcmp_eq.mp hc)
    refine Ev_lload dX3_find_85 6 rfl ?_
    refine Ev_lload dX3_find_87 1 rfl ?_
    refine Ev_lmul dX3_find_89 ?_
    refine Ev_lload dX3_find_90 5 rfl ?_
    refine Ev_lload dX3_find_92 2 rfl ?_
    refine Ev_lmul dX3_find_94 ?_
    refine Ev_lcmp dX3_find_95 ?_
    refine jc_0s (P := fun (s_28 : Sg) => Ev mX3_find 2 106 [] [] s_28 (poV post)) h ?_ ?_
    · intro s_28 h
      exact Ev_retv dX3_find_106 rfl (poV_mk h)
    · intro K_29 hK_29 h
      refine Ev_if_ne (tgt := 106) dX3_find_96 (by decide) (fun hc => ?_) (fun hc => ?_)
      · replace h := h.1 (fun q => hc (lcmp_eq.mpr q))
        refine Ev_sub [] rfl ?_
        exact hK_29 _ h
      · replace h := h.2 (lcmp_eq.mp hc)
        refine Ev_aload_n dX3_find_99 7 rfl ?_
        refine Ev_aload_n dX3_find_100 8 rfl ?_
        refine Ev_iload_n dX3_find_101 9 rfl ?_
        refine Ev_iload_n dX3_find_102 10 rfl ?_
        refine Ev_invV (d' := 1) [(2, 1), (0, v2), (0, v3)] 24 dX3_find_103 M_X3_findInOneRow q_478 (by decide) rfl rfl sh_24 rfl (Nat.le_of_ble_eq_true rfl) (k_X3_findInOneRow_24_1 h) ?_
        rintro _ s_30 ⟨rfl, h⟩
        refine Ev_sub [] rfl ?_
        exact hK_29 _ h
theorem k_X3_find_33_11 {s : Sg} {v2 v3 : Int} {post : Sg → Prop} (h : w_X3_find s 33 11 v2 v3 post) : EvM mX3_find 2 [(2, 33), (2, 11), (0, v2), (0, v3)] s (poV post) := by
  refine EvM_of rfl (by decide +kernel) (Nat.le_of_ble_eq_true rfl) ?_
  unfold w_X3_find at h
  show Ev mX3_find 2 0 [(0, (2, 33)), (1, (2, 11)), (2, (0, v2)), (3, (0, v3))] [] s (poV post)
  refine Ev_aload_n dX3_find_0 0 rfl ?_
  refine Ev_iconst (v := 0) dX3_find_1 rfl ⟨by decide, by decide⟩ ?_
  obtain ⟨s_1, es_1⟩ : ∃ z : Sg, z = (up s 33 0 0) := ⟨_, rfl⟩
  replace h := h s_1 es_1
  refine Ev_puti 33 dX3_find_2 fp_RX3_9 rfl sh_33 ?_
  rw [← es_1]
  refine Ev_aload_n dX3_find_5 1 rfl ?_
  refine Ev_iload_n dX3_find_6 2 rfl ?_
  refine Ev_invV (d' := 0) [(0, v2)] 11 dX3_find_7 M_X2_run q_470 (by decide) rfl rfl sh_11 rfl (Nat.le_of_ble_eq_true rfl) (k_X2_run_11 h) ?_
  rintro _ _ ⟨rfl, r_2, rfl, h⟩
  refine Ev_lstore dX3_find_10 (by decide) rfl ?_
  refine Ev_aload_n dX3_find_12 2 rfl ?_
  refine Ev_iload_n dX3_find_13 3 rfl ?_
  refine Ev_invV (d' := 0) [(0, v2)] 11 dX3_find_14 M_X2_rise q_474 (by decide) rfl rfl sh_11 rfl (Nat.le_of_ble_eq_true rfl) (k_X2_rise_11 h) ?_
  rintro _ _ ⟨rfl, r_3, rfl, h⟩
  refine Ev_lstore dX3_find_17 (by decide) rfl ?_
  refine Ev_aload_n dX3_find_19 3 rfl ?_
  refine Ev_iload_n dX3_find_20 5 rfl ?_
  refine Ev_invV (d' := 0) [(0, v3)] 11 dX3_find_21 M_X2_run q_470 (by decide) rfl rfl sh_11 rfl (Nat.le_of_ble_eq_true rfl) (k_X2_run_11 h) ?_
  rintro _ _ ⟨rfl, r_4, rfl, h⟩
  refine Ev_lstore dX3_find_24 (by decide) rfl ?_
  refine Ev_aload_n dX3_find_26 4 rfl ?_
  refine Ev_iload_n dX3_find_27 6 rfl ?_
  refine Ev_invV (d' := 0) [(0, v3)] 11 dX3_find_28 M_X2_rise q_474 (by decide) rfl rfl sh_11 rfl (Nat.le_of_ble_eq_true rfl) (k_X2_rise_11 h) ?_
  rintro _ _ ⟨rfl, r_5, rfl, h⟩
  refine Ev_lstore dX3_find_31 (by decide) rfl ?_
  refine Ev_aload_n dX3_find_33 5 rfl ?_
  refine Ev_getr 11 (12) dX3_find_34 f_RX3_24 rfl sh_11 rfl ?_
  refine Ev_iload_n dX3_find_37 7 rfl ?_
  obtain ⟨hb_6, h⟩ := h
  refine Ev_iald (12) dX3_find_38 rfl sh_12 hb_6 ?_
  refine Ev_aload_n dX3_find_39 5 rfl ?_
  refine Ev_getr 11 (12) dX3_find_40 f_RX3_24 rfl sh_11 rfl ?_
  refine Ev_iload_n dX3_find_43 6 rfl ?_
  obtain ⟨hb_7, h⟩ := h
  refine Ev_iald (12) dX3_find_44 rfl sh_12 hb_7 ?_
  refine Ev_isub dX3_find_45 ?_
  refine Ev_i2l dX3_find_46 ?_
  obtain ⟨v12_8, ev12_8⟩ : ∃ z : Int, z = w32 ((s_1 12 v3.toNat) - (s_1 12 v2.toNat)) := ⟨_, rfl⟩
  replace h := h v12_8 ev12_8
  rw [← ev12_8]
  refine Ev_lstore dX3_find_47 (by decide) rfl ?_
  refine Ev_aload_n dX3_find_49 6 rfl ?_
  refine Ev_getr 11 (13) dX3_find_50 f_RX3_28 rfl sh_11 rfl ?_
  refine Ev_iload_n dX3_find_53 8 rfl ?_
  obtain ⟨hb_9, h⟩ := h
  refine Ev_iald (13) dX3_find_54 rfl sh_13 hb_9 ?_
  refine Ev_aload_n dX3_find_55 6 rfl ?_
  refine Ev_getr 11 (13) dX3_find_56 f_RX3_28 rfl sh_11 rfl ?_
  refine Ev_iload_n dX3_find_59 7 rfl ?_
  obtain ⟨hb_10, h⟩ := h
  refine Ev_iald (13) dX3_find_60 rfl sh_13 hb_10 ?_
  refine Ev_isub dX3_find_61 ?_
  refine Ev_i2l dX3_find_62 ?_
  obtain ⟨v14_11, ev14_11⟩ : ∃ z : Int, z = w32 ((s_1 13 v3.toNat) - (s_1 13 v2.toNat)) := ⟨_, rfl⟩
  replace h := h v14_11 ev14_11
  rw [← ev14_11]
  refine Ev_lstore dX3_find_63 (by decide) rfl ?_
  refine Ev_lload dX3_find_65 5 rfl ?_
  refine Ev_lload dX3_find_67 2 rfl ?_
  refine Ev_lmul dX3_find_69 ?_
  refine Ev_lload dX3_find_70 4 rfl ?_
  refine Ev_lload dX3_find_72 3 rfl ?_
  refine Ev_lmul dX3_find_74 ?_
  refine Ev_lsub dX3_find_75 ?_
  obtain ⟨v16_12, ev16_12⟩ : ∃ z : Int, z = w64 ((w64 (r_2 * r_5)) - (w64 (r_3 * r_4))) := ⟨_, rfl⟩
  replace h := h v16_12 ev16_12
  rw [← ev16_12]
  refine Ev_lstore dX3_find_76 (by decide) rfl ?_
  refine Ev_lload dX3_find_78 0 rfl ?_
  refine Ev_lconst (v := 0) dX3_find_80 (by decide +kernel) ?_
  refine Ev_lcmp dX3_find_81 ?_
  refine Ev_if_ne (tgt := 107) dX3_find_82 (by decide) (fun hc => ?_) (fun hc => ?_)
  · replace h := h.1 (fun q => hc (lcmp_eq.mpr q))
    refine Ev_lload dX3_find_107 0 rfl ?_
    refine Ev_lconst (v := 0) dX3_find_109 (by decide +kernel) ?_
    refine Ev_lcmp dX3_find_110 ?_
    refine jc_1 (P := fun (t_13 : Int) => Ev mX3_find 2 119 [(0, (2, 33)), (1, (2, 11)), (2, (0, v2)), (4, (1, r_2)), (6, (1, r_3)), (8, (1, r_4)), (10, (1, r_5)), (12, (1, v12_8)), (14, (1, v14_11)), (16, (1, v16_12))] [(0, t_13)] s_1 (poV post)) h ?_ ?_
    · intro t_13 h
      refine Ev_istore dX3_find_119 (by decide) rfl ?_
      refine Ev_iload dX3_find_121 0 rfl ?_
      refine Ev_i2l dX3_find_123 ?_
      refine Ev_lload dX3_find_124 10 rfl ?_
      refine Ev_lmul dX3_find_126 ?_
      obtain ⟨v19_15, ev19_15⟩ : ∃ z : Int, z = w64 (t_13 * v16_12) := ⟨_, rfl⟩
      replace h := h v19_15 ev19_15
      rw [← ev19_15]
      refine Ev_lstore dX3_find_127 (by decide) rfl ?_
      refine Ev_iload dX3_find_129 1 rfl ?_
      refine Ev_i2l dX3_find_131 ?_
      refine Ev_lload dX3_find_132 9 rfl ?_
      refine Ev_lload dX3_find_134 8 rfl ?_
      refine Ev_lmul dX3_find_136 ?_
      refine Ev_lload dX3_find_137 10 rfl ?_
      refine Ev_lload dX3_find_139 7 rfl ?_
      refine Ev_lmul dX3_find_141 ?_
      refine Ev_lsub dX3_find_142 ?_
      refine Ev_lmul dX3_find_143 ?_
      obtain ⟨v21_16, ev21_16⟩ : ∃ z : Int, z = w64 (t_13 * (w64 ((w64 (v12_8 * r_5)) - (w64 (v14_11 * r_4))))) := ⟨_, rfl⟩
      replace h := h v21_16 ev21_16
      rw [← ev21_16]
      refine Ev_lstore dX3_find_144 (by decide) rfl ?_
      refine Ev_iload dX3_find_146 2 rfl ?_
      refine Ev_i2l dX3_find_148 ?_
      refine Ev_lload dX3_find_149 10 rfl ?_
      refine Ev_lload dX3_find_151 7 rfl ?_
      refine Ev_lmul dX3_find_153 ?_
      refine Ev_lload dX3_find_154 11 rfl ?_
      refine Ev_lload dX3_find_156 6 rfl ?_
      refine Ev_lmul dX3_find_158 ?_
      refine Ev_lsub dX3_find_159 ?_
      refine Ev_lmul dX3_find_160 ?_
      obtain ⟨v23_17, ev23_17⟩ : ∃ z : Int, z = w64 (t_13 * (w64 ((w64 (v12_8 * r_3)) - (w64 (v14_11 * r_2))))) := ⟨_, rfl⟩
      replace h := h v23_17 ev23_17
      rw [← ev23_17]
      refine Ev_lstore dX3_find_161 (by decide) rfl ?_
      refine Ev_lload dX3_find_163 1 rfl ?_
      refine Ev_lconst (v := 0) dX3_find_165 (by decide +kernel) ?_
      refine Ev_lcmp dX3_find_166 ?_
      refine jc_0 (P := Ev mX3_find 2 193 [] [] s_1 (poV post)) h ?_ ?_
      · intro  h
        exact Ev_retv dX3_find_193 rfl (poV_mk h)
      · intro K_18 hK_18 h
        refine Ev_if_lt (tgt := 193) dX3_find_167 (by decide) (fun hc => ?_) (fun hc => ?_)
        · replace h := h.1 (lcmp_lt.mp hc)
          refine Ev_sub [] rfl ?_
          exact hK_18 h
        · replace h := h.2 (fun q => hc (lcmp_lt.mpr q))
          refine Ev_lload dX3_find_170 1 rfl ?_
          refine Ev_lload dX3_find_172 2 rfl ?_
          refine Ev_lcmp dX3_find_174 ?_
          refine Ev_if_gt (tgt := 193) dX3_find_175 (by decide) (fun hc => ?_) (fun hc => ?_)
          · replace h := h.1 (lcmp_gt.mp hc)
            refine Ev_sub [] rfl ?_
            exact hK_18 h
          · replace h := h.2 (fun q => hc (lcmp_gt.mpr q))
            refine Ev_lload dX3_find_178 0 rfl ?_
            refine Ev_lconst (v := 0) dX3_find_180 (by decide +kernel) ?_
            refine Ev_lcmp dX3_find_181 ?_
            refine Ev_if_lt (tgt := 193) dX3_find_182 (by decide) (fun hc => ?_) (fun hc => ?_)
            · replace h := h.1 (lcmp_lt.mp hc)
              refine Ev_sub [] rfl ?_
              exact hK_18 h
            · replace h := h.2 (fun q => hc (lcmp_lt.mpr q))
              refine Ev_lload dX3_find_185 0 rfl ?_
              refine Ev_lload dX3_find_187 2 rfl ?_
              refine Ev_lcmp dX3_find_189 ?_
              refine Ev_if_le (tgt := 194) dX3_find_190 (by decide) (fun hc => ?_) (fun hc => ?_)
              · replace h := h.1 (lcmp_le.mp hc)
                refine Ev_lload dX3_find_194 1 rfl ?_
                refine Ev_lconst (v := 0) dX3_find_196 (by decide +kernel) ?_
                refine Ev_lcmp dX3_find_197 ?_
                refine jc_1 (P := fun (t_19 : Int) => Ev mX3_find 2 229 [(0, (2, 33)), (1, (2, 11)), (2, (0, v2)), (4, (1, r_2)), (6, (1, r_3)), (19, (1, v19_15)), (21, (1, v21_16))] [(0, t_19)] s_1 (poV post)) h ?_ ?_
                · intro t_19 h
                  refine Ev_istore dX3_find_229 (by decide) rfl ?_
                  refine Ev_aload_n dX3_find_231 1 rfl ?_
                  refine Ev_iload dX3_find_232 0 rfl ?_
                  refine jc_1 (P := fun (t_21 : Int) => Ev mX3_find 2 242 [(0, (2, 33)), (1, (2, 11)), (2, (0, v2)), (4, (1, r_2)), (6, (1, r_3)), (19, (1, v19_15)), (21, (1, v21_16))] [(0, t_21), (2, 33)] s_1 (poV post)) h ?_ ?_
                  · intro t_21 h
                    obtain ⟨s_23, es_23⟩ : ∃ z : Sg, z = (up s_1 33 0 t_21) := ⟨_, rfl⟩
                    replace h := h s_23 es_23
                    refine Ev_puti 33 dX3_find_242 fp_RX3_9 rfl sh_33 ?_
                    rw [← es_23]
                    refine Ev_aload_n dX3_find_245 0 rfl ?_
                    refine Ev_aload_n dX3_find_246 1 rfl ?_
                    refine Ev_getr 11 (12) dX3_find_247 f_RX3_24 rfl sh_11 rfl ?_
                    refine Ev_iload_n dX3_find_250 2 rfl ?_
                    obtain ⟨hb_24, h⟩ := h
                    refine Ev_iald (12) dX3_find_251 rfl sh_12 hb_24 ?_
                    refine Ev_i2l dX3_find_252 ?_
                    refine Ev_lload dX3_find_253 5 rfl ?_
                    refine Ev_lmul dX3_find_255 ?_
                    refine Ev_lload dX3_find_256 6 rfl ?_
                    refine Ev_lload dX3_find_258 3 rfl ?_
                    refine Ev_lmul dX3_find_260 ?_
                    refine Ev_ladd dX3_find_261 ?_
                    refine Ev_aload_n dX3_find_262 1 rfl ?_
                    refine Ev_getr 11 (13) dX3_find_263 f_RX3_28 rfl sh_11 rfl ?_
                    refine Ev_iload_n dX3_find_266 2 rfl ?_
                    obtain ⟨hb_25, h⟩ := h
                    refine Ev_iald (13) dX3_find_267 rfl sh_13 hb_25 ?_
                    refine Ev_i2l dX3_find_268 ?_
                    refine Ev_lload dX3_find_269 5 rfl ?_
                    refine Ev_lmul dX3_find_271 ?_
                    refine Ev_lload dX3_find_272 6 rfl ?_
                    refine Ev_lload dX3_find_274 4 rfl ?_
                    refine Ev_lmul dX3_find_276 ?_
                    refine Ev_ladd dX3_find_277 ?_
                    refine Ev_lload dX3_find_278 5 rfl ?_
                    refine Ev_invV (d' := 1) [(1, w64 ((w64 ((s_23 12 v2.toNat) * v19_15)) + (w64 (v21_16 * r_2)))), (1, w64 ((w64 ((s_23 13 v2.toNat) * v19_15)) + (w64 (v21_16 * r_3)))), (1, v19_15)] 33 dX3_find_280 M_X3_layAt q_485 (by decide) rfl rfl sh_33 rfl (Nat.le_of_ble_eq_true rfl) (k_X3_layAt_33 h) ?_
                    rintro _ s_26 ⟨rfl, h⟩
                    exact Ev_retv dX3_find_283 rfl (poV_mk h)
                  · intro K_22 hK_22 h
                    refine Ev_if_eq (tgt := 241) dX3_find_234 (by decide) (fun hc => ?_) (fun hc => ?_)
                    · replace h := h.1 hc
                      refine Ev_iconst (v := 2) dX3_find_241 rfl ⟨by decide, by decide⟩ ?_
                      refine Ev_sub [1, 2, 3, 4, 5, 6, 7] rfl ?_
                      exact hK_22 _ h
                    · replace h := h.2 hc
                      refine Ev_iconst (v := 1) dX3_find_237 rfl ⟨by decide, by decide⟩ ?_
                      refine Ev_goto (tgt := 242) dX3_find_238 (by decide) ?_
                      refine Ev_sub [1, 2, 3, 4, 5, 6, 7] rfl ?_
                      exact hK_22 _ h
                · intro K_20 hK_20 h
                  refine jc_0 (P := Ev mX3_find 2 228 [(0, (2, 33)), (1, (2, 11)), (2, (0, v2)), (4, (1, r_2)), (6, (1, r_3)), (19, (1, v19_15)), (21, (1, v21_16))] [] s_1 (poV post)) h ?_ ?_
                  · intro  h
                    refine Ev_iconst (v := 0) dX3_find_228 rfl ⟨by decide, by decide⟩ ?_
                    exact hK_20 _ h
                  · intro K_27 hK_27 h
                    refine Ev_if_le (tgt := 228) dX3_find_198 (by decide) (fun hc => ?_) (fun hc => ?_)
                    · replace h := h.1 (lcmp_le.mp hc)
                      refine Ev_sub [4, 5, 6, 7, 8, 2, 1] rfl ?_
                      exact hK_27 h
                    · replace h := h.2 (fun q => hc (lcmp_le.mpr q))
                      refine Ev_lload dX3_find_201 1 rfl ?_
                      refine Ev_lload dX3_find_203 2 rfl ?_
                      refine Ev_lcmp dX3_find_205 ?_
                      refine Ev_if_ge (tgt := 228) dX3_find_206 (by decide) (fun hc => ?_) (fun hc => ?_)
                      · replace h := h.1 (lcmp_ge.mp hc)
                        refine Ev_sub [4, 5, 6, 7, 8, 2, 1] rfl ?_
                        exact hK_27 h
                      · replace h := h.2 (fun q => hc (lcmp_ge.mpr q))
                        refine Ev_lload dX3_find_209 0 rfl ?_
                        refine Ev_lconst (v := 0) dX3_find_211 (by decide +kernel) ?_
                        refine Ev_lcmp dX3_find_212 ?_
                        refine Ev_if_le (tgt := 228) dX3_find_213 (by decide) (fun hc => ?_) (fun hc => ?_)
                        · replace h := h.1 (lcmp_le.mp hc)
                          refine Ev_sub [4, 5, 6, 7, 8, 2, 1] rfl ?_
                          exact hK_27 h
                        · replace h := h.2 (fun q => hc (lcmp_le.mpr q))
                          refine Ev_lload dX3_find_216 0 rfl ?_
                          refine Ev_lload dX3_find_218 2 rfl ?_
                          refine Ev_lcmp dX3_find_220 ?_
                          refine Ev_if_ge (tgt := 228) dX3_find_221 (by decide) (fun hc => ?_) (fun hc => ?_)
                          · replace h := h.1 (lcmp_ge.mp hc)
                            refine Ev_sub [4, 5, 6, 7, 8, 2, 1] rfl ?_
                            exact hK_27 h
                          · replace h := h.2 (fun q => hc (lcmp_ge.mpr q))
                            refine Ev_iconst (v := 1) dX3_find_224 rfl ⟨by decide, by decide⟩ ?_
                            refine Ev_goto (tgt := 229) dX3_find_225 (by decide) ?_
                            refine Ev_sub [4, 5, 6, 7, 8, 2, 1] rfl ?_
                            exact hK_20 _ h
              · replace h := h.2 (fun q => hc (lcmp_le.mpr q))
                refine Ev_sub [] rfl ?_
                exact hK_18 h
    · intro K_14 hK_14 h
      refine Ev_if_ge (tgt := 118) dX3_find_111 (by decide) (fun hc => ?_) (fun hc => ?_)
      · replace h := h.1 (lcmp_ge.mp hc)
        refine Ev_iconst (v := 1) dX3_find_118 rfl ⟨by decide, by decide⟩ ?_
        refine Ev_sub [7, 8, 9, 6, 5, 4, 3, 2, 1, 0] rfl ?_
        exact hK_14 _ h
      · replace h := h.2 (fun q => hc (lcmp_ge.mpr q))
        refine Ev_iconst (v := -1) dX3_find_114 rfl ⟨by decide, by decide⟩ ?_
        refine Ev_goto (tgt := 119) dX3_find_115 (by decide) ?_
        refine Ev_sub [7, 8, 9, 6, 5, 4, 3, 2, 1, 0] rfl ?_
        exact hK_14 _ h
  · replace h := h.2 (lcmp_eq.mp hc)
    refine Ev_lload dX3_find_85 6 rfl ?_
    refine Ev_lload dX3_find_87 1 rfl ?_
    refine Ev_lmul dX3_find_89 ?_
    refine Ev_lload dX3_find_90 5 rfl ?_
    refine Ev_lload dX3_find_92 2 rfl ?_
    refine Ev_lmul dX3_find_94 ?_
    refine Ev_lcmp dX3_find_95 ?_
    refine jc_0s (P := fun (s_28 : Sg) => Ev mX3_find 2 106 [] [] s_28 (poV post)) h ?_ ?_
    · intro s_28 h
      exact Ev_retv dX3_find_106 rfl (poV_mk h)
    · intro K_29 hK_29 h
      refine Ev_if_ne (tgt := 106) dX3_find_96 (by decide) (fun hc => ?_) (fun hc => ?_)
      · replace h := h.1 (fun q => hc (lcmp_eq.mpr q))
        refine Ev_sub [] rfl ?_
        exact hK_29 _ h
      · replace h := h.2 (lcmp_eq.mp hc)
        refine Ev_aload_n dX3_find_99 7 rfl ?_
        refine Ev_aload_n dX3_find_100 8 rfl ?_
        refine Ev_iload_n dX3_find_101 9 rfl ?_
        refine Ev_iload_n dX3_find_102 10 rfl ?_
        refine Ev_invV (d' := 1) [(2, 11), (0, v2), (0, v3)] 33 dX3_find_103 M_X3_findInOneRow q_478 (by decide) rfl rfl sh_33 rfl (Nat.le_of_ble_eq_true rfl) (k_X3_findInOneRow_33_11 h) ?_
        rintro _ s_30 ⟨rfl, h⟩
        refine Ev_sub [] rfl ?_
        exact hK_29 _ h
theorem k_X3_find_34_1 {s : Sg} {v2 v3 : Int} {post : Sg → Prop} (h : w_X3_find s 34 1 v2 v3 post) : EvM mX3_find 2 [(2, 34), (2, 1), (0, v2), (0, v3)] s (poV post) := by
  refine EvM_of rfl (by decide +kernel) (Nat.le_of_ble_eq_true rfl) ?_
  unfold w_X3_find at h
  show Ev mX3_find 2 0 [(0, (2, 34)), (1, (2, 1)), (2, (0, v2)), (3, (0, v3))] [] s (poV post)
  refine Ev_aload_n dX3_find_0 0 rfl ?_
  refine Ev_iconst (v := 0) dX3_find_1 rfl ⟨by decide, by decide⟩ ?_
  obtain ⟨s_1, es_1⟩ : ∃ z : Sg, z = (up s 34 0 0) := ⟨_, rfl⟩
  replace h := h s_1 es_1
  refine Ev_puti 34 dX3_find_2 fp_RX3_9 rfl sh_34 ?_
  rw [← es_1]
  refine Ev_aload_n dX3_find_5 1 rfl ?_
  refine Ev_iload_n dX3_find_6 2 rfl ?_
  refine Ev_invV (d' := 0) [(0, v2)] 1 dX3_find_7 M_X2_run q_470 (by decide) rfl rfl sh_1 rfl (Nat.le_of_ble_eq_true rfl) (k_X2_run_1 h) ?_
  rintro _ _ ⟨rfl, r_2, rfl, h⟩
  refine Ev_lstore dX3_find_10 (by decide) rfl ?_
  refine Ev_aload_n dX3_find_12 2 rfl ?_
  refine Ev_iload_n dX3_find_13 3 rfl ?_
  refine Ev_invV (d' := 0) [(0, v2)] 1 dX3_find_14 M_X2_rise q_474 (by decide) rfl rfl sh_1 rfl (Nat.le_of_ble_eq_true rfl) (k_X2_rise_1 h) ?_
  rintro _ _ ⟨rfl, r_3, rfl, h⟩
  refine Ev_lstore dX3_find_17 (by decide) rfl ?_
  refine Ev_aload_n dX3_find_19 3 rfl ?_
  refine Ev_iload_n dX3_find_20 5 rfl ?_
  refine Ev_invV (d' := 0) [(0, v3)] 1 dX3_find_21 M_X2_run q_470 (by decide) rfl rfl sh_1 rfl (Nat.le_of_ble_eq_true rfl) (k_X2_run_1 h) ?_
  rintro _ _ ⟨rfl, r_4, rfl, h⟩
  refine Ev_lstore dX3_find_24 (by decide) rfl ?_
  refine Ev_aload_n dX3_find_26 4 rfl ?_
  refine Ev_iload_n dX3_find_27 6 rfl ?_
  refine Ev_invV (d' := 0) [(0, v3)] 1 dX3_find_28 M_X2_rise q_474 (by decide) rfl rfl sh_1 rfl (Nat.le_of_ble_eq_true rfl) (k_X2_rise_1 h) ?_
  rintro _ _ ⟨rfl, r_5, rfl, h⟩
  refine Ev_lstore dX3_find_31 (by decide) rfl ?_
  refine Ev_aload_n dX3_find_33 5 rfl ?_
  refine Ev_getr 1 (2) dX3_find_34 f_RX3_24 rfl sh_1 rfl ?_
  refine Ev_iload_n dX3_find_37 7 rfl ?_
  obtain ⟨hb_6, h⟩ := h
  refine Ev_iald (2) dX3_find_38 rfl sh_2 hb_6 ?_
  refine Ev_aload_n dX3_find_39 5 rfl ?_
  refine Ev_getr 1 (2) dX3_find_40 f_RX3_24 rfl sh_1 rfl ?_
  refine Ev_iload_n dX3_find_43 6 rfl ?_
  obtain ⟨hb_7, h⟩ := h
  refine Ev_iald (2) dX3_find_44 rfl sh_2 hb_7 ?_
  refine Ev_isub dX3_find_45 ?_
  refine Ev_i2l dX3_find_46 ?_
  obtain ⟨v12_8, ev12_8⟩ : ∃ z : Int, z = w32 ((s_1 2 v3.toNat) - (s_1 2 v2.toNat)) := ⟨_, rfl⟩
  replace h := h v12_8 ev12_8
  rw [← ev12_8]
  refine Ev_lstore dX3_find_47 (by decide) rfl ?_
  refine Ev_aload_n dX3_find_49 6 rfl ?_
  refine Ev_getr 1 (3) dX3_find_50 f_RX3_28 rfl sh_1 rfl ?_
  refine Ev_iload_n dX3_find_53 8 rfl ?_
  obtain ⟨hb_9, h⟩ := h
  refine Ev_iald (3) dX3_find_54 rfl sh_3 hb_9 ?_
  refine Ev_aload_n dX3_find_55 6 rfl ?_
  refine Ev_getr 1 (3) dX3_find_56 f_RX3_28 rfl sh_1 rfl ?_
  refine Ev_iload_n dX3_find_59 7 rfl ?_
  obtain ⟨hb_10, h⟩ := h
  refine Ev_iald (3) dX3_find_60 rfl sh_3 hb_10 ?_
  refine Ev_isub dX3_find_61 ?_
  refine Ev_i2l dX3_find_62 ?_
  obtain ⟨v14_11, ev14_11⟩ : ∃ z : Int, z = w32 ((s_1 3 v3.toNat) - (s_1 3 v2.toNat)) := ⟨_, rfl⟩
  replace h := h v14_11 ev14_11
  rw [← ev14_11]
  refine Ev_lstore dX3_find_63 (by decide) rfl ?_
  refine Ev_lload dX3_find_65 5 rfl ?_
  refine Ev_lload dX3_find_67 2 rfl ?_
  refine Ev_lmul dX3_find_69 ?_
  refine Ev_lload dX3_find_70 4 rfl ?_
  refine Ev_lload dX3_find_72 3 rfl ?_
  refine Ev_lmul dX3_find_74 ?_
  refine Ev_lsub dX3_find_75 ?_
  obtain ⟨v16_12, ev16_12⟩ : ∃ z : Int, z = w64 ((w64 (r_2 * r_5)) - (w64 (r_3 * r_4))) := ⟨_, rfl⟩
  replace h := h v16_12 ev16_12
  rw [← ev16_12]
  refine Ev_lstore dX3_find_76 (by decide) rfl ?_
  refine Ev_lload dX3_find_78 0 rfl ?_
  refine Ev_lconst (v := 0) dX3_find_80 (by decide +kernel) ?_
  refine Ev_lcmp dX3_find_81 ?_
  refine Ev_if_ne (tgt := 107) dX3_find_82 (by decide) (fun hc => ?_) (fun hc => ?_)
  · replace h := h.1 (fun q => hc (lcmp_eq.mpr q))
    refine Ev_lload dX3_find_107 0 rfl ?_
    refine Ev_lconst (v := 0) dX3_find_109 (by decide +kernel) ?_
    refine Ev_lcmp dX3_find_110 ?_
    refine jc_1 (P := fun (t_13 : Int) => Ev mX3_find 2 119 [(0, (2, 34)), (1, (2, 1)), (2, (0, v2)), (4, (1, r_2)), (6, (1, r_3)), (8, (1, r_4)), (10, (1, r_5)), (12, (1, v12_8)), (14, (1, v14_11)), (16, (1, v16_12))] [(0, t_13)] s_1 (poV post)) h ?_ ?_
    · intro t_13 h
      refine Ev_istore dX3_find_119 (by decide) rfl ?_
      refine Ev_iload dX3_find_121 0 rfl ?_
      refine Ev_i2l dX3_find_123 ?_
      refine Ev_lload dX3_find_124 10 rfl ?_
      refine Ev_lmul dX3_find_126 ?_
      obtain ⟨v19_15, ev19_15⟩ : ∃ z : Int, z = w64 (t_13 * v16_12) := ⟨_, rfl⟩
      replace h := h v19_15 ev19_15
      rw [← ev19_15]
      refine Ev_lstore dX3_find_127 (by decide) rfl ?_
      refine Ev_iload dX3_find_129 1 rfl ?_
      refine Ev_i2l dX3_find_131 ?_
      refine Ev_lload dX3_find_132 9 rfl ?_
      refine Ev_lload dX3_find_134 8 rfl ?_
      refine Ev_lmul dX3_find_136 ?_
      refine Ev_lload dX3_find_137 10 rfl ?_
      refine Ev_lload dX3_find_139 7 rfl ?_
      refine Ev_lmul dX3_find_141 ?_
      refine Ev_lsub dX3_find_142 ?_
      refine Ev_lmul dX3_find_143 ?_
      obtain ⟨v21_16, ev21_16⟩ : ∃ z : Int, z = w64 (t_13 * (w64 ((w64 (v12_8 * r_5)) - (w64 (v14_11 * r_4))))) := ⟨_, rfl⟩
      replace h := h v21_16 ev21_16
      rw [← ev21_16]
      refine Ev_lstore dX3_find_144 (by decide) rfl ?_
      refine Ev_iload dX3_find_146 2 rfl ?_
      refine Ev_i2l dX3_find_148 ?_
      refine Ev_lload dX3_find_149 10 rfl ?_
      refine Ev_lload dX3_find_151 7 rfl ?_
      refine Ev_lmul dX3_find_153 ?_
      refine Ev_lload dX3_find_154 11 rfl ?_
      refine Ev_lload dX3_find_156 6 rfl ?_
      refine Ev_lmul dX3_find_158 ?_
      refine Ev_lsub dX3_find_159 ?_
      refine Ev_lmul dX3_find_160 ?_
      obtain ⟨v23_17, ev23_17⟩ : ∃ z : Int, z = w64 (t_13 * (w64 ((w64 (v12_8 * r_3)) - (w64 (v14_11 * r_2))))) := ⟨_, rfl⟩
      replace h := h v23_17 ev23_17
      rw [← ev23_17]
      refine Ev_lstore dX3_find_161 (by decide) rfl ?_
      refine Ev_lload dX3_find_163 1 rfl ?_
      refine Ev_lconst (v := 0) dX3_find_165 (by decide +kernel) ?_
      refine Ev_lcmp dX3_find_166 ?_
      refine jc_0 (P := Ev mX3_find 2 193 [] [] s_1 (poV post)) h ?_ ?_
      · intro  h
        exact Ev_retv dX3_find_193 rfl (poV_mk h)
      · intro K_18 hK_18 h
        refine Ev_if_lt (tgt := 193) dX3_find_167 (by decide) (fun hc => ?_) (fun hc => ?_)
        · replace h := h.1 (lcmp_lt.mp hc)
          refine Ev_sub [] rfl ?_
          exact hK_18 h
        · replace h := h.2 (fun q => hc (lcmp_lt.mpr q))
          refine Ev_lload dX3_find_170 1 rfl ?_
          refine Ev_lload dX3_find_172 2 rfl ?_
          refine Ev_lcmp dX3_find_174 ?_
          refine Ev_if_gt (tgt := 193) dX3_find_175 (by decide) (fun hc => ?_) (fun hc => ?_)
          · replace h := h.1 (lcmp_gt.mp hc)
            refine Ev_sub [] rfl ?_
            exact hK_18 h
          · replace h := h.2 (fun q => hc (lcmp_gt.mpr q))
            refine Ev_lload dX3_find_178 0 rfl ?_
            refine Ev_lconst (v := 0) dX3_find_180 (by decide +kernel) ?_
            refine Ev_lcmp dX3_find_181 ?_
            refine Ev_if_lt (tgt := 193) dX3_find_182 (by decide) (fun hc => ?_) (fun hc => ?_)
            · replace h := h.1 (lcmp_lt.mp hc)
              refine Ev_sub [] rfl ?_
              exact hK_18 h
            · replace h := h.2 (fun q => hc (lcmp_lt.mpr q))
              refine Ev_lload dX3_find_185 0 rfl ?_
              refine Ev_lload dX3_find_187 2 rfl ?_
              refine Ev_lcmp dX3_find_189 ?_
              refine Ev_if_le (tgt := 194) dX3_find_190 (by decide) (fun hc => ?_) (fun hc => ?_)
              · replace h := h.1 (lcmp_le.mp hc)
                refine Ev_lload dX3_find_194 1 rfl ?_
                refine Ev_lconst (v := 0) dX3_find_196 (by decide +kernel) ?_
                refine Ev_lcmp dX3_find_197 ?_
                refine jc_1 (P := fun (t_19 : Int) => Ev mX3_find 2 229 [(0, (2, 34)), (1, (2, 1)), (2, (0, v2)), (4, (1, r_2)), (6, (1, r_3)), (19, (1, v19_15)), (21, (1, v21_16))] [(0, t_19)] s_1 (poV post)) h ?_ ?_
                · intro t_19 h
                  refine Ev_istore dX3_find_229 (by decide) rfl ?_
                  refine Ev_aload_n dX3_find_231 1 rfl ?_
                  refine Ev_iload dX3_find_232 0 rfl ?_
                  refine jc_1 (P := fun (t_21 : Int) => Ev mX3_find 2 242 [(0, (2, 34)), (1, (2, 1)), (2, (0, v2)), (4, (1, r_2)), (6, (1, r_3)), (19, (1, v19_15)), (21, (1, v21_16))] [(0, t_21), (2, 34)] s_1 (poV post)) h ?_ ?_
                  · intro t_21 h
                    obtain ⟨s_23, es_23⟩ : ∃ z : Sg, z = (up s_1 34 0 t_21) := ⟨_, rfl⟩
                    replace h := h s_23 es_23
                    refine Ev_puti 34 dX3_find_242 fp_RX3_9 rfl sh_34 ?_
                    rw [← es_23]
                    refine Ev_aload_n dX3_find_245 0 rfl ?_
                    refine Ev_aload_n dX3_find_246 1 rfl ?_
                    refine Ev_getr 1 (2) dX3_find_247 f_RX3_24 rfl sh_1 rfl ?_
                    refine Ev_iload_n dX3_find_250 2 rfl ?_
                    obtain ⟨hb_24, h⟩ := h
                    refine Ev_iald (2) dX3_find_251 rfl sh_2 hb_24 ?_
                    refine Ev_i2l dX3_find_252 ?_
                    refine Ev_lload dX3_find_253 5 rfl ?_
                    refine Ev_lmul dX3_find_255 ?_
                    refine Ev_lload dX3_find_256 6 rfl ?_
                    refine Ev_lload dX3_find_258 3 rfl ?_
                    refine Ev_lmul dX3_find_260 ?_
                    refine Ev_ladd dX3_find_261 ?_
                    refine Ev_aload_n dX3_find_262 1 rfl ?_
                    refine Ev_getr 1 (3) dX3_find_263 f_RX3_28 rfl sh_1 rfl ?_
                    refine Ev_iload_n dX3_find_266 2 rfl ?_
                    obtain ⟨hb_25, h⟩ := h
                    refine Ev_iald (3) dX3_find_267 rfl sh_3 hb_25 ?_
                    refine Ev_i2l dX3_find_268 ?_
                    refine Ev_lload dX3_find_269 5 rfl ?_
                    refine Ev_lmul dX3_find_271 ?_
                    refine Ev_lload dX3_find_272 6 rfl ?_
                    refine Ev_lload dX3_find_274 4 rfl ?_
                    refine Ev_lmul dX3_find_276 ?_
                    refine Ev_ladd dX3_find_277 ?_
                    refine Ev_lload dX3_find_278 5 rfl ?_
                    refine Ev_invV (d' := 1) [(1, w64 ((w64 ((s_23 2 v2.toNat) * v19_15)) + (w64 (v21_16 * r_2)))), (1, w64 ((w64 ((s_23 3 v2.toNat) * v19_15)) + (w64 (v21_16 * r_3)))), (1, v19_15)] 34 dX3_find_280 M_X3_layAt q_485 (by decide) rfl rfl sh_34 rfl (Nat.le_of_ble_eq_true rfl) (k_X3_layAt_34 h) ?_
                    rintro _ s_26 ⟨rfl, h⟩
                    exact Ev_retv dX3_find_283 rfl (poV_mk h)
                  · intro K_22 hK_22 h
                    refine Ev_if_eq (tgt := 241) dX3_find_234 (by decide) (fun hc => ?_) (fun hc => ?_)
                    · replace h := h.1 hc
                      refine Ev_iconst (v := 2) dX3_find_241 rfl ⟨by decide, by decide⟩ ?_
                      refine Ev_sub [1, 2, 3, 4, 5, 6, 7] rfl ?_
                      exact hK_22 _ h
                    · replace h := h.2 hc
                      refine Ev_iconst (v := 1) dX3_find_237 rfl ⟨by decide, by decide⟩ ?_
                      refine Ev_goto (tgt := 242) dX3_find_238 (by decide) ?_
                      refine Ev_sub [1, 2, 3, 4, 5, 6, 7] rfl ?_
                      exact hK_22 _ h
                · intro K_20 hK_20 h
                  refine jc_0 (P := Ev mX3_find 2 228 [(0, (2, 34)), (1, (2, 1)), (2, (0, v2)), (4, (1, r_2)), (6, (1, r_3)), (19, (1, v19_15)), (21, (1, v21_16))] [] s_1 (poV post)) h ?_ ?_
                  · intro  h
                    refine Ev_iconst (v := 0) dX3_find_228 rfl ⟨by decide, by decide⟩ ?_
                    exact hK_20 _ h
                  · intro K_27 hK_27 h
                    refine Ev_if_le (tgt := 228) dX3_find_198 (by decide) (fun hc => ?_) (fun hc => ?_)
                    · replace h := h.1 (lcmp_le.mp hc)
                      refine Ev_sub [4, 5, 6, 7, 8, 2, 1] rfl ?_
                      exact hK_27 h
                    · replace h := h.2 (fun q => hc (lcmp_le.mpr q))
                      refine Ev_lload dX3_find_201 1 rfl ?_
                      refine Ev_lload dX3_find_203 2 rfl ?_
                      refine Ev_lcmp dX3_find_205 ?_
                      refine Ev_if_ge (tgt := 228) dX3_find_206 (by decide) (fun hc => ?_) (fun hc => ?_)
                      · replace h := h.1 (lcmp_ge.mp hc)
                        refine Ev_sub [4, 5, 6, 7, 8, 2, 1] rfl ?_
                        exact hK_27 h
                      · replace h := h.2 (fun q => hc (lcmp_ge.mpr q))
                        refine Ev_lload dX3_find_209 0 rfl ?_
                        refine Ev_lconst (v := 0) dX3_find_211 (by decide +kernel) ?_
                        refine Ev_lcmp dX3_find_212 ?_
                        refine Ev_if_le (tgt := 228) dX3_find_213 (by decide) (fun hc => ?_) (fun hc => ?_)
                        · replace h := h.1 (lcmp_le.mp hc)
                          refine Ev_sub [4, 5, 6, 7, 8, 2, 1] rfl ?_
                          exact hK_27 h
                        · replace h := h.2 (fun q => hc (lcmp_le.mpr q))
                          refine Ev_lload dX3_find_216 0 rfl ?_
                          refine Ev_lload dX3_find_218 2 rfl ?_
                          refine Ev_lcmp dX3_find_220 ?_
                          refine Ev_if_ge (tgt := 228) dX3_find_221 (by decide) (fun hc => ?_) (fun hc => ?_)
                          · replace h := h.1 (lcmp_ge.mp hc)
                            refine Ev_sub [4, 5, 6, 7, 8, 2, 1] rfl ?_
                            exact hK_27 h
                          · replace h := h.2 (fun q => hc (lcmp_ge.mpr q))
                            refine Ev_iconst (v := 1) dX3_find_224 rfl ⟨by decide, by decide⟩ ?_
                            refine Ev_goto (tgt := 229) dX3_find_225 (by decide) ?_
                            refine Ev_sub [4, 5, 6, 7, 8, 2, 1] rfl ?_
                            exact hK_20 _ h
              · replace h := h.2 (fun q => hc (lcmp_le.mpr q))
                refine Ev_sub [] rfl ?_
                exact hK_18 h
    · intro K_14 hK_14 h
      refine Ev_if_ge (tgt := 118) dX3_find_111 (by decide) (fun hc => ?_) (fun hc => ?_)
      · replace h := h.1 (lcmp_ge.mp hc)
        refine Ev_iconst (v := 1) dX3_find_118 rfl ⟨by decide, by decide⟩ ?_
        refine Ev_sub [7, 8, 9, 6, 5, 4, 3, 2, 1, 0] rfl ?_
        exact hK_14 _ h
      · replace h := h.2 (fun q => hc (lcmp_ge.mpr q))
        refine Ev_iconst (v := -1) dX3_find_114 rfl ⟨by decide, by decide⟩ ?_
        refine Ev_goto (tgt := 119) dX3_find_115 (by decide) ?_
        refine Ev_sub [7, 8, 9, 6, 5, 4, 3, 2, 1, 0] rfl ?_
        exact hK_14 _ h
  · replace h := h.2 (lcmp_eq.mp hc)
    refine Ev_lload dX3_find_85 6 rfl ?_
    refine Ev_lload dX3_find_87 1 rfl ?_
    refine Ev_lmul dX3_find_89 ?_
    refine Ev_lload dX3_find_90 5 rfl ?_
    refine Ev_lload dX3_find_92 2 rfl ?_
    refine Ev_lmul dX3_find_94 ?_
    refine Ev_lcmp dX3_find_95 ?_
    refine jc_0s (P := fun (s_28 : Sg) => Ev mX3_find 2 106 [] [] s_28 (poV post)) h ?_ ?_
    · intro s_28 h
      exact Ev_retv dX3_find_106 rfl (poV_mk h)
    · intro K_29 hK_29 h
      refine Ev_if_ne (tgt := 106) dX3_find_96 (by decide) (fun hc => ?_) (fun hc => ?_)
      · replace h := h.1 (fun q => hc (lcmp_eq.mpr q))
        refine Ev_sub [] rfl ?_
        exact hK_29 _ h
      · replace h := h.2 (lcmp_eq.mp hc)
        refine Ev_aload_n dX3_find_99 7 rfl ?_
        refine Ev_aload_n dX3_find_100 8 rfl ?_
        refine Ev_iload_n dX3_find_101 9 rfl ?_
        refine Ev_iload_n dX3_find_102 10 rfl ?_
        refine Ev_invV (d' := 1) [(2, 1), (0, v2), (0, v3)] 34 dX3_find_103 M_X3_findInOneRow q_478 (by decide) rfl rfl sh_34 rfl (Nat.le_of_ble_eq_true rfl) (k_X3_findInOneRow_34_1 h) ?_
        rintro _ s_30 ⟨rfl, h⟩
        refine Ev_sub [] rfl ?_
        exact hK_29 _ h
theorem k_X3_isAtOnePlace {s : Sg} {post : Int → Prop} (h : w_X3_isAtOnePlace s post) : EvM mX3_isAtOnePlace 0 [(2, 34)] s (poI 0 s post) := by
  refine EvM_of rfl (by decide +kernel) (Nat.le_of_ble_eq_true rfl) ?_
  unfold w_X3_isAtOnePlace at h
  show Ev mX3_isAtOnePlace 0 0 [(0, (2, 34))] [] s (poI 0 s post)
  refine Ev_aload_n dX3_isAtOnePlace_0 0 rfl ?_
  refine Ev_geti 34 dX3_isAtOnePlace_1 f_RX3_9 rfl sh_34 ?_
  refine Ev_iconst (v := 1) dX3_isAtOnePlace_4 rfl ⟨by decide, by decide⟩ ?_
  refine jc_1 (P := fun (t_1 : Int) => Ev mX3_isAtOnePlace 0 21 [] [(0, t_1)] s (poI 0 s post)) h ?_ ?_
  · intro t_1 h
    obtain ⟨hz, h⟩ := h
    exact Ev_ret dX3_isAtOnePlace_21 hz (poI_mk h)
  · intro K_2 hK_2 h
    refine jc_0 (P := Ev mX3_isAtOnePlace 0 16 [] [] s (poI 0 s post)) h ?_ ?_
    · intro  h
      refine Ev_iconst (v := 1) dX3_isAtOnePlace_16 rfl ⟨by decide, by decide⟩ ?_
      refine Ev_goto (tgt := 21) dX3_isAtOnePlace_17 (by decide) ?_
      exact hK_2 _ h
    · intro K_3 hK_3 h
      refine Ev_icmp_eq (tgt := 16) dX3_isAtOnePlace_5 (by decide) (fun hc => ?_) (fun hc => ?_)
      · replace h := h.1 hc
        refine Ev_sub [] rfl ?_
        exact hK_3 h
      · replace h := h.2 hc
        refine Ev_aload_n dX3_isAtOnePlace_8 0 rfl ?_
        refine Ev_geti 34 dX3_isAtOnePlace_9 f_RX3_9 rfl sh_34 ?_
        refine Ev_iconst (v := 2) dX3_isAtOnePlace_12 rfl ⟨by decide, by decide⟩ ?_
        refine Ev_icmp_ne (tgt := 20) dX3_isAtOnePlace_13 (by decide) (fun hc => ?_) (fun hc => ?_)
        · replace h := h.1 hc
          refine Ev_iconst (v := 0) dX3_isAtOnePlace_20 rfl ⟨by decide, by decide⟩ ?_
          refine Ev_sub [] rfl ?_
          exact hK_2 _ h
        · replace h := h.2 hc
          refine Ev_sub [] rfl ?_
          exact hK_3 h
theorem k_X9_compareFractions {s : Sg} {v0 v2 v4 v6 : Int} {post : Int → Prop} (h : w_X9_compareFractions v0 v2 v4 v6 post) : EvM mX9_compareFractions 0 [(1, v0), (1, v2), (1, v4), (1, v6)] s (poI 0 s post) := by
  refine EvM_of rfl (by decide +kernel) (Nat.le_of_ble_eq_true rfl) ?_
  unfold w_X9_compareFractions at h
  show Ev mX9_compareFractions 0 0 [(0, (1, v0)), (2, (1, v2)), (4, (1, v4)), (6, (1, v6))] [] s (poI 0 s post)
  refine Ev_lload_n dX9_compareFractions_0 0 rfl ?_
  refine Ev_lload dX9_compareFractions_1 3 rfl ?_
  refine Ev_lmul dX9_compareFractions_3 ?_
  obtain ⟨v8_1, ev8_1⟩ : ∃ z : Int, z = w64 (v0 * v6) := ⟨_, rfl⟩
  replace h := h v8_1 ev8_1
  rw [← ev8_1]
  refine Ev_lstore dX9_compareFractions_4 (by decide) rfl ?_
  refine Ev_lload dX9_compareFractions_6 3 rfl ?_
  refine Ev_lload_n dX9_compareFractions_8 2 rfl ?_
  refine Ev_lmul dX9_compareFractions_9 ?_
  obtain ⟨v10_2, ev10_2⟩ : ∃ z : Int, z = w64 (v4 * v2) := ⟨_, rfl⟩
  replace h := h v10_2 ev10_2
  rw [← ev10_2]
  refine Ev_lstore dX9_compareFractions_10 (by decide) rfl ?_
  refine Ev_lload dX9_compareFractions_12 1 rfl ?_
  refine Ev_lload dX9_compareFractions_14 0 rfl ?_
  refine Ev_lcmp dX9_compareFractions_16 ?_
  refine jc_1 (P := fun (t_3 : Int) => Ev mX9_compareFractions 0 37 [] [(0, t_3)] s (poI 0 s post)) h ?_ ?_
  · intro t_3 h
    exact Ev_ret dX9_compareFractions_37 trivial (poI_mk h)
  · intro K_4 hK_4 h
    refine Ev_if_ge (tgt := 24) dX9_compareFractions_17 (by decide) (fun hc => ?_) (fun hc => ?_)
    · replace h := h.1 (lcmp_ge.mp hc)
      refine Ev_lload dX9_compareFractions_24 1 rfl ?_
      refine Ev_lload dX9_compareFractions_26 0 rfl ?_
      refine Ev_lcmp dX9_compareFractions_28 ?_
      refine Ev_if_le (tgt := 36) dX9_compareFractions_29 (by decide) (fun hc => ?_) (fun hc => ?_)
      · replace h := h.1 (lcmp_le.mp hc)
        refine Ev_iconst (v := 0) dX9_compareFractions_36 rfl ⟨by decide, by decide⟩ ?_
        refine Ev_sub [] rfl ?_
        exact hK_4 _ h
      · replace h := h.2 (fun q => hc (lcmp_le.mpr q))
        refine Ev_iconst (v := 1) dX9_compareFractions_32 rfl ⟨by decide, by decide⟩ ?_
        refine Ev_goto (tgt := 37) dX9_compareFractions_33 (by decide) ?_
        refine Ev_sub [] rfl ?_
        exact hK_4 _ h
    · replace h := h.2 (fun q => hc (lcmp_ge.mpr q))
      refine Ev_iconst (v := -1) dX9_compareFractions_20 rfl ⟨by decide, by decide⟩ ?_
      refine Ev_goto (tgt := 37) dX9_compareFractions_21 (by decide) ?_
      refine Ev_sub [] rfl ?_
      exact hK_4 _ h
theorem k_X4_compareTo_16 {s : Sg} {v1 v2 v4 v6 v8 : Int} {post : Int → Prop} (h : w_X4_compareTo s 16 v1 v2 v4 v6 v8 post) : EvM mX4_compareTo 1 [(2, 16), (0, v1), (1, v2), (1, v4), (1, v6), (1, v8)] s (poI 0 s post) := by
  refine EvM_of rfl (by decide +kernel) (Nat.le_of_ble_eq_true rfl) ?_
  unfold w_X4_compareTo at h
  show Ev mX4_compareTo 1 0 [(0, (2, 16)), (1, (0, v1)), (2, (1, v2)), (4, (1, v4)), (6, (1, v6)), (8, (1, v8))] [] s (poI 0 s post)
  refine Ev_aload_n dX4_compareTo_0 0 rfl ?_
  refine Ev_getr 16 (17) dX4_compareTo_1 f_RX4_9 rfl sh_16 rfl ?_
  refine Ev_iload_n dX4_compareTo_4 1 rfl ?_
  obtain ⟨hb_1, h⟩ := h
  refine Ev_lald (17) dX4_compareTo_5 rfl sh_17 hb_1 ?_
  refine Ev_aload_n dX4_compareTo_6 0 rfl ?_
  refine Ev_getr 16 (18) dX4_compareTo_7 f_RX4_15 rfl sh_16 rfl ?_
  refine Ev_iload_n dX4_compareTo_10 1 rfl ?_
  obtain ⟨hb_2, h⟩ := h
  refine Ev_lald (18) dX4_compareTo_11 rfl sh_18 hb_2 ?_
  refine Ev_lload_n dX4_compareTo_12 2 rfl ?_
  refine Ev_lload dX4_compareTo_13 3 rfl ?_
  refine Ev_invS (d' := 0) [(1, s 17 v1.toNat), (1, s 18 v1.toNat), (1, v2), (1, v4)] dX4_compareTo_15 M_X9_compareFractions (Or.inr ⟨_, q_459⟩) (by decide) rfl (Nat.le_of_ble_eq_true rfl) (k_X9_compareFractions h) ?_
  rintro _ _ ⟨rfl, r_3, rfl, h⟩
  refine Ev_istore dX4_compareTo_18 (by decide) rfl ?_
  refine Ev_iload dX4_compareTo_20 0 rfl ?_
  refine jc_1 (P := fun (t_4 : Int) => Ev mX4_compareTo 1 49 [] [(0, t_4)] s (poI 0 s post)) h ?_ ?_
  · intro t_4 h
    exact Ev_ret dX4_compareTo_49 trivial (poI_mk h)
  · intro K_5 hK_5 h
    refine Ev_if_eq (tgt := 30) dX4_compareTo_22 (by decide) (fun hc => ?_) (fun hc => ?_)
    · replace h := h.1 hc
      refine Ev_aload_n dX4_compareTo_30 1 rfl ?_
      refine Ev_getr 16 (19) dX4_compareTo_31 f_RX4_18 rfl sh_16 rfl ?_
      refine Ev_iload_n dX4_compareTo_34 2 rfl ?_
      obtain ⟨hb_6, h⟩ := h
      refine Ev_lald (19) dX4_compareTo_35 rfl sh_19 hb_6 ?_
      refine Ev_aload_n dX4_compareTo_36 1 rfl ?_
      refine Ev_getr 16 (20) dX4_compareTo_37 f_RX4_21 rfl sh_16 rfl ?_
      refine Ev_iload_n dX4_compareTo_40 2 rfl ?_
      obtain ⟨hb_7, h⟩ := h
      refine Ev_lald (20) dX4_compareTo_41 rfl sh_20 hb_7 ?_
      refine Ev_lload dX4_compareTo_42 5 rfl ?_
      refine Ev_lload dX4_compareTo_44 6 rfl ?_
      refine Ev_invS (d' := 0) [(1, s 19 v1.toNat), (1, s 20 v1.toNat), (1, v6), (1, v8)] dX4_compareTo_46 M_X9_compareFractions (Or.inr ⟨_, q_459⟩) (by decide) rfl (Nat.le_of_ble_eq_true rfl) (k_X9_compareFractions h) ?_
      rintro _ _ ⟨rfl, r_8, rfl, h⟩
      refine Ev_sub [] rfl ?_
      exact hK_5 _ h
    · replace h := h.2 hc
      refine Ev_iload dX4_compareTo_25 0 rfl ?_
      refine Ev_goto (tgt := 49) dX4_compareTo_27 (by decide) ?_
      refine Ev_sub [] rfl ?_
      exact hK_5 _ h
theorem k_X4_compareTo_25 {s : Sg} {v1 v2 v4 v6 v8 : Int} {post : Int → Prop} (h : w_X4_compareTo s 25 v1 v2 v4 v6 v8 post) : EvM mX4_compareTo 1 [(2, 25), (0, v1), (1, v2), (1, v4), (1, v6), (1, v8)] s (poI 0 s post) := by
  refine EvM_of rfl (by decide +kernel) (Nat.le_of_ble_eq_true rfl) ?_
  unfold w_X4_compareTo at h
  show Ev mX4_compareTo 1 0 [(0, (2, 25)), (1, (0, v1)), (2, (1, v2)), (4, (1, v4)), (6, (1, v6)), (8, (1, v8))] [] s (poI 0 s post)
  refine Ev_aload_n dX4_compareTo_0 0 rfl ?_
  refine Ev_getr 25 (26) dX4_compareTo_1 f_RX4_9 rfl sh_25 rfl ?_
  refine Ev_iload_n dX4_compareTo_4 1 rfl ?_
  obtain ⟨hb_1, h⟩ := h
  refine Ev_lald (26) dX4_compareTo_5 rfl sh_26 hb_1 ?_
  refine Ev_aload_n dX4_compareTo_6 0 rfl ?_
  refine Ev_getr 25 (27) dX4_compareTo_7 f_RX4_15 rfl sh_25 rfl ?_
  refine Ev_iload_n dX4_compareTo_10 1 rfl ?_
  obtain ⟨hb_2, h⟩ := h
  refine Ev_lald (27) dX4_compareTo_11 rfl sh_27 hb_2 ?_
  refine Ev_lload_n dX4_compareTo_12 2 rfl ?_
  refine Ev_lload dX4_compareTo_13 3 rfl ?_
  refine Ev_invS (d' := 0) [(1, s 26 v1.toNat), (1, s 27 v1.toNat), (1, v2), (1, v4)] dX4_compareTo_15 M_X9_compareFractions (Or.inr ⟨_, q_459⟩) (by decide) rfl (Nat.le_of_ble_eq_true rfl) (k_X9_compareFractions h) ?_
  rintro _ _ ⟨rfl, r_3, rfl, h⟩
  refine Ev_istore dX4_compareTo_18 (by decide) rfl ?_
  refine Ev_iload dX4_compareTo_20 0 rfl ?_
  refine jc_1 (P := fun (t_4 : Int) => Ev mX4_compareTo 1 49 [] [(0, t_4)] s (poI 0 s post)) h ?_ ?_
  · intro t_4 h
    exact Ev_ret dX4_compareTo_49 trivial (poI_mk h)
  · intro K_5 hK_5 h
    refine Ev_if_eq (tgt := 30) dX4_compareTo_22 (by decide) (fun hc => ?_) (fun hc => ?_)
    · replace h := h.1 hc
      refine Ev_aload_n dX4_compareTo_30 1 rfl ?_
      refine Ev_getr 25 (28) dX4_compareTo_31 f_RX4_18 rfl sh_25 rfl ?_
      refine Ev_iload_n dX4_compareTo_34 2 rfl ?_
      obtain ⟨hb_6, h⟩ := h
      refine Ev_lald (28) dX4_compareTo_35 rfl sh_28 hb_6 ?_
      refine Ev_aload_n dX4_compareTo_36 1 rfl ?_
      refine Ev_getr 25 (29) dX4_compareTo_37 f_RX4_21 rfl sh_25 rfl ?_
      refine Ev_iload_n dX4_compareTo_40 2 rfl ?_
      obtain ⟨hb_7, h⟩ := h
      refine Ev_lald (29) dX4_compareTo_41 rfl sh_29 hb_7 ?_
      refine Ev_lload dX4_compareTo_42 5 rfl ?_
      refine Ev_lload dX4_compareTo_44 6 rfl ?_
      refine Ev_invS (d' := 0) [(1, s 28 v1.toNat), (1, s 29 v1.toNat), (1, v6), (1, v8)] dX4_compareTo_46 M_X9_compareFractions (Or.inr ⟨_, q_459⟩) (by decide) rfl (Nat.le_of_ble_eq_true rfl) (k_X9_compareFractions h) ?_
      rintro _ _ ⟨rfl, r_8, rfl, h⟩
      refine Ev_sub [] rfl ?_
      exact hK_5 _ h
    · replace h := h.2 hc
      refine Ev_iload dX4_compareTo_25 0 rfl ?_
      refine Ev_goto (tgt := 49) dX4_compareTo_27 (by decide) ?_
      refine Ev_sub [] rfl ?_
      exact hK_5 _ h
theorem k_X4_add_16 {s : Sg} {v1 v3 v5 v7 : Int} {post : Sg → Prop} (h : w_X4_add s 16 v1 v3 v5 v7 post) : EvM mX4_add 2 [(2, 16), (1, v1), (1, v3), (1, v5), (1, v7)] s (poV post) := by
  refine EvM_of rfl (by decide +kernel) (Nat.le_of_ble_eq_true rfl) ?_
  unfold w_X4_add at h
  show Ev mX4_add 2 0 [(0, (2, 16)), (1, (1, v1)), (3, (1, v3)), (5, (1, v5)), (7, (1, v7))] [] s (poV post)
  refine Ev_aload_n dX4_add_0 0 rfl ?_
  refine Ev_geti 16 dX4_add_1 f_RX4_41 rfl sh_16 ?_
  obtain ⟨v9_1, ev9_1⟩ : ∃ z : Int, z = s 16 0 := ⟨_, rfl⟩
  replace h := h v9_1 ev9_1
  rw [← ev9_1]
  refine Ev_istore dX4_add_4 (by decide) rfl ?_
  refine Ev_aload_n dX4_add_6 1 rfl ?_
  refine Ev_geti 16 dX4_add_7 f_RX4_41 rfl sh_16 ?_
  refine Ev_iconst (v := 1) dX4_add_10 rfl ⟨by decide, by decide⟩ ?_
  refine Ev_isub dX4_add_11 ?_
  obtain ⟨v10_2, ev10_2⟩ : ∃ z : Int, z = w32 ((s 16 0) - 1) := ⟨_, rfl⟩
  replace h := h v10_2 ev10_2
  rw [← ev10_2]
  refine Ev_istore dX4_add_12 (by decide) rfl ?_
  refine Ev_sub [2, 3, 4, 5, 6, 1, 0] rfl ?_
  refine li_2 (P := fun (v9_3 v10_4 : Int) => Ev mX4_add 2 14 [(0, (2, 16)), (1, (1, v1)), (3, (1, v3)), (5, (1, v5)), (7, (1, v7)), (9, (0, v9_3)), (10, (0, v10_4))] [] s (poV post)) ?_ h
  intro again_5 v9_3 v10_4 hagain_5 h
  refine Ev_iload dX4_add_14 6 rfl ?_
  refine jc_0 (P := Ev mX4_add 2 57 [(0, (2, 16)), (1, (1, v1)), (3, (1, v3)), (5, (1, v5)), (7, (1, v7)), (9, (0, v9_3))] [] s (poV post)) h ?_ ?_
  · intro  h
    refine Ev_aload_n dX4_add_57 0 rfl ?_
    refine Ev_geti 16 dX4_add_58 f_RX4_41 rfl sh_16 ?_
    refine Ev_bipush (v := 65) dX4_add_61 (by decide +kernel) ?_
    refine Ev_icmp_lt (tgt := 67) dX4_add_63 (by decide) (fun hc => ?_) (fun hc => ?_)
    · replace h := h.1 hc
      refine Ev_aload_n dX4_add_67 0 rfl ?_
      refine Ev_geti 16 dX4_add_68 f_RX4_41 rfl sh_16 ?_
      obtain ⟨v10_7, ev10_7⟩ : ∃ z : Int, z = s 16 0 := ⟨_, rfl⟩
      replace h := h v10_7 ev10_7
      rw [← ev10_7]
      refine Ev_istore dX4_add_71 (by decide) rfl ?_
      refine Ev_sub [1, 2, 3, 4, 5, 6, 0] rfl ?_
      refine li_1s (P := fun (v10_8 : Int) (s_9 : Sg) => Ev mX4_add 2 73 [(0, (2, 16)), (1, (1, v1)), (3, (1, v3)), (5, (1, v5)), (7, (1, v7)), (9, (0, v9_3)), (10, (0, v10_8))] [] s_9 (poV post)) ?_ h
      intro again_10 v10_8 s_9 hagain_10 h
      refine Ev_iload dX4_add_73 6 rfl ?_
      refine Ev_iload dX4_add_75 5 rfl ?_
      refine Ev_icmp_le (tgt := 150) dX4_add_77 (by decide) (fun hc => ?_) (fun hc => ?_)
      · replace h := h.1 hc
        refine Ev_aload_n dX4_add_150 0 rfl ?_
        refine Ev_getr 16 (17) dX4_add_151 f_RX4_9 rfl sh_16 rfl ?_
        refine Ev_iload dX4_add_154 5 rfl ?_
        refine Ev_lload_n dX4_add_156 1 rfl ?_
        obtain ⟨hb_11, h⟩ := h
        obtain ⟨s_12, es_12⟩ : ∃ z : Sg, z = (up s_9 17 (v9_3.toNat) v1) := ⟨_, rfl⟩
        replace h := h s_12 es_12
        refine Ev_last (17) dX4_add_157 rfl sh_17 hb_11 ?_
        rw [← es_12]
        refine Ev_aload_n dX4_add_158 0 rfl ?_
        refine Ev_getr 16 (18) dX4_add_159 f_RX4_15 rfl sh_16 rfl ?_
        refine Ev_iload dX4_add_162 5 rfl ?_
        refine Ev_lload_n dX4_add_164 2 rfl ?_
        obtain ⟨hb_13, h⟩ := h
        obtain ⟨s_14, es_14⟩ : ∃ z : Sg, z = (up s_12 18 (v9_3.toNat) v3) := ⟨_, rfl⟩
        replace h := h s_14 es_14
        refine Ev_last (18) dX4_add_165 rfl sh_18 hb_13 ?_
        rw [← es_14]
        refine Ev_aload_n dX4_add_166 0 rfl ?_
        refine Ev_getr 16 (19) dX4_add_167 f_RX4_18 rfl sh_16 rfl ?_
        refine Ev_iload dX4_add_170 5 rfl ?_
        refine Ev_lload dX4_add_172 3 rfl ?_
        obtain ⟨hb_15, h⟩ := h
        obtain ⟨s_16, es_16⟩ : ∃ z : Sg, z = (up s_14 19 (v9_3.toNat) v5) := ⟨_, rfl⟩
        replace h := h s_16 es_16
        refine Ev_last (19) dX4_add_174 rfl sh_19 hb_15 ?_
        rw [← es_16]
        refine Ev_aload_n dX4_add_175 0 rfl ?_
        refine Ev_getr 16 (20) dX4_add_176 f_RX4_21 rfl sh_16 rfl ?_
        refine Ev_iload dX4_add_179 5 rfl ?_
        refine Ev_lload dX4_add_181 4 rfl ?_
        obtain ⟨hb_17, h⟩ := h
        obtain ⟨s_18, es_18⟩ : ∃ z : Sg, z = (up s_16 20 (v9_3.toNat) v7) := ⟨_, rfl⟩
        replace h := h s_18 es_18
        refine Ev_last (20) dX4_add_183 rfl sh_20 hb_17 ?_
        rw [← es_18]
        refine Ev_aload_n dX4_add_184 0 rfl ?_
        refine Ev_dup dX4_add_185 (show ¬ (2 : Nat) = 1 by decide) ?_
        refine Ev_geti 16 dX4_add_186 f_RX4_41 rfl sh_16 ?_
        refine Ev_iconst (v := 1) dX4_add_189 rfl ⟨by decide, by decide⟩ ?_
        refine Ev_iadd dX4_add_190 ?_
        obtain ⟨s_19, es_19⟩ : ∃ z : Sg, z = (up s_18 16 0 (w32 ((s_18 16 0) + 1))) := ⟨_, rfl⟩
        replace h := h s_19 es_19
        refine Ev_puti 16 dX4_add_191 fp_RX4_41 rfl sh_16 ?_
        rw [← es_19]
        exact Ev_retv dX4_add_194 rfl (poV_mk h)
      · replace h := h.2 hc
        refine Ev_aload_n dX4_add_80 0 rfl ?_
        refine Ev_getr 16 (17) dX4_add_81 f_RX4_9 rfl sh_16 rfl ?_
        refine Ev_iload dX4_add_84 6 rfl ?_
        refine Ev_aload_n dX4_add_86 0 rfl ?_
        refine Ev_getr 16 (17) dX4_add_87 f_RX4_9 rfl sh_16 rfl ?_
        refine Ev_iload dX4_add_90 6 rfl ?_
        refine Ev_iconst (v := 1) dX4_add_92 rfl ⟨by decide, by decide⟩ ?_
        refine Ev_isub dX4_add_93 ?_
        obtain ⟨hb_20, h⟩ := h
        refine Ev_lald (17) dX4_add_94 rfl sh_17 hb_20 ?_
        obtain ⟨hb_21, h⟩ := h
        obtain ⟨s_22, es_22⟩ : ∃ z : Sg, z = (up s_9 17 (v10_8.toNat) (s_9 17 (w32 (v10_8 - 1)).toNat)) := ⟨_, rfl⟩
        replace h := h s_22 es_22
        refine Ev_last (17) dX4_add_95 rfl sh_17 hb_21 ?_
        rw [← es_22]
        refine Ev_aload_n dX4_add_96 0 rfl ?_
        refine Ev_getr 16 (18) dX4_add_97 f_RX4_15 rfl sh_16 rfl ?_
        refine Ev_iload dX4_add_100 6 rfl ?_
        refine Ev_aload_n dX4_add_102 0 rfl ?_
        refine Ev_getr 16 (18) dX4_add_103 f_RX4_15 rfl sh_16 rfl ?_
        refine Ev_iload dX4_add_106 6 rfl ?_
        refine Ev_iconst (v := 1) dX4_add_108 rfl ⟨by decide, by decide⟩ ?_
        refine Ev_isub dX4_add_109 ?_
        obtain ⟨hb_23, h⟩ := h
        refine Ev_lald (18) dX4_add_110 rfl sh_18 hb_23 ?_
        obtain ⟨hb_24, h⟩ := h
        obtain ⟨s_25, es_25⟩ : ∃ z : Sg, z = (up s_22 18 (v10_8.toNat) (s_22 18 (w32 (v10_8 - 1)).toNat)) := ⟨_, rfl⟩
        replace h := h s_25 es_25
        refine Ev_last (18) dX4_add_111 rfl sh_18 hb_24 ?_
        rw [← es_25]
        refine Ev_aload_n dX4_add_112 0 rfl ?_
        refine Ev_getr 16 (19) dX4_add_113 f_RX4_18 rfl sh_16 rfl ?_
        refine Ev_iload dX4_add_116 6 rfl ?_
        refine Ev_aload_n dX4_add_118 0 rfl ?_
        refine Ev_getr 16 (19) dX4_add_119 f_RX4_18 rfl sh_16 rfl ?_
        refine Ev_iload dX4_add_122 6 rfl ?_
        refine Ev_iconst (v := 1) dX4_add_124 rfl ⟨by decide, by decide⟩ ?_
        refine Ev_isub dX4_add_125 ?_
        obtain ⟨hb_26, h⟩ := h
        refine Ev_lald (19) dX4_add_126 rfl sh_19 hb_26 ?_
        obtain ⟨hb_27, h⟩ := h
        obtain ⟨s_28, es_28⟩ : ∃ z : Sg, z = (up s_25 19 (v10_8.toNat) (s_25 19 (w32 (v10_8 - 1)).toNat)) := ⟨_, rfl⟩
        replace h := h s_28 es_28
        refine Ev_last (19) dX4_add_127 rfl sh_19 hb_27 ?_
        rw [← es_28]
        refine Ev_aload_n dX4_add_128 0 rfl ?_
        refine Ev_getr 16 (20) dX4_add_129 f_RX4_21 rfl sh_16 rfl ?_
        refine Ev_iload dX4_add_132 6 rfl ?_
        refine Ev_aload_n dX4_add_134 0 rfl ?_
        refine Ev_getr 16 (20) dX4_add_135 f_RX4_21 rfl sh_16 rfl ?_
        refine Ev_iload dX4_add_138 6 rfl ?_
        refine Ev_iconst (v := 1) dX4_add_140 rfl ⟨by decide, by decide⟩ ?_
        refine Ev_isub dX4_add_141 ?_
        obtain ⟨hb_29, h⟩ := h
        refine Ev_lald (20) dX4_add_142 rfl sh_20 hb_29 ?_
        obtain ⟨hb_30, h⟩ := h
        obtain ⟨s_31, es_31⟩ : ∃ z : Sg, z = (up s_28 20 (v10_8.toNat) (s_28 20 (w32 (v10_8 - 1)).toNat)) := ⟨_, rfl⟩
        replace h := h s_31 es_31
        refine Ev_last (20) dX4_add_143 rfl sh_20 hb_30 ?_
        rw [← es_31]
        obtain ⟨v10_32, ev10_32⟩ : ∃ z : Int, z = w32 (v10_8 + (-1)) := ⟨_, rfl⟩
        replace h := h v10_32 ev10_32
        refine Ev_iinc (v := v10_32) dX4_add_144 6 rfl ev10_32.symm (by decide) rfl ?_
        refine Ev_goto (tgt := 73) dX4_add_147 (by decide) ?_
        refine Ev_sub [1, 2, 3, 4, 5, 6, 0] rfl ?_
        exact hagain_10 _ _ h
    · replace h := h.2 hc
      exact Ev_retv dX4_add_66 rfl (poV_mk h)
  · intro K_6 hK_6 h
    refine Ev_if_lt (tgt := 57) dX4_add_16 (by decide) (fun hc => ?_) (fun hc => ?_)
    · replace h := h.1 hc
      refine Ev_sub [0, 1, 2, 3, 4, 5] rfl ?_
      exact hK_6 h
    · replace h := h.2 hc
      refine Ev_aload_n dX4_add_19 0 rfl ?_
      refine Ev_iload dX4_add_20 6 rfl ?_
      refine Ev_lload_n dX4_add_22 1 rfl ?_
      refine Ev_lload_n dX4_add_23 2 rfl ?_
      refine Ev_lload dX4_add_24 3 rfl ?_
      refine Ev_lload dX4_add_26 4 rfl ?_
      refine Ev_invV (d' := 1) [(0, v10_4), (1, v1), (1, v3), (1, v5), (1, v7)] 16 dX4_add_28 M_X4_compareTo q_455 (by decide) rfl rfl sh_16 rfl (Nat.le_of_ble_eq_true rfl) (k_X4_compareTo_16 h) ?_
      rintro _ _ ⟨rfl, r_33, rfl, h⟩
      refine Ev_istore dX4_add_31 (by decide) rfl ?_
      refine Ev_iload dX4_add_33 0 rfl ?_
      refine Ev_if_ne (tgt := 39) dX4_add_35 (by decide) (fun hc => ?_) (fun hc => ?_)
      · replace h := h.1 hc
        refine Ev_iload dX4_add_39 0 rfl ?_
        refine Ev_if_ge (tgt := 47) dX4_add_41 (by decide) (fun hc => ?_) (fun hc => ?_)
        · replace h := h.1 hc
          refine Ev_iload dX4_add_47 7 rfl ?_
          refine Ev_istore dX4_add_49 (by decide) rfl ?_
          obtain ⟨v10_34, ev10_34⟩ : ∃ z : Int, z = w32 (v10_4 + (-1)) := ⟨_, rfl⟩
          replace h := h v10_34 ev10_34
          refine Ev_iinc (v := v10_34) dX4_add_51 7 rfl ev10_34.symm (by decide) rfl ?_
          refine Ev_goto (tgt := 14) dX4_add_54 (by decide) ?_
          refine Ev_sub [3, 4, 5, 6, 7, 1, 0] rfl ?_
          exact hagain_5 _ _ h
        · replace h := h.2 hc
          refine Ev_goto (tgt := 57) dX4_add_44 (by decide) ?_
          refine Ev_sub [1, 2, 3, 4, 5, 6] rfl ?_
          exact hK_6 h
      · replace h := h.2 hc
        exact Ev_retv dX4_add_38 rfl (poV_mk h)
theorem k_X4_add_25 {s : Sg} {v1 v3 v5 v7 : Int} {post : Sg → Prop} (h : w_X4_add s 25 v1 v3 v5 v7 post) : EvM mX4_add 2 [(2, 25), (1, v1), (1, v3), (1, v5), (1, v7)] s (poV post) := by
  refine EvM_of rfl (by decide +kernel) (Nat.le_of_ble_eq_true rfl) ?_
  unfold w_X4_add at h
  show Ev mX4_add 2 0 [(0, (2, 25)), (1, (1, v1)), (3, (1, v3)), (5, (1, v5)), (7, (1, v7))] [] s (poV post)
  refine Ev_aload_n dX4_add_0 0 rfl ?_
  refine Ev_geti 25 dX4_add_1 f_RX4_41 rfl sh_25 ?_
  obtain ⟨v9_1, ev9_1⟩ : ∃ z : Int, z = s 25 0 := ⟨_, rfl⟩
  replace h := h v9_1 ev9_1
  rw [← ev9_1]
  refine Ev_istore dX4_add_4 (by decide) rfl ?_
  refine Ev_aload_n dX4_add_6 1 rfl ?_
  refine Ev_geti 25 dX4_add_7 f_RX4_41 rfl sh_25 ?_
  refine Ev_iconst (v := 1) dX4_add_10 rfl ⟨by decide, by decide⟩ ?_
  refine Ev_isub dX4_add_11 ?_
  obtain ⟨v10_2, ev10_2⟩ : ∃ z : Int, z = w32 ((s 25 0) - 1) := ⟨_, rfl⟩
  replace h := h v10_2 ev10_2
  rw [← ev10_2]
  refine Ev_istore dX4_add_12 (by decide) rfl ?_
  refine Ev_sub [2, 3, 4, 5, 6, 1, 0] rfl ?_
  refine li_2 (P := fun (v9_3 v10_4 : Int) => Ev mX4_add 2 14 [(0, (2, 25)), (1, (1, v1)), (3, (1, v3)), (5, (1, v5)), (7, (1, v7)), (9, (0, v9_3)), (10, (0, v10_4))] [] s (poV post)) ?_ h
  intro again_5 v9_3 v10_4 hagain_5 h
  refine Ev_iload dX4_add_14 6 rfl ?_
  refine jc_0 (P := Ev mX4_add 2 57 [(0, (2, 25)), (1, (1, v1)), (3, (1, v3)), (5, (1, v5)), (7, (1, v7)), (9, (0, v9_3))] [] s (poV post)) h ?_ ?_
  · intro  h
    refine Ev_aload_n dX4_add_57 0 rfl ?_
    refine Ev_geti 25 dX4_add_58 f_RX4_41 rfl sh_25 ?_
    refine Ev_bipush (v := 65) dX4_add_61 (by decide +kernel) ?_
    refine Ev_icmp_lt (tgt := 67) dX4_add_63 (by decide) (fun hc => ?_) (fun hc => ?_)
    · replace h := h.1 hc
      refine Ev_aload_n dX4_add_67 0 rfl ?_
      refine Ev_geti 25 dX4_add_68 f_RX4_41 rfl sh_25 ?_
      obtain ⟨v10_7, ev10_7⟩ : ∃ z : Int, z = s 25 0 := ⟨_, rfl⟩
      replace h := h v10_7 ev10_7
      rw [← ev10_7]
      refine Ev_istore dX4_add_71 (by decide) rfl ?_
      refine Ev_sub [1, 2, 3, 4, 5, 6, 0] rfl ?_
      refine li_1s (P := fun (v10_8 : Int) (s_9 : Sg) => Ev mX4_add 2 73 [(0, (2, 25)), (1, (1, v1)), (3, (1, v3)), (5, (1, v5)), (7, (1, v7)), (9, (0, v9_3)), (10, (0, v10_8))] [] s_9 (poV post)) ?_ h
      intro again_10 v10_8 s_9 hagain_10 h
      refine Ev_iload dX4_add_73 6 rfl ?_
      refine Ev_iload dX4_add_75 5 rfl ?_
      refine Ev_icmp_le (tgt := 150) dX4_add_77 (by decide) (fun hc => ?_) (fun hc => ?_)
      · replace h := h.1 hc
        refine Ev_aload_n dX4_add_150 0 rfl ?_
        refine Ev_getr 25 (26) dX4_add_151 f_RX4_9 rfl sh_25 rfl ?_
        refine Ev_iload dX4_add_154 5 rfl ?_
        refine Ev_lload_n dX4_add_156 1 rfl ?_
        obtain ⟨hb_11, h⟩ := h
        obtain ⟨s_12, es_12⟩ : ∃ z : Sg, z = (up s_9 26 (v9_3.toNat) v1) := ⟨_, rfl⟩
        replace h := h s_12 es_12
        refine Ev_last (26) dX4_add_157 rfl sh_26 hb_11 ?_
        rw [← es_12]
        refine Ev_aload_n dX4_add_158 0 rfl ?_
        refine Ev_getr 25 (27) dX4_add_159 f_RX4_15 rfl sh_25 rfl ?_
        refine Ev_iload dX4_add_162 5 rfl ?_
        refine Ev_lload_n dX4_add_164 2 rfl ?_
        obtain ⟨hb_13, h⟩ := h
        obtain ⟨s_14, es_14⟩ : ∃ z : Sg, z = (up s_12 27 (v9_3.toNat) v3) := ⟨_, rfl⟩
        replace h := h s_14 es_14
        refine Ev_last (27) dX4_add_165 rfl sh_27 hb_13 ?_
        rw [← es_14]
        refine Ev_aload_n dX4_add_166 0 rfl ?_
        refine Ev_getr 25 (28) dX4_add_167 f_RX4_18 rfl sh_25 rfl ?_
        refine Ev_iload dX4_add_170 5 rfl ?_
        refine Ev_lload dX4_add_172 3 rfl ?_
        obtain ⟨hb_15, h⟩ := h
        obtain ⟨s_16, es_16⟩ : ∃ z : Sg, z = (up s_14 28 (v9_3.toNat) v5) := ⟨_, rfl⟩
        replace h := h s_16 es_16
        refine Ev_last (28) dX4_add_174 rfl sh_28 hb_15 ?_
        rw [← es_16]
        refine Ev_aload_n dX4_add_175 0 rfl ?_
        refine Ev_getr 25 (29) dX4_add_176 f_RX4_21 rfl sh_25 rfl ?_
        refine Ev_iload dX4_add_179 5 rfl ?_
        refine Ev_lload dX4_add_181 4 rfl ?_
        obtain ⟨hb_17, h⟩ := h
        obtain ⟨s_18, es_18⟩ : ∃ z : Sg, z = (up s_16 29 (v9_3.toNat) v7) := ⟨_, rfl⟩
        replace h := h s_18 es_18
        refine Ev_last (29) dX4_add_183 rfl sh_29 hb_17 ?_
        rw [← es_18]
        refine Ev_aload_n dX4_add_184 0 rfl ?_
        refine Ev_dup dX4_add_185 (show ¬ (2 : Nat) = 1 by decide) ?_
        refine Ev_geti 25 dX4_add_186 f_RX4_41 rfl sh_25 ?_
        refine Ev_iconst (v := 1) dX4_add_189 rfl ⟨by decide, by decide⟩ ?_
        refine Ev_iadd dX4_add_190 ?_
        obtain ⟨s_19, es_19⟩ : ∃ z : Sg, z = (up s_18 25 0 (w32 ((s_18 25 0) + 1))) := ⟨_, rfl⟩
        replace h := h s_19 es_19
        refine Ev_puti 25 dX4_add_191 fp_RX4_41 rfl sh_25 ?_
        rw [← es_19]
        exact Ev_retv dX4_add_194 rfl (poV_mk h)
      · replace h := h.2 hc
        refine Ev_aload_n dX4_add_80 0 rfl ?_
        refine Ev_getr 25 (26) dX4_add_81 f_RX4_9 rfl sh_25 rfl ?_
        refine Ev_iload dX4_add_84 6 rfl ?_
        refine Ev_aload_n dX4_add_86 0 rfl ?_
        refine Ev_getr 25 (26) dX4_add_87 f_RX4_9 rfl sh_25 rfl ?_
        refine Ev_iload dX4_add_90 6 rfl ?_
        refine Ev_iconst (v := 1) dX4_add_92 rfl ⟨by decide, by decide⟩ ?_
        refine Ev_isub dX4_add_93 ?_
        obtain ⟨hb_20, h⟩ := h
        refine Ev_lald (26) dX4_add_94 rfl sh_26 hb_20 ?_
        obtain ⟨hb_21, h⟩ := h
        obtain ⟨s_22, es_22⟩ : ∃ z : Sg, z = (up s_9 26 (v10_8.toNat) (s_9 26 (w32 (v10_8 - 1)).toNat)) := ⟨_, rfl⟩
        replace h := h s_22 es_22
        refine Ev_last (26) dX4_add_95 rfl sh_26 hb_21 ?_
        rw [← es_22]
        refine Ev_aload_n dX4_add_96 0 rfl ?_
        refine Ev_getr 25 (27) dX4_add_97 f_RX4_15 rfl sh_25 rfl ?_
        refine Ev_iload dX4_add_100 6 rfl ?_
        refine Ev_aload_n dX4_add_102 0 rfl ?_
        refine Ev_getr 25 (27) dX4_add_103 f_RX4_15 rfl sh_25 rfl ?_
        refine Ev_iload dX4_add_106 6 rfl ?_
        refine Ev_iconst (v := 1) dX4_add_108 rfl ⟨by decide, by decide⟩ ?_
        refine Ev_isub dX4_add_109 ?_
        obtain ⟨hb_23, h⟩ := h
        refine Ev_lald (27) dX4_add_110 rfl sh_27 hb_23 ?_
        obtain ⟨hb_24, h⟩ := h
        obtain ⟨s_25, es_25⟩ : ∃ z : Sg, z = (up s_22 27 (v10_8.toNat) (s_22 27 (w32 (v10_8 - 1)).toNat)) := ⟨_, rfl⟩
        replace h := h s_25 es_25
        refine Ev_last (27) dX4_add_111 rfl sh_27 hb_24 ?_
        rw [← es_25]
        refine Ev_aload_n dX4_add_112 0 rfl ?_
        refine Ev_getr 25 (28) dX4_add_113 f_RX4_18 rfl sh_25 rfl ?_
        refine Ev_iload dX4_add_116 6 rfl ?_
        refine Ev_aload_n dX4_add_118 0 rfl ?_
        refine Ev_getr 25 (28) dX4_add_119 f_RX4_18 rfl sh_25 rfl ?_
        refine Ev_iload dX4_add_122 6 rfl ?_
        refine Ev_iconst (v := 1) dX4_add_124 rfl ⟨by decide, by decide⟩ ?_
        refine Ev_isub dX4_add_125 ?_
        obtain ⟨hb_26, h⟩ := h
        refine Ev_lald (28) dX4_add_126 rfl sh_28 hb_26 ?_
        obtain ⟨hb_27, h⟩ := h
        obtain ⟨s_28, es_28⟩ : ∃ z : Sg, z = (up s_25 28 (v10_8.toNat) (s_25 28 (w32 (v10_8 - 1)).toNat)) := ⟨_, rfl⟩
        replace h := h s_28 es_28
        refine Ev_last (28) dX4_add_127 rfl sh_28 hb_27 ?_
        rw [← es_28]
        refine Ev_aload_n dX4_add_128 0 rfl ?_
        refine Ev_getr 25 (29) dX4_add_129 f_RX4_21 rfl sh_25 rfl ?_
        refine Ev_iload dX4_add_132 6 rfl ?_
        refine Ev_aload_n dX4_add_134 0 rfl ?_
        refine Ev_getr 25 (29) dX4_add_135 f_RX4_21 rfl sh_25 rfl ?_
        refine Ev_iload dX4_add_138 6 rfl ?_
        refine Ev_iconst (v := 1) dX4_add_140 rfl ⟨by decide, by decide⟩ ?_
        refine Ev_isub dX4_add_141 ?_
        obtain ⟨hb_29, h⟩ := h
        refine Ev_lald (29) dX4_add_142 rfl sh_29 hb_29 ?_
        obtain ⟨hb_30, h⟩ := h
        obtain ⟨s_31, es_31⟩ : ∃ z : Sg, z = (up s_28 29 (v10_8.toNat) (s_28 29 (w32 (v10_8 - 1)).toNat)) := ⟨_, rfl⟩
        replace h := h s_31 es_31
        refine Ev_last (29) dX4_add_143 rfl sh_29 hb_30 ?_
        rw [← es_31]
        obtain ⟨v10_32, ev10_32⟩ : ∃ z : Int, z = w32 (v10_8 + (-1)) := ⟨_, rfl⟩
        replace h := h v10_32 ev10_32
        refine Ev_iinc (v := v10_32) dX4_add_144 6 rfl ev10_32.symm (by decide) rfl ?_
        refine Ev_goto (tgt := 73) dX4_add_147 (by decide) ?_
        refine Ev_sub [1, 2, 3, 4, 5, 6, 0] rfl ?_
        exact hagain_10 _ _ h
    · replace h := h.2 hc
      exact Ev_retv dX4_add_66 rfl (poV_mk h)
  · intro K_6 hK_6 h
    refine Ev_if_lt (tgt := 57) dX4_add_16 (by decide) (fun hc => ?_) (fun hc => ?_)
    · replace h := h.1 hc
      refine Ev_sub [0, 1, 2, 3, 4, 5] rfl ?_
      exact hK_6 h
    · replace h := h.2 hc
      refine Ev_aload_n dX4_add_19 0 rfl ?_
      refine Ev_iload dX4_add_20 6 rfl ?_
      refine Ev_lload_n dX4_add_22 1 rfl ?_
      refine Ev_lload_n dX4_add_23 2 rfl ?_
      refine Ev_lload dX4_add_24 3 rfl ?_
      refine Ev_lload dX4_add_26 4 rfl ?_
      refine Ev_invV (d' := 1) [(0, v10_4), (1, v1), (1, v3), (1, v5), (1, v7)] 25 dX4_add_28 M_X4_compareTo q_455 (by decide) rfl rfl sh_25 rfl (Nat.le_of_ble_eq_true rfl) (k_X4_compareTo_25 h) ?_
      rintro _ _ ⟨rfl, r_33, rfl, h⟩
      refine Ev_istore dX4_add_31 (by decide) rfl ?_
      refine Ev_iload dX4_add_33 0 rfl ?_
      refine Ev_if_ne (tgt := 39) dX4_add_35 (by decide) (fun hc => ?_) (fun hc => ?_)
      · replace h := h.1 hc
        refine Ev_iload dX4_add_39 0 rfl ?_
        refine Ev_if_ge (tgt := 47) dX4_add_41 (by decide) (fun hc => ?_) (fun hc => ?_)
        · replace h := h.1 hc
          refine Ev_iload dX4_add_47 7 rfl ?_
          refine Ev_istore dX4_add_49 (by decide) rfl ?_
          obtain ⟨v10_34, ev10_34⟩ : ∃ z : Int, z = w32 (v10_4 + (-1)) := ⟨_, rfl⟩
          replace h := h v10_34 ev10_34
          refine Ev_iinc (v := v10_34) dX4_add_51 7 rfl ev10_34.symm (by decide) rfl ?_
          refine Ev_goto (tgt := 14) dX4_add_54 (by decide) ?_
          refine Ev_sub [3, 4, 5, 6, 7, 1, 0] rfl ?_
          exact hagain_5 _ _ h
        · replace h := h.2 hc
          refine Ev_goto (tgt := 57) dX4_add_44 (by decide) ?_
          refine Ev_sub [1, 2, 3, 4, 5, 6] rfl ?_
          exact hK_6 h
      · replace h := h.2 hc
        exact Ev_retv dX4_add_38 rfl (poV_mk h)
