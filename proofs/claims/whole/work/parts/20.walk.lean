theorem k_J13_bitCount_95d88 {s : Sg} {v0 : Int} {post : Int → Prop} (h : w_J13_bitCount_95d88 v0 post) : EvM mJ13_bitCount_95d88 0 [(1, v0)] s (poI 0 s post) := by
  refine EvM_of rfl (by decide +kernel) (Nat.le_of_ble_eq_true rfl) ?_
  unfold w_J13_bitCount_95d88 at h
  show Ev mJ13_bitCount_95d88 0 0 [(0, (1, v0))] [] s (poI 0 s post)
  refine Ev_lload_n dJ13_bitCount_95d88_0 0 rfl ?_
  refine Ev_lload_n dJ13_bitCount_95d88_1 0 rfl ?_
  refine Ev_iconst (v := 1) dJ13_bitCount_95d88_2 rfl ⟨by decide, by decide⟩ ?_
  refine Ev_lushr dJ13_bitCount_95d88_3 ?_
  refine Ev_ldc2 (v := 6148914691236517205) dJ13_bitCount_95d88_4 q_721 (by decide +kernel) ?_
  refine Ev_land dJ13_bitCount_95d88_7 ?_
  refine Ev_lsub dJ13_bitCount_95d88_8 ?_
  obtain ⟨v0_1, ev0_1⟩ : ∃ z : Int, z = w64 (v0 - (land (lushr v0 1) 6148914691236517205)) := ⟨_, rfl⟩
  replace h := h v0_1 ev0_1
  rw [← ev0_1]
  refine Ev_lstore_n dJ13_bitCount_95d88_9 (by decide) rfl ?_
  refine Ev_lload_n dJ13_bitCount_95d88_10 0 rfl ?_
  refine Ev_ldc2 (v := 3689348814741910323) dJ13_bitCount_95d88_11 q_722 (by decide +kernel) ?_
  refine Ev_land dJ13_bitCount_95d88_14 ?_
  refine Ev_lload_n dJ13_bitCount_95d88_15 0 rfl ?_
  refine Ev_iconst (v := 2) dJ13_bitCount_95d88_16 rfl ⟨by decide, by decide⟩ ?_
  refine Ev_lushr dJ13_bitCount_95d88_17 ?_
  refine Ev_ldc2 (v := 3689348814741910323) dJ13_bitCount_95d88_18 q_722 (by decide +kernel) ?_
  refine Ev_land dJ13_bitCount_95d88_21 ?_
  refine Ev_ladd dJ13_bitCount_95d88_22 ?_
  obtain ⟨v0_2, ev0_2⟩ : ∃ z : Int, z = w64 ((land v0_1 3689348814741910323) + (land (lushr v0_1 2) 3689348814741910323)) := ⟨_, rfl⟩
  replace h := h v0_2 ev0_2
  rw [← ev0_2]
  refine Ev_lstore_n dJ13_bitCount_95d88_23 (by decide) rfl ?_
  refine Ev_lload_n dJ13_bitCount_95d88_24 0 rfl ?_
  refine Ev_lload_n dJ13_bitCount_95d88_25 0 rfl ?_
  refine Ev_iconst (v := 4) dJ13_bitCount_95d88_26 rfl ⟨by decide, by decide⟩ ?_
  refine Ev_lushr dJ13_bitCount_95d88_27 ?_
  refine Ev_ladd dJ13_bitCount_95d88_28 ?_
  refine Ev_ldc2 (v := 1085102592571150095) dJ13_bitCount_95d88_29 q_723 (by decide +kernel) ?_
  refine Ev_land dJ13_bitCount_95d88_32 ?_
  obtain ⟨v0_3, ev0_3⟩ : ∃ z : Int, z = land (w64 (v0_2 + (lushr v0_2 4))) 1085102592571150095 := ⟨_, rfl⟩
  replace h := h v0_3 ev0_3
  rw [← ev0_3]
  refine Ev_lstore_n dJ13_bitCount_95d88_33 (by decide) rfl ?_
  refine Ev_lload_n dJ13_bitCount_95d88_34 0 rfl ?_
  refine Ev_lload_n dJ13_bitCount_95d88_35 0 rfl ?_
  refine Ev_bipush (v := 8) dJ13_bitCount_95d88_36 (by decide +kernel) ?_
  refine Ev_lushr dJ13_bitCount_95d88_38 ?_
  refine Ev_ladd dJ13_bitCount_95d88_39 ?_
  obtain ⟨v0_4, ev0_4⟩ : ∃ z : Int, z = w64 (v0_3 + (lushr v0_3 8)) := ⟨_, rfl⟩
  replace h := h v0_4 ev0_4
  rw [← ev0_4]
  refine Ev_lstore_n dJ13_bitCount_95d88_40 (by decide) rfl ?_
  refine Ev_lload_n dJ13_bitCount_95d88_41 0 rfl ?_
  refine Ev_lload_n dJ13_bitCount_95d88_42 0 rfl ?_
  refine Ev_bipush (v := 16) dJ13_bitCount_95d88_43 (by decide +kernel) ?_
  refine Ev_lushr dJ13_bitCount_95d88_45 ?_
  refine Ev_ladd dJ13_bitCount_95d88_46 ?_
  obtain ⟨v0_5, ev0_5⟩ : ∃ z : Int, z = w64 (v0_4 + (lushr v0_4 16)) := ⟨_, rfl⟩
  replace h := h v0_5 ev0_5
  rw [← ev0_5]
  refine Ev_lstore_n dJ13_bitCount_95d88_47 (by decide) rfl ?_
  refine Ev_lload_n dJ13_bitCount_95d88_48 0 rfl ?_
  refine Ev_lload_n dJ13_bitCount_95d88_49 0 rfl ?_
  refine Ev_bipush (v := 32) dJ13_bitCount_95d88_50 (by decide +kernel) ?_
  refine Ev_lushr dJ13_bitCount_95d88_52 ?_
  refine Ev_ladd dJ13_bitCount_95d88_53 ?_
  obtain ⟨v0_6, ev0_6⟩ : ∃ z : Int, z = w64 (v0_5 + (lushr v0_5 32)) := ⟨_, rfl⟩
  replace h := h v0_6 ev0_6
  rw [← ev0_6]
  refine Ev_lstore_n dJ13_bitCount_95d88_54 (by decide) rfl ?_
  refine Ev_lload_n dJ13_bitCount_95d88_55 0 rfl ?_
  refine Ev_l2i dJ13_bitCount_95d88_56 ?_
  refine Ev_bipush (v := 127) dJ13_bitCount_95d88_57 (by decide +kernel) ?_
  refine Ev_iand dJ13_bitCount_95d88_59 ?_
  exact Ev_ret dJ13_bitCount_95d88_60 trivial (poI_mk h)
theorem k_J6_numberOfTrailingZeros_0f7a4 {s : Sg} {v0 : Int} {post : Int → Prop} (h : w_J6_numberOfTrailingZeros_0f7a4 v0 post) : EvM mJ6_numberOfTrailingZeros_0f7a4 0 [(0, v0)] s (poI 0 s post) := by
  refine EvM_of rfl (by decide +kernel) (Nat.le_of_ble_eq_true rfl) ?_
  unfold w_J6_numberOfTrailingZeros_0f7a4 at h
  show Ev mJ6_numberOfTrailingZeros_0f7a4 0 0 [(0, (0, v0))] [] s (poI 0 s post)
  refine Ev_iload_n dJ6_numberOfTrailingZeros_0f7a4_0 0 rfl ?_
  refine Ev_iconst (v := -1) dJ6_numberOfTrailingZeros_0f7a4_1 rfl ⟨by decide, by decide⟩ ?_
  refine Ev_ixor dJ6_numberOfTrailingZeros_0f7a4_2 ?_
  refine Ev_iload_n dJ6_numberOfTrailingZeros_0f7a4_3 0 rfl ?_
  refine Ev_iconst (v := 1) dJ6_numberOfTrailingZeros_0f7a4_4 rfl ⟨by decide, by decide⟩ ?_
  refine Ev_isub dJ6_numberOfTrailingZeros_0f7a4_5 ?_
  refine Ev_iand dJ6_numberOfTrailingZeros_0f7a4_6 ?_
  obtain ⟨v0_1, ev0_1⟩ : ∃ z : Int, z = iand (ixor v0 (-1)) (w32 (v0 - 1)) := ⟨_, rfl⟩
  replace h := h v0_1 ev0_1
  rw [← ev0_1]
  refine Ev_istore_n dJ6_numberOfTrailingZeros_0f7a4_7 (by decide) rfl ?_
  refine Ev_iload_n dJ6_numberOfTrailingZeros_0f7a4_8 0 rfl ?_
  refine Ev_if_gt (tgt := 17) dJ6_numberOfTrailingZeros_0f7a4_9 (by decide) (fun hc => ?_) (fun hc => ?_)
  · replace h := h.1 hc
    refine Ev_iconst (v := 1) dJ6_numberOfTrailingZeros_0f7a4_17 rfl ⟨by decide, by decide⟩ ?_
    refine Ev_istore_n dJ6_numberOfTrailingZeros_0f7a4_18 (by decide) rfl ?_
    refine Ev_iload_n dJ6_numberOfTrailingZeros_0f7a4_19 1 rfl ?_
    refine Ev_ldcw (v := 65536) dJ6_numberOfTrailingZeros_0f7a4_20 q_1227 (by decide +kernel) ?_
    refine jc_2 (P := fun (v0_2 v1_3 : Int) => Ev mJ6_numberOfTrailingZeros_0f7a4 0 34 [(0, (0, v0_2)), (1, (0, v1_3))] [] s (poI 0 s post)) h ?_ ?_
    · intro v0_2 v1_3 h
      refine Ev_iload_n dJ6_numberOfTrailingZeros_0f7a4_34 0 rfl ?_
      refine Ev_sipush (v := 256) dJ6_numberOfTrailingZeros_0f7a4_35 (by decide +kernel) ?_
      refine jc_2 (P := fun (v0_5 v1_6 : Int) => Ev mJ6_numberOfTrailingZeros_0f7a4 0 49 [(0, (0, v0_5)), (1, (0, v1_6))] [] s (poI 0 s post)) h ?_ ?_
      · intro v0_5 v1_6 h
        refine Ev_iload_n dJ6_numberOfTrailingZeros_0f7a4_49 0 rfl ?_
        refine Ev_bipush (v := 16) dJ6_numberOfTrailingZeros_0f7a4_50 (by decide +kernel) ?_
        refine jc_2 (P := fun (v0_8 v1_9 : Int) => Ev mJ6_numberOfTrailingZeros_0f7a4 0 62 [(0, (0, v0_8)), (1, (0, v1_9))] [] s (poI 0 s post)) h ?_ ?_
        · intro v0_8 v1_9 h
          refine Ev_iload_n dJ6_numberOfTrailingZeros_0f7a4_62 0 rfl ?_
          refine Ev_iconst (v := 4) dJ6_numberOfTrailingZeros_0f7a4_63 rfl ⟨by decide, by decide⟩ ?_
          refine jc_2 (P := fun (v0_11 v1_12 : Int) => Ev mJ6_numberOfTrailingZeros_0f7a4 0 74 [(0, (0, v0_11)), (1, (0, v1_12))] [] s (poI 0 s post)) h ?_ ?_
          · intro v0_11 v1_12 h
            refine Ev_iload_n dJ6_numberOfTrailingZeros_0f7a4_74 1 rfl ?_
            refine Ev_iload_n dJ6_numberOfTrailingZeros_0f7a4_75 0 rfl ?_
            refine Ev_iconst (v := 1) dJ6_numberOfTrailingZeros_0f7a4_76 rfl ⟨by decide, by decide⟩ ?_
            refine Ev_iushr dJ6_numberOfTrailingZeros_0f7a4_77 ?_
            refine Ev_iadd dJ6_numberOfTrailingZeros_0f7a4_78 ?_
            exact Ev_ret dJ6_numberOfTrailingZeros_0f7a4_79 trivial (poI_mk h)
          · intro K_13 hK_13 h
            refine Ev_icmp_le (tgt := 74) dJ6_numberOfTrailingZeros_0f7a4_64 (by decide) (fun hc => ?_) (fun hc => ?_)
            · replace h := h.1 hc
              exact hK_13 _ _ h
            · replace h := h.2 hc
              obtain ⟨v1_14, ev1_14⟩ : ∃ z : Int, z = w32 (v1_9 + 2) := ⟨_, rfl⟩
              replace h := h v1_14 ev1_14
              refine Ev_iinc (v := v1_14) dJ6_numberOfTrailingZeros_0f7a4_67 1 rfl ev1_14.symm (by decide) rfl ?_
              refine Ev_iload_n dJ6_numberOfTrailingZeros_0f7a4_70 1 rfl ?_
              refine Ev_iconst (v := 2) dJ6_numberOfTrailingZeros_0f7a4_71 rfl ⟨by decide, by decide⟩ ?_
              refine Ev_iushr dJ6_numberOfTrailingZeros_0f7a4_72 ?_
              obtain ⟨v0_15, ev0_15⟩ : ∃ z : Int, z = iushr v0_8 2 := ⟨_, rfl⟩
              replace h := h v0_15 ev0_15
              rw [← ev0_15]
              refine Ev_istore_n dJ6_numberOfTrailingZeros_0f7a4_73 (by decide) rfl ?_
              exact hK_13 _ _ h
        · intro K_10 hK_10 h
          refine Ev_icmp_le (tgt := 62) dJ6_numberOfTrailingZeros_0f7a4_52 (by decide) (fun hc => ?_) (fun hc => ?_)
          · replace h := h.1 hc
            exact hK_10 _ _ h
          · replace h := h.2 hc
            obtain ⟨v1_16, ev1_16⟩ : ∃ z : Int, z = w32 (v1_6 + 4) := ⟨_, rfl⟩
            replace h := h v1_16 ev1_16
            refine Ev_iinc (v := v1_16) dJ6_numberOfTrailingZeros_0f7a4_55 1 rfl ev1_16.symm (by decide) rfl ?_
            refine Ev_iload_n dJ6_numberOfTrailingZeros_0f7a4_58 1 rfl ?_
            refine Ev_iconst (v := 4) dJ6_numberOfTrailingZeros_0f7a4_59 rfl ⟨by decide, by decide⟩ ?_
            refine Ev_iushr dJ6_numberOfTrailingZeros_0f7a4_60 ?_
            obtain ⟨v0_17, ev0_17⟩ : ∃ z : Int, z = iushr v0_5 4 := ⟨_, rfl⟩
            replace h := h v0_17 ev0_17
            rw [← ev0_17]
            refine Ev_istore_n dJ6_numberOfTrailingZeros_0f7a4_61 (by decide) rfl ?_
            exact hK_10 _ _ h
      · intro K_7 hK_7 h
        refine Ev_icmp_le (tgt := 49) dJ6_numberOfTrailingZeros_0f7a4_38 (by decide) (fun hc => ?_) (fun hc => ?_)
        · replace h := h.1 hc
          exact hK_7 _ _ h
        · replace h := h.2 hc
          obtain ⟨v1_18, ev1_18⟩ : ∃ z : Int, z = w32 (v1_3 + 8) := ⟨_, rfl⟩
          replace h := h v1_18 ev1_18
          refine Ev_iinc (v := v1_18) dJ6_numberOfTrailingZeros_0f7a4_41 1 rfl ev1_18.symm (by decide) rfl ?_
          refine Ev_iload_n dJ6_numberOfTrailingZeros_0f7a4_44 1 rfl ?_
          refine Ev_bipush (v := 8) dJ6_numberOfTrailingZeros_0f7a4_45 (by decide +kernel) ?_
          refine Ev_iushr dJ6_numberOfTrailingZeros_0f7a4_47 ?_
          obtain ⟨v0_19, ev0_19⟩ : ∃ z : Int, z = iushr v0_2 8 := ⟨_, rfl⟩
          replace h := h v0_19 ev0_19
          rw [← ev0_19]
          refine Ev_istore_n dJ6_numberOfTrailingZeros_0f7a4_48 (by decide) rfl ?_
          exact hK_7 _ _ h
    · intro K_4 hK_4 h
      refine Ev_icmp_le (tgt := 34) dJ6_numberOfTrailingZeros_0f7a4_23 (by decide) (fun hc => ?_) (fun hc => ?_)
      · replace h := h.1 hc
        refine Ev_sub [1, 0] rfl ?_
        exact hK_4 _ _ h
      · replace h := h.2 hc
        obtain ⟨v1_20, ev1_20⟩ : ∃ z : Int, z = w32 (1 + 16) := ⟨_, rfl⟩
        replace h := h v1_20 ev1_20
        refine Ev_iinc (v := v1_20) dJ6_numberOfTrailingZeros_0f7a4_26 0 rfl ev1_20.symm (by decide) rfl ?_
        refine Ev_iload_n dJ6_numberOfTrailingZeros_0f7a4_29 1 rfl ?_
        refine Ev_bipush (v := 16) dJ6_numberOfTrailingZeros_0f7a4_30 (by decide +kernel) ?_
        refine Ev_iushr dJ6_numberOfTrailingZeros_0f7a4_32 ?_
        obtain ⟨v0_21, ev0_21⟩ : ∃ z : Int, z = iushr v0_1 16 := ⟨_, rfl⟩
        replace h := h v0_21 ev0_21
        rw [← ev0_21]
        refine Ev_istore_n dJ6_numberOfTrailingZeros_0f7a4_33 (by decide) rfl ?_
        exact hK_4 _ _ h
  · replace h := h.2 hc
    refine Ev_iload_n dJ6_numberOfTrailingZeros_0f7a4_12 0 rfl ?_
    refine Ev_bipush (v := 32) dJ6_numberOfTrailingZeros_0f7a4_13 (by decide +kernel) ?_
    refine Ev_iand dJ6_numberOfTrailingZeros_0f7a4_15 ?_
    exact Ev_ret dJ6_numberOfTrailingZeros_0f7a4_16 trivial (poI_mk h)
theorem k_X0_link {s : Sg} {v1 v2 : Int} {post : Sg → Prop} (h : w_X0_link s v1 v2 post) : EvM mX0_link 0 [(2, 53), (0, v1), (0, v2)] s (poV post) := by
  refine EvM_of rfl (by decide +kernel) (Nat.le_of_ble_eq_true rfl) ?_
  unfold w_X0_link at h
  show Ev mX0_link 0 0 [(0, (2, 53)), (1, (0, v1)), (2, (0, v2))] [] s (poV post)
  refine Ev_iload_n dX0_link_0 1 rfl ?_
  refine Ev_iload_n dX0_link_1 2 rfl ?_
  refine jc_0s (P := fun (s_1 : Sg) => Ev mX0_link 0 29 [] [] s_1 (poV post)) h ?_ ?_
  · intro s_1 h
    exact Ev_retv dX0_link_29 rfl (poV_mk h)
  · intro K_2 hK_2 h
    refine Ev_icmp_eq (tgt := 29) dX0_link_2 (by decide) (fun hc => ?_) (fun hc => ?_)
    · replace h := h.1 hc
      refine Ev_sub [] rfl ?_
      exact hK_2 _ h
    · replace h := h.2 hc
      refine Ev_aload_n dX0_link_5 0 rfl ?_
      refine Ev_getr 53 (59) dX0_link_6 f_RX0_27 rfl sh_53 rfl ?_
      refine Ev_iload_n dX0_link_9 1 rfl ?_
      refine Ev_dup2 dX0_link_10 (show ¬ (0 : Nat) = 1 by decide) (show ¬ (2 : Nat) = 1 by decide) ?_
      obtain ⟨hb_3, h⟩ := h
      refine Ev_lald (59) dX0_link_11 rfl sh_59 hb_3 ?_
      refine Ev_lconst (v := 1) dX0_link_12 (by decide +kernel) ?_
      refine Ev_iload_n dX0_link_13 2 rfl ?_
      refine Ev_lshl dX0_link_14 ?_
      refine Ev_lor dX0_link_15 ?_
      obtain ⟨hb_4, h⟩ := h
      obtain ⟨s_5, es_5⟩ : ∃ z : Sg, z = (up s 59 (v1.toNat) (lor (s 59 v1.toNat) (lshl 1 v2))) := ⟨_, rfl⟩
      replace h := h s_5 es_5
      refine Ev_last (59) dX0_link_16 rfl sh_59 hb_4 ?_
      rw [← es_5]
      refine Ev_aload_n dX0_link_17 0 rfl ?_
      refine Ev_getr 53 (59) dX0_link_18 f_RX0_27 rfl sh_53 rfl ?_
      refine Ev_iload_n dX0_link_21 2 rfl ?_
      refine Ev_dup2 dX0_link_22 (show ¬ (0 : Nat) = 1 by decide) (show ¬ (2 : Nat) = 1 by decide) ?_
      obtain ⟨hb_6, h⟩ := h
      refine Ev_lald (59) dX0_link_23 rfl sh_59 hb_6 ?_
      refine Ev_lconst (v := 1) dX0_link_24 (by decide +kernel) ?_
      refine Ev_iload_n dX0_link_25 1 rfl ?_
      refine Ev_lshl dX0_link_26 ?_
      refine Ev_lor dX0_link_27 ?_
      obtain ⟨hb_7, h⟩ := h
      obtain ⟨s_8, es_8⟩ : ∃ z : Sg, z = (up s_5 59 (v2.toNat) (lor (s_5 59 v2.toNat) (lshl 1 v1))) := ⟨_, rfl⟩
      replace h := h s_8 es_8
      refine Ev_last (59) dX0_link_28 rfl sh_59 hb_7 ?_
      rw [← es_8]
      refine Ev_sub [] rfl ?_
      exact hK_2 _ h
theorem k_X0_boundByCells {s : Sg} {post : Sg → Prop} (h : w_X0_boundByCells s post) : EvM mX0_boundByCells 1 [(2, 53), (2, 38)] s (poV post) := by
  refine EvM_of rfl (by decide +kernel) (Nat.le_of_ble_eq_true rfl) ?_
  unfold w_X0_boundByCells at h
  show Ev mX0_boundByCells 1 0 [(0, (2, 53)), (1, (2, 38))] [] s (poV post)
  refine Ev_iconst (v := 0) dX0_boundByCells_0 rfl ⟨by decide, by decide⟩ ?_
  refine Ev_istore_n dX0_boundByCells_1 (by decide) rfl ?_
  refine Ev_sub [1, 2, 0] rfl ?_
  refine li_1s (P := fun (v2_1 : Int) (s_2 : Sg) => Ev mX0_boundByCells 1 2 [(0, (2, 53)), (1, (2, 38)), (2, (0, v2_1))] [] s_2 (poV post)) ?_ h
  intro again_3 v2_1 s_2 hagain_3 h
  refine Ev_iload_n dX0_boundByCells_2 2 rfl ?_
  refine Ev_aload_n dX0_boundByCells_3 1 rfl ?_
  refine Ev_geti 38 dX0_boundByCells_4 f_RX0_31 rfl sh_38 ?_
  refine Ev_icmp_ge (tgt := 80) dX0_boundByCells_7 (by decide) (fun hc => ?_) (fun hc => ?_)
  · replace h := h.1 hc
    exact Ev_retv dX0_boundByCells_80 rfl (poV_mk h)
  · replace h := h.2 hc
    refine Ev_aload_n dX0_boundByCells_10 0 rfl ?_
    refine Ev_getr 53 (58) dX0_boundByCells_11 f_RX0_24 rfl sh_53 rfl ?_
    refine Ev_aload_n dX0_boundByCells_14 0 rfl ?_
    refine Ev_getr 53 (55) dX0_boundByCells_15 f_RX0_15 rfl sh_53 rfl ?_
    refine Ev_iload_n dX0_boundByCells_18 2 rfl ?_
    obtain ⟨hb_4, h⟩ := h
    refine Ev_iald (55) dX0_boundByCells_19 rfl sh_55 hb_4 ?_
    refine Ev_dup2 dX0_boundByCells_20 (show ¬ (0 : Nat) = 1 by decide) (show ¬ (2 : Nat) = 1 by decide) ?_
    obtain ⟨hb_5, h⟩ := h
    refine Ev_iald (58) dX0_boundByCells_21 rfl sh_58 hb_5 ?_
    refine Ev_aload_n dX0_boundByCells_22 1 rfl ?_
    refine Ev_getr 38 (43) dX0_boundByCells_23 f_RX0_80 rfl sh_38 rfl ?_
    refine Ev_iload_n dX0_boundByCells_26 2 rfl ?_
    obtain ⟨hb_6, h⟩ := h
    refine Ev_iald (43) dX0_boundByCells_27 rfl sh_43 hb_6 ?_
    refine Ev_aload_n dX0_boundByCells_28 1 rfl ?_
    refine Ev_getr 38 (44) dX0_boundByCells_29 f_RX0_83 rfl sh_38 rfl ?_
    refine Ev_iload_n dX0_boundByCells_32 2 rfl ?_
    obtain ⟨hb_7, h⟩ := h
    refine Ev_iald (44) dX0_boundByCells_33 rfl sh_44 hb_7 ?_
    refine Ev_ior dX0_boundByCells_34 ?_
    refine Ev_ior dX0_boundByCells_35 ?_
    obtain ⟨hb_8, h⟩ := h
    obtain ⟨s_9, es_9⟩ : ∃ z : Sg, z = (up s_2 58 ((s_2 55 v2_1.toNat).toNat) (ior (s_2 58 (s_2 55 v2_1.toNat).toNat) (ior (s_2 43 v2_1.toNat) (s_2 44 v2_1.toNat)))) := ⟨_, rfl⟩
    replace h := h s_9 es_9
    refine Ev_iast (58) dX0_boundByCells_36 rfl sh_58 hb_8 ?_
    rw [← es_9]
    refine Ev_aload_n dX0_boundByCells_37 1 rfl ?_
    refine Ev_getr 38 (44) dX0_boundByCells_38 f_RX0_83 rfl sh_38 rfl ?_
    refine Ev_iload_n dX0_boundByCells_41 2 rfl ?_
    obtain ⟨hb_10, h⟩ := h
    refine Ev_iald (44) dX0_boundByCells_42 rfl sh_44 hb_10 ?_
    refine jc_0s (P := fun (s_11 : Sg) => Ev mX0_boundByCells 1 74 [(0, (2, 53)), (1, (2, 38)), (2, (0, v2_1))] [] s_11 (poV post)) h ?_ ?_
    · intro s_11 h
      obtain ⟨v2_13, ev2_13⟩ : ∃ z : Int, z = w32 (v2_1 + 1) := ⟨_, rfl⟩
      replace h := h v2_13 ev2_13
      refine Ev_iinc (v := v2_13) dX0_boundByCells_74 2 rfl ev2_13.symm (by decide) rfl ?_
      refine Ev_goto (tgt := 2) dX0_boundByCells_77 (by decide) ?_
      refine Ev_sub [1, 2, 0] rfl ?_
      exact hagain_3 _ _ h
    · intro K_12 hK_12 h
      refine Ev_if_eq (tgt := 74) dX0_boundByCells_43 (by decide) (fun hc => ?_) (fun hc => ?_)
      · replace h := h.1 hc
        exact hK_12 _ h
      · replace h := h.2 hc
        refine Ev_iload_n dX0_boundByCells_46 2 rfl ?_
        refine Ev_iconst (v := 1) dX0_boundByCells_47 rfl ⟨by decide, by decide⟩ ?_
        refine Ev_iadd dX0_boundByCells_48 ?_
        refine Ev_aload_n dX0_boundByCells_49 1 rfl ?_
        refine Ev_geti 38 dX0_boundByCells_50 f_RX0_31 rfl sh_38 ?_
        refine Ev_icmp_ge (tgt := 74) dX0_boundByCells_53 (by decide) (fun hc => ?_) (fun hc => ?_)
        · replace h := h.1 hc
          exact hK_12 _ h
        · replace h := h.2 hc
          refine Ev_aload_n dX0_boundByCells_56 0 rfl ?_
          refine Ev_aload_n dX0_boundByCells_57 0 rfl ?_
          refine Ev_getr 53 (55) dX0_boundByCells_58 f_RX0_15 rfl sh_53 rfl ?_
          refine Ev_iload_n dX0_boundByCells_61 2 rfl ?_
          obtain ⟨hb_14, h⟩ := h
          refine Ev_iald (55) dX0_boundByCells_62 rfl sh_55 hb_14 ?_
          refine Ev_aload_n dX0_boundByCells_63 0 rfl ?_
          refine Ev_getr 53 (55) dX0_boundByCells_64 f_RX0_15 rfl sh_53 rfl ?_
          refine Ev_iload_n dX0_boundByCells_67 2 rfl ?_
          refine Ev_iconst (v := 1) dX0_boundByCells_68 rfl ⟨by decide, by decide⟩ ?_
          refine Ev_iadd dX0_boundByCells_69 ?_
          obtain ⟨hb_15, h⟩ := h
          refine Ev_iald (55) dX0_boundByCells_70 rfl sh_55 hb_15 ?_
          refine Ev_invV (d' := 0) [(0, s_9 55 v2_1.toNat), (0, s_9 55 (w32 (v2_1 + 1)).toNat)] 53 dX0_boundByCells_71 M_X0_link q_701 (by decide) rfl rfl sh_53 rfl (Nat.le_of_ble_eq_true rfl) (k_X0_link h) ?_
          rintro _ s_16 ⟨rfl, h⟩
          exact hK_12 _ h
theorem k_X0_boundByUprights {s : Sg} {post : Sg → Prop} (h : w_X0_boundByUprights s post) : EvM mX0_boundByUprights 1 [(2, 53), (2, 45)] s (poV post) := by
  refine EvM_of rfl (by decide +kernel) (Nat.le_of_ble_eq_true rfl) ?_
  unfold w_X0_boundByUprights at h
  show Ev mX0_boundByUprights 1 0 [(0, (2, 53)), (1, (2, 45))] [] s (poV post)
  refine Ev_iconst (v := 0) dX0_boundByUprights_0 rfl ⟨by decide, by decide⟩ ?_
  refine Ev_istore_n dX0_boundByUprights_1 (by decide) rfl ?_
  refine Ev_sub [1, 2, 0] rfl ?_
  refine li_1s (P := fun (v2_1 : Int) (s_2 : Sg) => Ev mX0_boundByUprights 1 2 [(0, (2, 53)), (1, (2, 45)), (2, (0, v2_1))] [] s_2 (poV post)) ?_ h
  intro again_3 v2_1 s_2 hagain_3 h
  refine Ev_iload_n dX0_boundByUprights_2 2 rfl ?_
  refine Ev_aload_n dX0_boundByUprights_3 1 rfl ?_
  refine Ev_geti 45 dX0_boundByUprights_4 f_RX0_36 rfl sh_45 ?_
  refine Ev_icmp_ge (tgt := 88) dX0_boundByUprights_7 (by decide) (fun hc => ?_) (fun hc => ?_)
  · replace h := h.1 hc
    exact Ev_retv dX0_boundByUprights_88 rfl (poV_mk h)
  · replace h := h.2 hc
    refine Ev_aload_n dX0_boundByUprights_10 1 rfl ?_
    refine Ev_getr 45 (48) dX0_boundByUprights_11 f_RX0_41 rfl sh_45 rfl ?_
    refine Ev_iload_n dX0_boundByUprights_14 2 rfl ?_
    obtain ⟨hb_4, h⟩ := h
    refine Ev_iald (48) dX0_boundByUprights_15 rfl sh_48 hb_4 ?_
    refine jc_0s (P := fun (s_5 : Sg) => Ev mX0_boundByUprights 1 82 [(0, (2, 53)), (1, (2, 45)), (2, (0, v2_1))] [] s_5 (poV post)) h ?_ ?_
    · intro s_5 h
      obtain ⟨v2_7, ev2_7⟩ : ∃ z : Int, z = w32 (v2_1 + 1) := ⟨_, rfl⟩
      replace h := h v2_7 ev2_7
      refine Ev_iinc (v := v2_7) dX0_boundByUprights_82 2 rfl ev2_7.symm (by decide) rfl ?_
      refine Ev_goto (tgt := 2) dX0_boundByUprights_85 (by decide) ?_
      refine Ev_sub [1, 2, 0] rfl ?_
      exact hagain_3 _ _ h
    · intro K_6 hK_6 h
      refine Ev_if_eq (tgt := 82) dX0_boundByUprights_16 (by decide) (fun hc => ?_) (fun hc => ?_)
      · replace h := h.1 hc
        exact hK_6 _ h
      · replace h := h.2 hc
        refine Ev_aload_n dX0_boundByUprights_19 0 rfl ?_
        refine Ev_getr 53 (55) dX0_boundByUprights_20 f_RX0_15 rfl sh_53 rfl ?_
        refine Ev_aload_n dX0_boundByUprights_23 1 rfl ?_
        refine Ev_getr 45 (46) dX0_boundByUprights_24 f_RX0_44 rfl sh_45 rfl ?_
        refine Ev_iload_n dX0_boundByUprights_27 2 rfl ?_
        obtain ⟨hb_8, h⟩ := h
        refine Ev_iald (46) dX0_boundByUprights_28 rfl sh_46 hb_8 ?_
        obtain ⟨hb_9, h⟩ := h
        refine Ev_iald (55) dX0_boundByUprights_29 rfl sh_55 hb_9 ?_
        obtain ⟨v3_10, ev3_10⟩ : ∃ z : Int, z = s_2 55 (s_2 46 v2_1.toNat).toNat := ⟨_, rfl⟩
        replace h := h v3_10 ev3_10
        rw [← ev3_10]
        refine Ev_istore_n dX0_boundByUprights_30 (by decide) rfl ?_
        refine Ev_aload_n dX0_boundByUprights_31 1 rfl ?_
        refine Ev_getr 53 (55) dX0_boundByUprights_32 f_RX0_15 rfl sh_53 rfl ?_
        refine Ev_aload_n dX0_boundByUprights_35 2 rfl ?_
        refine Ev_getr 45 (47) dX0_boundByUprights_36 f_RX0_47 rfl sh_45 rfl ?_
        refine Ev_iload_n dX0_boundByUprights_39 3 rfl ?_
        obtain ⟨hb_11, h⟩ := h
        refine Ev_iald (47) dX0_boundByUprights_40 rfl sh_47 hb_11 ?_
        obtain ⟨hb_12, h⟩ := h
        refine Ev_iald (55) dX0_boundByUprights_41 rfl sh_55 hb_12 ?_
        obtain ⟨v4_13, ev4_13⟩ : ∃ z : Int, z = s_2 55 (s_2 47 v2_1.toNat).toNat := ⟨_, rfl⟩
        replace h := h v4_13 ev4_13
        rw [← ev4_13]
        refine Ev_istore dX0_boundByUprights_42 (by decide) rfl ?_
        refine Ev_aload_n dX0_boundByUprights_44 2 rfl ?_
        refine Ev_getr 53 (58) dX0_boundByUprights_45 f_RX0_24 rfl sh_53 rfl ?_
        refine Ev_iload_n dX0_boundByUprights_48 1 rfl ?_
        refine Ev_dup2 dX0_boundByUprights_49 (show ¬ (0 : Nat) = 1 by decide) (show ¬ (2 : Nat) = 1 by decide) ?_
        obtain ⟨hb_14, h⟩ := h
        refine Ev_iald (58) dX0_boundByUprights_50 rfl sh_58 hb_14 ?_
        refine Ev_aload_n dX0_boundByUprights_51 3 rfl ?_
        refine Ev_getr 45 (48) dX0_boundByUprights_52 f_RX0_41 rfl sh_45 rfl ?_
        refine Ev_iload_n dX0_boundByUprights_55 4 rfl ?_
        obtain ⟨hb_15, h⟩ := h
        refine Ev_iald (48) dX0_boundByUprights_56 rfl sh_48 hb_15 ?_
        refine Ev_ior dX0_boundByUprights_57 ?_
        obtain ⟨hb_16, h⟩ := h
        obtain ⟨s_17, es_17⟩ : ∃ z : Sg, z = (up s_2 58 (v3_10.toNat) (ior (s_2 58 v3_10.toNat) (s_2 48 v2_1.toNat))) := ⟨_, rfl⟩
        replace h := h s_17 es_17
        refine Ev_iast (58) dX0_boundByUprights_58 rfl sh_58 hb_16 ?_
        rw [← es_17]
        refine Ev_aload_n dX0_boundByUprights_59 2 rfl ?_
        refine Ev_getr 53 (58) dX0_boundByUprights_60 f_RX0_24 rfl sh_53 rfl ?_
        refine Ev_iload dX0_boundByUprights_63 0 rfl ?_
        refine Ev_dup2 dX0_boundByUprights_65 (show ¬ (0 : Nat) = 1 by decide) (show ¬ (2 : Nat) = 1 by decide) ?_
        obtain ⟨hb_18, h⟩ := h
        refine Ev_iald (58) dX0_boundByUprights_66 rfl sh_58 hb_18 ?_
        refine Ev_aload_n dX0_boundByUprights_67 3 rfl ?_
        refine Ev_getr 45 (48) dX0_boundByUprights_68 f_RX0_41 rfl sh_45 rfl ?_
        refine Ev_iload_n dX0_boundByUprights_71 4 rfl ?_
        obtain ⟨hb_19, h⟩ := h
        refine Ev_iald (48) dX0_boundByUprights_72 rfl sh_48 hb_19 ?_
        refine Ev_ior dX0_boundByUprights_73 ?_
        obtain ⟨hb_20, h⟩ := h
        obtain ⟨s_21, es_21⟩ : ∃ z : Sg, z = (up s_17 58 (v4_13.toNat) (ior (s_17 58 v4_13.toNat) (s_17 48 v2_1.toNat))) := ⟨_, rfl⟩
        replace h := h s_21 es_21
        refine Ev_iast (58) dX0_boundByUprights_74 rfl sh_58 hb_20 ?_
        rw [← es_21]
        refine Ev_aload_n dX0_boundByUprights_75 2 rfl ?_
        refine Ev_iload_n dX0_boundByUprights_76 1 rfl ?_
        refine Ev_iload dX0_boundByUprights_77 0 rfl ?_
        refine Ev_invV (d' := 0) [(0, v3_10), (0, v4_13)] 53 dX0_boundByUprights_79 M_X0_link q_701 (by decide) rfl rfl sh_53 rfl (Nat.le_of_ble_eq_true rfl) (k_X0_link h) ?_
        rintro _ s_22 ⟨rfl, h⟩
        refine Ev_sub [2, 3, 4] rfl ?_
        exact hK_6 _ h
theorem k_X0_rootOf {s : Sg} {v1 : Int} {post : Int → Prop} (h : w_X0_rootOf s v1 post) : EvM mX0_rootOf 0 [(2, 53), (0, v1)] s (poI 0 s post) := by
  refine EvM_of rfl (by decide +kernel) (Nat.le_of_ble_eq_true rfl) ?_
  unfold w_X0_rootOf at h
  show Ev mX0_rootOf 0 0 [(0, (2, 53)), (1, (0, v1))] [] s (poI 0 s post)
  refine Ev_iload_n dX0_rootOf_0 1 rfl ?_
  refine Ev_istore_n dX0_rootOf_1 (by decide) rfl ?_
  refine Ev_iconst (v := 0) dX0_rootOf_2 rfl ⟨by decide, by decide⟩ ?_
  refine Ev_istore_n dX0_rootOf_3 (by decide) rfl ?_
  refine Ev_sub [2, 1, 0] rfl ?_
  refine li_2 (P := fun (v2_1 v3_2 : Int) => Ev mX0_rootOf 0 4 [(0, (2, 53)), (2, (0, v2_1)), (3, (0, v3_2))] [] s (poI 0 s post)) ?_ h
  intro again_3 v2_1 v3_2 hagain_3 h
  refine Ev_iload_n dX0_rootOf_4 2 rfl ?_
  refine Ev_sipush (v := 726) dX0_rootOf_5 (by decide +kernel) ?_
  refine jc_0 (P := Ev mX0_rootOf 0 34 [(2, (0, v2_1))] [] s (poI 0 s post)) h ?_ ?_
  · intro  h
    refine Ev_iload_n dX0_rootOf_34 0 rfl ?_
    exact Ev_ret dX0_rootOf_35 trivial (poI_mk h)
  · intro K_4 hK_4 h
    refine Ev_icmp_ge (tgt := 34) dX0_rootOf_8 (by decide) (fun hc => ?_) (fun hc => ?_)
    · replace h := h.1 hc
      refine Ev_sub [1] rfl ?_
      exact hK_4 h
    · replace h := h.2 hc
      refine Ev_aload_n dX0_rootOf_11 0 rfl ?_
      refine Ev_getr 53 (54) dX0_rootOf_12 f_RX0_9 rfl sh_53 rfl ?_
      refine Ev_iload_n dX0_rootOf_15 1 rfl ?_
      obtain ⟨hb_5, h⟩ := h
      refine Ev_iald (54) dX0_rootOf_16 rfl sh_54 hb_5 ?_
      refine Ev_iload_n dX0_rootOf_17 1 rfl ?_
      refine Ev_icmp_eq (tgt := 34) dX0_rootOf_18 (by decide) (fun hc => ?_) (fun hc => ?_)
      · replace h := h.1 hc
        refine Ev_sub [1] rfl ?_
        exact hK_4 h
      · replace h := h.2 hc
        refine Ev_aload_n dX0_rootOf_21 0 rfl ?_
        refine Ev_getr 53 (54) dX0_rootOf_22 f_RX0_9 rfl sh_53 rfl ?_
        refine Ev_iload_n dX0_rootOf_25 1 rfl ?_
        obtain ⟨hb_6, h⟩ := h
        refine Ev_iald (54) dX0_rootOf_26 rfl sh_54 hb_6 ?_
        obtain ⟨v2_7, ev2_7⟩ : ∃ z : Int, z = s 54 v2_1.toNat := ⟨_, rfl⟩
        replace h := h v2_7 ev2_7
        rw [← ev2_7]
        refine Ev_istore_n dX0_rootOf_27 (by decide) rfl ?_
        obtain ⟨v3_8, ev3_8⟩ : ∃ z : Int, z = w32 (v3_2 + 1) := ⟨_, rfl⟩
        replace h := h v3_8 ev3_8
        refine Ev_iinc (v := v3_8) dX0_rootOf_28 2 rfl ev3_8.symm (by decide) rfl ?_
        refine Ev_goto (tgt := 4) dX0_rootOf_31 (by decide) ?_
        refine Ev_sub [2, 1, 0] rfl ?_
        exact hagain_3 _ _ h
theorem k_X0_unite {s : Sg} {v1 v2 : Int} {post : Sg → Prop} (h : w_X0_unite s v1 v2 post) : EvM mX0_unite 1 [(2, 53), (0, v1), (0, v2)] s (poV post) := by
  refine EvM_of rfl (by decide +kernel) (Nat.le_of_ble_eq_true rfl) ?_
  unfold w_X0_unite at h
  show Ev mX0_unite 1 0 [(0, (2, 53)), (1, (0, v1)), (2, (0, v2))] [] s (poV post)
  refine Ev_aload_n dX0_unite_0 0 rfl ?_
  refine Ev_iload_n dX0_unite_1 1 rfl ?_
  refine Ev_invV (d' := 0) [(0, v1)] 53 dX0_unite_2 M_X0_rootOf q_687 (by decide) rfl rfl sh_53 rfl (Nat.le_of_ble_eq_true rfl) (k_X0_rootOf h) ?_
  rintro _ _ ⟨rfl, r_1, rfl, h⟩
  refine Ev_istore_n dX0_unite_5 (by decide) rfl ?_
  refine Ev_aload_n dX0_unite_6 1 rfl ?_
  refine Ev_iload_n dX0_unite_7 3 rfl ?_
  refine Ev_invV (d' := 0) [(0, v2)] 53 dX0_unite_8 M_X0_rootOf q_687 (by decide) rfl rfl sh_53 rfl (Nat.le_of_ble_eq_true rfl) (k_X0_rootOf h) ?_
  rintro _ _ ⟨rfl, r_2, rfl, h⟩
  refine Ev_istore dX0_unite_11 (by decide) rfl ?_
  refine Ev_aload_n dX0_unite_13 2 rfl ?_
  refine Ev_getr 53 (54) dX0_unite_14 f_RX0_9 rfl sh_53 rfl ?_
  refine Ev_iload_n dX0_unite_17 1 rfl ?_
  refine Ev_iload dX0_unite_18 0 rfl ?_
  refine Ev_max dX0_unite_20 ⟨q_691, q_508, q_12, q_509⟩ (by decide) (Nat.le_of_ble_eq_true rfl) ?_
  refine Ev_iload_n dX0_unite_23 1 rfl ?_
  refine Ev_iload dX0_unite_24 0 rfl ?_
  refine Ev_min dX0_unite_26 ⟨q_692, q_505, q_12, q_506⟩ (by decide) (Nat.le_of_ble_eq_true rfl) ?_
  obtain ⟨hb_3, h⟩ := h
  obtain ⟨s_4, es_4⟩ : ∃ z : Sg, z = (up s 54 ((if r_1 < r_2 then r_2 else r_1).toNat) (if r_2 < r_1 then r_2 else r_1)) := ⟨_, rfl⟩
  replace h := h s_4 es_4
  refine Ev_iast (54) dX0_unite_29 rfl sh_54 hb_3 ?_
  rw [← es_4]
  exact Ev_retv dX0_unite_30 rfl (poV_mk h)
theorem k_X0_number {s : Sg} {v1 : Int} {post : Sg → Prop} (h : w_X0_number s v1 post) : EvM mX0_number 1 [(2, 53), (0, v1)] s (poV post) := by
  refine EvM_of rfl (by decide +kernel) (Nat.le_of_ble_eq_true rfl) ?_
  unfold w_X0_number at h
  show Ev mX0_number 1 0 [(0, (2, 53)), (1, (0, v1))] [] s (poV post)
  refine Ev_aload_n dX0_number_0 0 rfl ?_
  refine Ev_iconst (v := 0) dX0_number_1 rfl ⟨by decide, by decide⟩ ?_
  obtain ⟨s_1, es_1⟩ : ∃ z : Sg, z = (up s 53 0 0) := ⟨_, rfl⟩
  replace h := h s_1 es_1
  refine Ev_puti 53 dX0_number_2 fp_RX0_79 rfl sh_53 ?_
  rw [← es_1]
  refine Ev_iconst (v := 0) dX0_number_5 rfl ⟨by decide, by decide⟩ ?_
  refine Ev_istore_n dX0_number_6 (by decide) rfl ?_
  refine Ev_sub [1, 2, 0] rfl ?_
  refine li_1s (P := fun (v2_2 : Int) (s_3 : Sg) => Ev mX0_number 1 7 [(0, (2, 53)), (1, (0, v1)), (2, (0, v2_2))] [] s_3 (poV post)) ?_ h
  intro again_4 v2_2 s_3 hagain_4 h
  refine Ev_iload_n dX0_number_7 2 rfl ?_
  refine Ev_iload_n dX0_number_8 1 rfl ?_
  refine Ev_icmp_ge (tgt := 128) dX0_number_9 (by decide) (fun hc => ?_) (fun hc => ?_)
  · replace h := h.1 hc
    exact Ev_retv dX0_number_128 rfl (poV_mk h)
  · replace h := h.2 hc
    refine Ev_aload_n dX0_number_12 0 rfl ?_
    refine Ev_iload_n dX0_number_13 2 rfl ?_
    refine Ev_invV (d' := 0) [(0, v2_2)] 53 dX0_number_14 M_X0_rootOf q_687 (by decide) rfl rfl sh_53 rfl (Nat.le_of_ble_eq_true rfl) (k_X0_rootOf h) ?_
    rintro _ _ ⟨rfl, r_5, rfl, h⟩
    refine Ev_istore_n dX0_number_17 (by decide) rfl ?_
    refine Ev_iload_n dX0_number_18 0 rfl ?_
    refine Ev_iload_n dX0_number_19 3 rfl ?_
    refine jc_0s (P := fun (s_6 : Sg) => Ev mX0_number 1 107 [(0, (2, 53)), (1, (0, v1)), (2, (0, v2_2))] [] s_6 (poV post)) h ?_ ?_
    · intro s_6 h
      refine Ev_aload_n dX0_number_107 0 rfl ?_
      refine Ev_getr 53 (57) dX0_number_108 f_RX0_21 rfl sh_53 rfl ?_
      refine Ev_aload_n dX0_number_111 0 rfl ?_
      refine Ev_getr 53 (55) dX0_number_112 f_RX0_15 rfl sh_53 rfl ?_
      refine Ev_iload_n dX0_number_115 2 rfl ?_
      obtain ⟨hb_8, h⟩ := h
      refine Ev_iald (55) dX0_number_116 rfl sh_55 hb_8 ?_
      refine Ev_dup2 dX0_number_117 (show ¬ (0 : Nat) = 1 by decide) (show ¬ (2 : Nat) = 1 by decide) ?_
      obtain ⟨hb_9, h⟩ := h
      refine Ev_iald (57) dX0_number_118 rfl sh_57 hb_9 ?_
      refine Ev_iconst (v := 1) dX0_number_119 rfl ⟨by decide, by decide⟩ ?_
      refine Ev_iadd dX0_number_120 ?_
      obtain ⟨hb_10, h⟩ := h
      obtain ⟨s_11, es_11⟩ : ∃ z : Sg, z = (up s_6 57 ((s_6 55 v2_2.toNat).toNat) (w32 ((s_6 57 (s_6 55 v2_2.toNat).toNat) + 1))) := ⟨_, rfl⟩
      replace h := h s_11 es_11
      refine Ev_iast (57) dX0_number_121 rfl sh_57 hb_10 ?_
      rw [← es_11]
      obtain ⟨v2_12, ev2_12⟩ : ∃ z : Int, z = w32 (v2_2 + 1) := ⟨_, rfl⟩
      replace h := h v2_12 ev2_12
      refine Ev_iinc (v := v2_12) dX0_number_122 2 rfl ev2_12.symm (by decide) rfl ?_
      refine Ev_goto (tgt := 7) dX0_number_125 (by decide) ?_
      refine Ev_sub [1, 2, 0] rfl ?_
      exact hagain_4 _ _ h
    · intro K_7 hK_7 h
      refine Ev_icmp_eq (tgt := 38) dX0_number_20 (by decide) (fun hc => ?_) (fun hc => ?_)
      · replace h := h.1 hc
        refine Ev_aload_n dX0_number_38 1 rfl ?_
        refine Ev_geti 53 dX0_number_39 f_RX0_79 rfl sh_53 ?_
        refine Ev_bipush (v := 64) dX0_number_42 (by decide +kernel) ?_
        refine Ev_icmp_ge (tgt := 107) dX0_number_44 (by decide) (fun hc => ?_) (fun hc => ?_)
        · replace h := h.1 hc
          refine Ev_sub [1, 2, 3] rfl ?_
          exact hK_7 _ h
        · replace h := h.2 hc
          refine Ev_aload_n dX0_number_47 1 rfl ?_
          refine Ev_getr 53 (55) dX0_number_48 f_RX0_15 rfl sh_53 rfl ?_
          refine Ev_iload_n dX0_number_51 3 rfl ?_
          refine Ev_aload_n dX0_number_52 1 rfl ?_
          refine Ev_geti 53 dX0_number_53 f_RX0_79 rfl sh_53 ?_
          obtain ⟨hb_13, h⟩ := h
          obtain ⟨s_14, es_14⟩ : ∃ z : Sg, z = (up s_3 55 (v2_2.toNat) (s_3 53 0)) := ⟨_, rfl⟩
          replace h := h s_14 es_14
          refine Ev_iast (55) dX0_number_56 rfl sh_55 hb_13 ?_
          rw [← es_14]
          refine Ev_aload_n dX0_number_57 1 rfl ?_
          refine Ev_getr 53 (56) dX0_number_58 f_RX0_18 rfl sh_53 rfl ?_
          refine Ev_aload_n dX0_number_61 1 rfl ?_
          refine Ev_geti 53 dX0_number_62 f_RX0_79 rfl sh_53 ?_
          refine Ev_iload_n dX0_number_65 3 rfl ?_
          obtain ⟨hb_15, h⟩ := h
          obtain ⟨s_16, es_16⟩ : ∃ z : Sg, z = (up s_14 56 ((s_14 53 0).toNat) v2_2) := ⟨_, rfl⟩
          replace h := h s_16 es_16
          refine Ev_iast (56) dX0_number_66 rfl sh_56 hb_15 ?_
          rw [← es_16]
          refine Ev_aload_n dX0_number_67 1 rfl ?_
          refine Ev_getr 53 (57) dX0_number_68 f_RX0_21 rfl sh_53 rfl ?_
          refine Ev_aload_n dX0_number_71 1 rfl ?_
          refine Ev_geti 53 dX0_number_72 f_RX0_79 rfl sh_53 ?_
          refine Ev_iconst (v := 0) dX0_number_75 rfl ⟨by decide, by decide⟩ ?_
          obtain ⟨hb_17, h⟩ := h
          obtain ⟨s_18, es_18⟩ : ∃ z : Sg, z = (up s_16 57 ((s_16 53 0).toNat) 0) := ⟨_, rfl⟩
          replace h := h s_18 es_18
          refine Ev_iast (57) dX0_number_76 rfl sh_57 hb_17 ?_
          rw [← es_18]
          refine Ev_aload_n dX0_number_77 1 rfl ?_
          refine Ev_getr 53 (58) dX0_number_78 f_RX0_24 rfl sh_53 rfl ?_
          refine Ev_aload_n dX0_number_81 1 rfl ?_
          refine Ev_geti 53 dX0_number_82 f_RX0_79 rfl sh_53 ?_
          refine Ev_iconst (v := 0) dX0_number_85 rfl ⟨by decide, by decide⟩ ?_
          obtain ⟨hb_19, h⟩ := h
          obtain ⟨s_20, es_20⟩ : ∃ z : Sg, z = (up s_18 58 ((s_18 53 0).toNat) 0) := ⟨_, rfl⟩
          replace h := h s_20 es_20
          refine Ev_iast (58) dX0_number_86 rfl sh_58 hb_19 ?_
          rw [← es_20]
          refine Ev_aload_n dX0_number_87 1 rfl ?_
          refine Ev_getr 53 (59) dX0_number_88 f_RX0_27 rfl sh_53 rfl ?_
          refine Ev_aload_n dX0_number_91 1 rfl ?_
          refine Ev_geti 53 dX0_number_92 f_RX0_79 rfl sh_53 ?_
          refine Ev_lconst (v := 0) dX0_number_95 (by decide +kernel) ?_
          obtain ⟨hb_21, h⟩ := h
          obtain ⟨s_22, es_22⟩ : ∃ z : Sg, z = (up s_20 59 ((s_20 53 0).toNat) 0) := ⟨_, rfl⟩
          replace h := h s_22 es_22
          refine Ev_last (59) dX0_number_96 rfl sh_59 hb_21 ?_
          rw [← es_22]
          refine Ev_aload_n dX0_number_97 1 rfl ?_
          refine Ev_dup dX0_number_98 (show ¬ (2 : Nat) = 1 by decide) ?_
          refine Ev_geti 53 dX0_number_99 f_RX0_79 rfl sh_53 ?_
          refine Ev_iconst (v := 1) dX0_number_102 rfl ⟨by decide, by decide⟩ ?_
          refine Ev_iadd dX0_number_103 ?_
          obtain ⟨s_23, es_23⟩ : ∃ z : Sg, z = (up s_22 53 0 (w32 ((s_22 53 0) + 1))) := ⟨_, rfl⟩
          replace h := h s_23 es_23
          refine Ev_puti 53 dX0_number_104 fp_RX0_79 rfl sh_53 ?_
          rw [← es_23]
          refine Ev_sub [1, 2, 3] rfl ?_
          exact hK_7 _ h
      · replace h := h.2 hc
        refine Ev_aload_n dX0_number_23 1 rfl ?_
        refine Ev_getr 53 (55) dX0_number_24 f_RX0_15 rfl sh_53 rfl ?_
        refine Ev_iload_n dX0_number_27 3 rfl ?_
        refine Ev_aload_n dX0_number_28 1 rfl ?_
        refine Ev_getr 53 (55) dX0_number_29 f_RX0_15 rfl sh_53 rfl ?_
        refine Ev_iload_n dX0_number_32 0 rfl ?_
        obtain ⟨hb_24, h⟩ := h
        refine Ev_iald (55) dX0_number_33 rfl sh_55 hb_24 ?_
        obtain ⟨hb_25, h⟩ := h
        obtain ⟨s_26, es_26⟩ : ∃ z : Sg, z = (up s_3 55 (v2_2.toNat) (s_3 55 r_5.toNat)) := ⟨_, rfl⟩
        replace h := h s_26 es_26
        refine Ev_iast (55) dX0_number_34 rfl sh_55 hb_25 ?_
        rw [← es_26]
        refine Ev_goto (tgt := 107) dX0_number_35 (by decide) ?_
        refine Ev_sub [1, 2, 3] rfl ?_
        exact hK_7 _ h
theorem k_X0_join {s : Sg} {post : Sg → Prop} (h : w_X0_join s post) : EvM mX0_join 2 [(2, 53), (2, 38), (2, 45)] s (poV post) := by
  refine EvM_of rfl (by decide +kernel) (Nat.le_of_ble_eq_true rfl) ?_
  unfold w_X0_join at h
  show Ev mX0_join 2 0 [(0, (2, 53)), (1, (2, 38)), (2, (2, 45))] [] s (poV post)
  refine Ev_iconst (v := 0) dX0_join_0 rfl ⟨by decide, by decide⟩ ?_
  refine Ev_istore_n dX0_join_1 (by decide) rfl ?_
  refine Ev_sub [1, 2, 3, 0] rfl ?_
  refine li_1s (P := fun (v3_1 : Int) (s_2 : Sg) => Ev mX0_join 2 2 [(0, (2, 53)), (1, (2, 38)), (2, (2, 45)), (3, (0, v3_1))] [] s_2 (poV post)) ?_ h
  intro again_3 v3_1 s_2 hagain_3 h
  refine Ev_iload_n dX0_join_2 3 rfl ?_
  refine Ev_aload_n dX0_join_3 1 rfl ?_
  refine Ev_geti 38 dX0_join_4 f_RX0_31 rfl sh_38 ?_
  refine Ev_icmp_ge (tgt := 23) dX0_join_7 (by decide) (fun hc => ?_) (fun hc => ?_)
  · replace h := h.1 hc
    refine Ev_iconst (v := 0) dX0_join_23 rfl ⟨by decide, by decide⟩ ?_
    refine Ev_istore_n dX0_join_24 (by decide) rfl ?_
    refine Ev_sub [1, 2, 3, 0] rfl ?_
    refine li_1s (P := fun (v3_4 : Int) (s_5 : Sg) => Ev mX0_join 2 25 [(0, (2, 53)), (1, (2, 38)), (2, (2, 45)), (3, (0, v3_4))] [] s_5 (poV post)) ?_ h
    intro again_6 v3_4 s_5 hagain_6 h
    refine Ev_iload_n dX0_join_25 3 rfl ?_
    refine Ev_aload_n dX0_join_26 2 rfl ?_
    refine Ev_geti 45 dX0_join_27 f_RX0_36 rfl sh_45 ?_
    refine Ev_icmp_ge (tgt := 64) dX0_join_30 (by decide) (fun hc => ?_) (fun hc => ?_)
    · replace h := h.1 hc
      refine Ev_aload_n dX0_join_64 0 rfl ?_
      refine Ev_aload_n dX0_join_65 1 rfl ?_
      refine Ev_geti 38 dX0_join_66 f_RX0_31 rfl sh_38 ?_
      refine Ev_invV (d' := 1) [(0, s_5 38 1)] 53 dX0_join_69 M_X0_number q_693 (by decide) rfl rfl sh_53 rfl (Nat.le_of_ble_eq_true rfl) (k_X0_number h) ?_
      rintro _ s_7 ⟨rfl, h⟩
      refine Ev_aload_n dX0_join_72 0 rfl ?_
      refine Ev_aload_n dX0_join_73 1 rfl ?_
      refine Ev_invV (d' := 1) [(2, 38)] 53 dX0_join_74 M_X0_boundByCells q_697 (by decide) rfl rfl sh_53 rfl (Nat.le_of_ble_eq_true rfl) (k_X0_boundByCells h) ?_
      rintro _ s_8 ⟨rfl, h⟩
      refine Ev_aload_n dX0_join_77 0 rfl ?_
      refine Ev_aload_n dX0_join_78 2 rfl ?_
      refine Ev_invV (d' := 1) [(2, 45)] 53 dX0_join_79 M_X0_boundByUprights q_705 (by decide) rfl rfl sh_53 rfl (Nat.le_of_ble_eq_true rfl) (k_X0_boundByUprights h) ?_
      rintro _ s_9 ⟨rfl, h⟩
      exact Ev_retv dX0_join_82 rfl (poV_mk h)
    · replace h := h.2 hc
      refine Ev_aload_n dX0_join_33 2 rfl ?_
      refine Ev_getr 45 (48) dX0_join_34 f_RX0_41 rfl sh_45 rfl ?_
      refine Ev_iload_n dX0_join_37 3 rfl ?_
      obtain ⟨hb_10, h⟩ := h
      refine Ev_iald (48) dX0_join_38 rfl sh_48 hb_10 ?_
      refine jc_0s (P := fun (s_11 : Sg) => Ev mX0_join 2 58 [(0, (2, 53)), (1, (2, 38)), (2, (2, 45)), (3, (0, v3_4))] [] s_11 (poV post)) h ?_ ?_
      · intro s_11 h
        obtain ⟨v3_13, ev3_13⟩ : ∃ z : Int, z = w32 (v3_4 + 1) := ⟨_, rfl⟩
        replace h := h v3_13 ev3_13
        refine Ev_iinc (v := v3_13) dX0_join_58 3 rfl ev3_13.symm (by decide) rfl ?_
        refine Ev_goto (tgt := 25) dX0_join_61 (by decide) ?_
        refine Ev_sub [1, 2, 3, 0] rfl ?_
        exact hagain_6 _ _ h
      · intro K_12 hK_12 h
        refine Ev_if_ne (tgt := 58) dX0_join_39 (by decide) (fun hc => ?_) (fun hc => ?_)
        · replace h := h.1 hc
          exact hK_12 _ h
        · replace h := h.2 hc
          refine Ev_aload_n dX0_join_42 0 rfl ?_
          refine Ev_aload_n dX0_join_43 2 rfl ?_
          refine Ev_getr 45 (46) dX0_join_44 f_RX0_44 rfl sh_45 rfl ?_
          refine Ev_iload_n dX0_join_47 3 rfl ?_
          obtain ⟨hb_14, h⟩ := h
          refine Ev_iald (46) dX0_join_48 rfl sh_46 hb_14 ?_
          refine Ev_aload_n dX0_join_49 2 rfl ?_
          refine Ev_getr 45 (47) dX0_join_50 f_RX0_47 rfl sh_45 rfl ?_
          refine Ev_iload_n dX0_join_53 3 rfl ?_
          obtain ⟨hb_15, h⟩ := h
          refine Ev_iald (47) dX0_join_54 rfl sh_47 hb_15 ?_
          refine Ev_invV (d' := 1) [(0, s_5 46 v3_4.toNat), (0, s_5 47 v3_4.toNat)] 53 dX0_join_55 M_X0_unite q_683 (by decide) rfl rfl sh_53 rfl (Nat.le_of_ble_eq_true rfl) (k_X0_unite h) ?_
          rintro _ s_16 ⟨rfl, h⟩
          exact hK_12 _ h
  · replace h := h.2 hc
    refine Ev_aload_n dX0_join_10 0 rfl ?_
    refine Ev_getr 53 (54) dX0_join_11 f_RX0_9 rfl sh_53 rfl ?_
    refine Ev_iload_n dX0_join_14 3 rfl ?_
    refine Ev_iload_n dX0_join_15 3 rfl ?_
    obtain ⟨hb_17, h⟩ := h
    obtain ⟨s_18, es_18⟩ : ∃ z : Sg, z = (up s_2 54 (v3_1.toNat) v3_1) := ⟨_, rfl⟩
    replace h := h s_18 es_18
    refine Ev_iast (54) dX0_join_16 rfl sh_54 hb_17 ?_
    rw [← es_18]
    obtain ⟨v3_19, ev3_19⟩ : ∃ z : Int, z = w32 (v3_1 + 1) := ⟨_, rfl⟩
    replace h := h v3_19 ev3_19
    refine Ev_iinc (v := v3_19) dX0_join_17 3 rfl ev3_19.symm (by decide) rfl ?_
    refine Ev_goto (tgt := 2) dX0_join_20 (by decide) ?_
    refine Ev_sub [1, 2, 3, 0] rfl ?_
    exact hagain_3 _ _ h
theorem k_X0_way {s : Sg} {v1 v2 : Int} {post : Int → Prop} (h : w_X0_way s v1 v2 post) : EvM mX0_way 0 [(2, 53), (0, v1), (0, v2)] s (poI 0 s post) := by
  refine EvM_of rfl (by decide +kernel) (Nat.le_of_ble_eq_true rfl) ?_
  unfold w_X0_way at h
  show Ev mX0_way 0 0 [(0, (2, 53)), (1, (0, v1)), (2, (0, v2))] [] s (poI 0 s post)
  refine Ev_lconst (v := 1) dX0_way_0 (by decide +kernel) ?_
  refine Ev_iload_n dX0_way_1 1 rfl ?_
  refine Ev_lshl dX0_way_2 ?_
  obtain ⟨v3_1, ev3_1⟩ : ∃ z : Int, z = lshl 1 v1 := ⟨_, rfl⟩
  replace h := h v3_1 ev3_1
  rw [← ev3_1]
  refine Ev_lstore_n dX0_way_3 (by decide) rfl ?_
  refine Ev_iconst (v := 0) dX0_way_4 rfl ⟨by decide, by decide⟩ ?_
  refine Ev_istore dX0_way_5 (by decide) rfl ?_
  refine Ev_sub [2, 4, 1, 0] rfl ?_
  refine li_2 (P := fun (v3_2 v5_3 : Int) => Ev mX0_way 0 7 [(0, (2, 53)), (2, (0, v2)), (3, (1, v3_2)), (5, (0, v5_3))] [] s (poI 0 s post)) ?_ h
  intro again_4 v3_2 v5_3 hagain_4 h
  refine Ev_iload dX0_way_7 3 rfl ?_
  refine Ev_aload_n dX0_way_9 0 rfl ?_
  refine Ev_geti 53 dX0_way_10 f_RX0_79 rfl sh_53 ?_
  refine Ev_icmp_gt (tgt := 84) dX0_way_13 (by decide) (fun hc => ?_) (fun hc => ?_)
  · replace h := h.1 hc
    refine Ev_iconst (v := -1) dX0_way_84 rfl ⟨by decide, by decide⟩ ?_
    exact Ev_ret dX0_way_85 trivial (poI_mk h)
  · replace h := h.2 hc
    refine Ev_lload_n dX0_way_16 2 rfl ?_
    refine Ev_iload_n dX0_way_17 1 rfl ?_
    refine Ev_lushr dX0_way_18 ?_
    refine Ev_lconst (v := 1) dX0_way_19 (by decide +kernel) ?_
    refine Ev_land dX0_way_20 ?_
    refine Ev_lconst (v := 0) dX0_way_21 (by decide +kernel) ?_
    refine Ev_lcmp dX0_way_22 ?_
    refine Ev_if_eq (tgt := 29) dX0_way_23 (by decide) (fun hc => ?_) (fun hc => ?_)
    · replace h := h.1 (lcmp_eq.mp hc)
      refine Ev_lconst (v := 0) dX0_way_29 (by decide +kernel) ?_
      refine Ev_lstore dX0_way_30 (by decide) rfl ?_
      refine Ev_iconst (v := 0) dX0_way_32 rfl ⟨by decide, by decide⟩ ?_
      refine Ev_istore dX0_way_33 (by decide) rfl ?_
      refine Ev_sub [2, 3, 4, 5, 1, 0] rfl ?_
      refine li_2 (P := fun (v6_5 v8_6 : Int) => Ev mX0_way 0 35 [(0, (2, 53)), (2, (0, v2)), (3, (1, v3_2)), (5, (0, v5_3)), (6, (1, v6_5)), (8, (0, v8_6))] [] s (poI 0 s post)) ?_ h
      intro again_7 v6_5 v8_6 hagain_7 h
      refine Ev_iload dX0_way_35 5 rfl ?_
      refine Ev_aload_n dX0_way_37 0 rfl ?_
      refine Ev_geti 53 dX0_way_38 f_RX0_79 rfl sh_53 ?_
      refine Ev_icmp_ge (tgt := 73) dX0_way_41 (by decide) (fun hc => ?_) (fun hc => ?_)
      · replace h := h.1 hc
        refine Ev_lload_n dX0_way_73 2 rfl ?_
        refine Ev_lload dX0_way_74 4 rfl ?_
        refine Ev_lor dX0_way_76 ?_
        obtain ⟨v3_8, ev3_8⟩ : ∃ z : Int, z = lor v3_2 v6_5 := ⟨_, rfl⟩
        replace h := h v3_8 ev3_8
        rw [← ev3_8]
        refine Ev_lstore_n dX0_way_77 (by decide) rfl ?_
        obtain ⟨v5_9, ev5_9⟩ : ∃ z : Int, z = w32 (v5_3 + 1) := ⟨_, rfl⟩
        replace h := h v5_9 ev5_9
        refine Ev_iinc (v := v5_9) dX0_way_78 3 rfl ev5_9.symm (by decide) rfl ?_
        refine Ev_goto (tgt := 7) dX0_way_81 (by decide) ?_
        refine Ev_sub [2, 3, 1, 0] rfl ?_
        exact hagain_4 _ _ h
      · replace h := h.2 hc
        refine Ev_lload_n dX0_way_44 2 rfl ?_
        refine Ev_iload dX0_way_45 5 rfl ?_
        refine Ev_lushr dX0_way_47 ?_
        refine Ev_lconst (v := 1) dX0_way_48 (by decide +kernel) ?_
        refine Ev_land dX0_way_49 ?_
        refine Ev_lconst (v := 0) dX0_way_50 (by decide +kernel) ?_
        refine Ev_lcmp dX0_way_51 ?_
        refine jc_1 (P := fun (v6_10 : Int) => Ev mX0_way 0 67 [(0, (2, 53)), (2, (0, v2)), (3, (1, v3_2)), (5, (0, v5_3)), (6, (1, v6_10)), (8, (0, v8_6))] [] s (poI 0 s post)) h ?_ ?_
        · intro v6_10 h
          obtain ⟨v8_12, ev8_12⟩ : ∃ z : Int, z = w32 (v8_6 + 1) := ⟨_, rfl⟩
          replace h := h v8_12 ev8_12
          refine Ev_iinc (v := v8_12) dX0_way_67 5 rfl ev8_12.symm (by decide) rfl ?_
          refine Ev_goto (tgt := 35) dX0_way_70 (by decide) ?_
          refine Ev_sub [1, 2, 3, 4, 5, 0] rfl ?_
          exact hagain_7 _ _ h
        · intro K_11 hK_11 h
          refine Ev_if_eq (tgt := 67) dX0_way_52 (by decide) (fun hc => ?_) (fun hc => ?_)
          · replace h := h.1 (lcmp_eq.mp hc)
            exact hK_11 _ h
          · replace h := h.2 (fun q => hc (lcmp_eq.mpr q))
            refine Ev_lload dX0_way_55 4 rfl ?_
            refine Ev_aload_n dX0_way_57 0 rfl ?_
            refine Ev_getr 53 (59) dX0_way_58 f_RX0_27 rfl sh_53 rfl ?_
            refine Ev_iload dX0_way_61 5 rfl ?_
            obtain ⟨hb_13, h⟩ := h
            refine Ev_lald (59) dX0_way_63 rfl sh_59 hb_13 ?_
            refine Ev_lor dX0_way_64 ?_
            obtain ⟨v6_14, ev6_14⟩ : ∃ z : Int, z = lor v6_5 (s 59 v8_6.toNat) := ⟨_, rfl⟩
            replace h := h v6_14 ev6_14
            rw [← ev6_14]
            refine Ev_lstore dX0_way_65 (by decide) rfl ?_
            refine Ev_sub [1, 2, 3, 4, 0, 5] rfl ?_
            exact hK_11 _ h
    · replace h := h.2 (fun q => hc (lcmp_eq.mpr q))
      refine Ev_iload dX0_way_26 3 rfl ?_
      exact Ev_ret dX0_way_28 trivial (poI_mk h)
theorem k_X10_addCell {s : Sg} {v1 v2 v3 : Int} {post : Sg → Prop} (h : w_X10_addCell s v1 v2 v3 post) : EvM mX10_addCell 0 [(2, 68), (0, v1), (0, v2), (0, v3)] s (poV post) := by
  refine EvM_of rfl (by decide +kernel) (Nat.le_of_ble_eq_true rfl) ?_
  unfold w_X10_addCell at h
  show Ev mX10_addCell 0 0 [(0, (2, 68)), (1, (0, v1)), (2, (0, v2)), (3, (0, v3))] [] s (poV post)
  refine Ev_aload_n dX10_addCell_0 0 rfl ?_
  refine Ev_getr 68 (86) dX10_addCell_1 f_RX10_63 rfl sh_68 rfl ?_
  refine Ev_aload_n dX10_addCell_4 0 rfl ?_
  refine Ev_geti 68 dX10_addCell_5 f_RX10_267 rfl sh_68 ?_
  refine Ev_iload_n dX10_addCell_8 1 rfl ?_
  obtain ⟨hb_1, h⟩ := h
  obtain ⟨s_2, es_2⟩ : ∃ z : Sg, z = (up s 86 ((s 68 23).toNat) v1) := ⟨_, rfl⟩
  replace h := h s_2 es_2
  refine Ev_iast (86) dX10_addCell_9 rfl sh_86 hb_1 ?_
  rw [← es_2]
  refine Ev_aload_n dX10_addCell_10 0 rfl ?_
  refine Ev_getr 68 (87) dX10_addCell_11 f_RX10_66 rfl sh_68 rfl ?_
  refine Ev_aload_n dX10_addCell_14 0 rfl ?_
  refine Ev_geti 68 dX10_addCell_15 f_RX10_267 rfl sh_68 ?_
  refine Ev_iload_n dX10_addCell_18 2 rfl ?_
  obtain ⟨hb_3, h⟩ := h
  obtain ⟨s_4, es_4⟩ : ∃ z : Sg, z = (up s_2 87 ((s_2 68 23).toNat) v2) := ⟨_, rfl⟩
  replace h := h s_4 es_4
  refine Ev_iast (87) dX10_addCell_19 rfl sh_87 hb_3 ?_
  rw [← es_4]
  refine Ev_aload_n dX10_addCell_20 0 rfl ?_
  refine Ev_getr 68 (88) dX10_addCell_21 f_RX10_69 rfl sh_68 rfl ?_
  refine Ev_aload_n dX10_addCell_24 0 rfl ?_
  refine Ev_geti 68 dX10_addCell_25 f_RX10_267 rfl sh_68 ?_
  refine Ev_iload_n dX10_addCell_28 3 rfl ?_
  obtain ⟨hb_5, h⟩ := h
  obtain ⟨s_6, es_6⟩ : ∃ z : Sg, z = (up s_4 88 ((s_4 68 23).toNat) v3) := ⟨_, rfl⟩
  replace h := h s_6 es_6
  refine Ev_iast (88) dX10_addCell_29 rfl sh_88 hb_5 ?_
  rw [← es_6]
  refine Ev_aload_n dX10_addCell_30 0 rfl ?_
  refine Ev_dup dX10_addCell_31 (show ¬ (2 : Nat) = 1 by decide) ?_
  refine Ev_geti 68 dX10_addCell_32 f_RX10_267 rfl sh_68 ?_
  refine Ev_iconst (v := 1) dX10_addCell_35 rfl ⟨by decide, by decide⟩ ?_
  refine Ev_iadd dX10_addCell_36 ?_
  obtain ⟨s_7, es_7⟩ : ∃ z : Sg, z = (up s_6 68 23 (w32 ((s_6 68 23) + 1))) := ⟨_, rfl⟩
  replace h := h s_7 es_7
  refine Ev_puti 68 dX10_addCell_37 fp_RX10_267 rfl sh_68 ?_
  rw [← es_7]
  exact Ev_retv dX10_addCell_40 rfl (poV_mk h)
theorem k_X10_size {s : Sg} {v0 : Int} {post : Int → Prop} (h : w_X10_size v0 post) : EvM mX10_size 0 [(1, v0)] s (poI 1 s post) := by
  refine EvM_of rfl (by decide +kernel) (Nat.le_of_ble_eq_true rfl) ?_
  unfold w_X10_size at h
  show Ev mX10_size 0 0 [(0, (1, v0))] [] s (poI 1 s post)
  refine Ev_lload_n dX10_size_0 0 rfl ?_
  refine Ev_lconst (v := 0) dX10_size_1 (by decide +kernel) ?_
  refine Ev_lcmp dX10_size_2 ?_
  refine jc_1 (P := fun (t_1 : Int) => Ev mX10_size 0 12 [] [(1, t_1)] s (poI 1 s post)) h ?_ ?_
  · intro t_1 h
    exact Ev_ret dX10_size_12 trivial (poI_mk h)
  · intro K_2 hK_2 h
    refine Ev_if_ge (tgt := 11) dX10_size_3 (by decide) (fun hc => ?_) (fun hc => ?_)
    · replace h := h.1 (lcmp_ge.mp hc)
      refine Ev_lload_n dX10_size_11 0 rfl ?_
      refine Ev_sub [] rfl ?_
      exact hK_2 _ h
    · replace h := h.2 (fun q => hc (lcmp_ge.mpr q))
      refine Ev_lload_n dX10_size_6 0 rfl ?_
      refine Ev_lneg dX10_size_7 ?_
      refine Ev_goto (tgt := 12) dX10_size_8 (by decide) ?_
      refine Ev_sub [] rfl ?_
      exact hK_2 _ h
theorem k_X10_common_n {s : Sg} : ∀ (n : Nat) (v0 v2 : Int) (post : Int → Prop) (h : w_X10_common n v0 v2 post), EvM mX10_common n [(1, v0), (1, v2)] s (poI 1 s post)
  | 0, _, _, _, h => h.elim
  | n + 1, v0, v2, post, h => by
    have ih := k_X10_common_n (s := s) n
    refine EvM_of rfl (by decide +kernel) (Nat.le_of_ble_eq_true rfl) ?_
    unfold w_X10_common at h
    show Ev mX10_common (n + 1) 0 [(0, (1, v0)), (2, (1, v2))] [] s (poI 1 s post)
    refine Ev_lload_n dX10_common_0 1 rfl ?_
    refine Ev_lconst (v := 0) dX10_common_1 (by decide +kernel) ?_
    refine Ev_lcmp dX10_common_2 ?_
    refine jc_1 (P := fun (t_1 : Int) => Ev mX10_common (n + 1) 17 [] [(1, t_1)] s (poI 1 s post)) h ?_ ?_
    · intro t_1 h
      exact Ev_ret dX10_common_17 trivial (poI_mk h)
    · intro K_2 hK_2 h
      refine Ev_if_ne (tgt := 10) dX10_common_3 (by decide) (fun hc => ?_) (fun hc => ?_)
      · replace h := h.1 (fun q => hc (lcmp_eq.mpr q))
        refine Ev_lload_n dX10_common_10 1 rfl ?_
        refine Ev_lload_n dX10_common_11 0 rfl ?_
        refine Ev_lload_n dX10_common_12 1 rfl ?_
        obtain ⟨hb, h⟩ := h
        refine Ev_lrem dX10_common_13 hb ?_
        refine Ev_invS (d' := n) [(1, v2), (1, w64 (v0.tmod v2))] dX10_common_14 M_X10_common (Or.inl q_1087) (Nat.le_refl _) rfl (Nat.le_of_ble_eq_true rfl) (ih _ _ _ h) ?_
        rintro _ _ ⟨rfl, r_3, rfl, h⟩
        refine Ev_sub [] rfl ?_
        exact hK_2 _ h
      · replace h := h.2 (lcmp_eq.mp hc)
        refine Ev_lload_n dX10_common_6 0 rfl ?_
        refine Ev_goto (tgt := 17) dX10_common_7 (by decide) ?_
        refine Ev_sub [] rfl ?_
        exact hK_2 _ h
theorem k_X10_common {s : Sg} {v0 v2 : Int} {post : Int → Prop} (h : w_X10_common 100 v0 v2 post) : EvM mX10_common 100 [(1, v0), (1, v2)] s (poI 1 s post) := k_X10_common_n 100 v0 v2 post h
theorem k_X10_lowest {s : Sg} {v0 v2 v4 : Int} {post : Int → Prop} (h : w_X10_lowest v0 v2 v4 post) : EvM mX10_lowest 101 [(1, v0), (1, v2), (0, v4)] s (poI 1 s post) := by
  refine EvM_of rfl (by decide +kernel) (Nat.le_of_ble_eq_true rfl) ?_
  unfold w_X10_lowest at h
  show Ev mX10_lowest 101 0 [(0, (1, v0)), (2, (1, v2)), (4, (0, v4))] [] s (poI 1 s post)
  refine Ev_lload_n dX10_lowest_0 0 rfl ?_
  refine Ev_invS (d' := 0) [(1, v0)] dX10_lowest_1 M_X10_size (Or.inl q_1084) (by decide) rfl (Nat.le_of_ble_eq_true rfl) (k_X10_size h) ?_
  rintro _ _ ⟨rfl, r_1, rfl, h⟩
  refine Ev_lload_n dX10_lowest_4 1 rfl ?_
  refine Ev_invS (d' := 100) [(1, r_1), (1, v2)] dX10_lowest_5 M_X10_common (Or.inl q_1087) (by decide) rfl (Nat.le_of_ble_eq_true rfl) (k_X10_common h) ?_
  rintro _ _ ⟨rfl, r_2, rfl, h⟩
  refine Ev_lstore dX10_lowest_8 (by decide) rfl ?_
  refine Ev_iload dX10_lowest_10 3 rfl ?_
  refine jc_1 (P := fun (t_3 : Int) => Ev mX10_lowest 101 20 [(5, (1, r_2))] [(1, t_3)] s (poI 1 s post)) h ?_ ?_
  · intro t_3 h
    refine Ev_lload dX10_lowest_20 0 rfl ?_
    obtain ⟨hb, h⟩ := h
    refine Ev_ldiv dX10_lowest_22 hb ?_
    exact Ev_ret dX10_lowest_23 trivial (poI_mk h)
  · intro K_4 hK_4 h
    refine Ev_if_eq (tgt := 19) dX10_lowest_12 (by decide) (fun hc => ?_) (fun hc => ?_)
    · replace h := h.1 hc
      refine Ev_lload_n dX10_lowest_19 1 rfl ?_
      refine Ev_sub [0] rfl ?_
      exact hK_4 _ h
    · replace h := h.2 hc
      refine Ev_lload_n dX10_lowest_15 2 rfl ?_
      refine Ev_goto (tgt := 20) dX10_lowest_16 (by decide) ?_
      refine Ev_sub [0] rfl ?_
      exact hK_4 _ h
theorem k_X10_against {s : Sg} {v0 v2 v4 v6 : Int} {post : Int → Prop} (h : w_X10_against v0 v2 v4 v6 post) : EvM mX10_against 0 [(1, v0), (1, v2), (1, v4), (1, v6)] s (poI 0 s post) := by
  refine EvM_of rfl (by decide +kernel) (Nat.le_of_ble_eq_true rfl) ?_
  unfold w_X10_against at h
  show Ev mX10_against 0 0 [(0, (1, v0)), (2, (1, v2)), (4, (1, v4)), (6, (1, v6))] [] s (poI 0 s post)
  refine Ev_lload_n dX10_against_0 0 rfl ?_
  refine Ev_lload dX10_against_1 3 rfl ?_
  refine Ev_lmul dX10_against_3 ?_
  refine Ev_lload dX10_against_4 2 rfl ?_
  refine Ev_lload_n dX10_against_6 1 rfl ?_
  refine Ev_lmul dX10_against_7 ?_
  refine Ev_lsub dX10_against_8 ?_
  obtain ⟨v8_1, ev8_1⟩ : ∃ z : Int, z = w64 ((w64 (v0 * v6)) - (w64 (v4 * v2))) := ⟨_, rfl⟩
  replace h := h v8_1 ev8_1
  rw [← ev8_1]
  refine Ev_lstore dX10_against_9 (by decide) rfl ?_
  refine Ev_lload dX10_against_11 0 rfl ?_
  refine Ev_lconst (v := 0) dX10_against_13 (by decide +kernel) ?_
  refine Ev_lcmp dX10_against_14 ?_
  refine jc_1 (P := fun (t_2 : Int) => Ev mX10_against 0 34 [] [(0, t_2)] s (poI 0 s post)) h ?_ ?_
  · intro t_2 h
    exact Ev_ret dX10_against_34 trivial (poI_mk h)
  · intro K_3 hK_3 h
    refine Ev_if_ge (tgt := 22) dX10_against_15 (by decide) (fun hc => ?_) (fun hc => ?_)
    · replace h := h.1 (lcmp_ge.mp hc)
      refine Ev_lload dX10_against_22 0 rfl ?_
      refine Ev_lconst (v := 0) dX10_against_24 (by decide +kernel) ?_
      refine Ev_lcmp dX10_against_25 ?_
      refine Ev_if_le (tgt := 33) dX10_against_26 (by decide) (fun hc => ?_) (fun hc => ?_)
      · replace h := h.1 (lcmp_le.mp hc)
        refine Ev_iconst (v := 0) dX10_against_33 rfl ⟨by decide, by decide⟩ ?_
        refine Ev_sub [] rfl ?_
        exact hK_3 _ h
      · replace h := h.2 (fun q => hc (lcmp_le.mpr q))
        refine Ev_iconst (v := 1) dX10_against_29 rfl ⟨by decide, by decide⟩ ?_
        refine Ev_goto (tgt := 34) dX10_against_30 (by decide) ?_
        refine Ev_sub [] rfl ?_
        exact hK_3 _ h
    · replace h := h.2 (fun q => hc (lcmp_ge.mpr q))
      refine Ev_iconst (v := -1) dX10_against_18 rfl ⟨by decide, by decide⟩ ?_
      refine Ev_goto (tgt := 34) dX10_against_19 (by decide) ?_
      refine Ev_sub [] rfl ?_
      exact hK_3 _ h
theorem k_X10_pointAgainst {s : Sg} {v1 v2 v4 v6 v8 : Int} {post : Int → Prop} (h : w_X10_pointAgainst s v1 v2 v4 v6 v8 post) : EvM mX10_pointAgainst 1 [(2, 68), (0, v1), (1, v2), (1, v4), (1, v6), (1, v8)] s (poI 0 s post) := by
  refine EvM_of rfl (by decide +kernel) (Nat.le_of_ble_eq_true rfl) ?_
  unfold w_X10_pointAgainst at h
  show Ev mX10_pointAgainst 1 0 [(0, (2, 68)), (1, (0, v1)), (2, (1, v2)), (4, (1, v4)), (6, (1, v6)), (8, (1, v8))] [] s (poI 0 s post)
  refine Ev_aload_n dX10_pointAgainst_0 0 rfl ?_
  refine Ev_getr 68 (73) dX10_pointAgainst_1 f_RX10_22 rfl sh_68 rfl ?_
  refine Ev_iload_n dX10_pointAgainst_4 1 rfl ?_
  obtain ⟨hb_1, h⟩ := h
  refine Ev_lald (73) dX10_pointAgainst_5 rfl sh_73 hb_1 ?_
  refine Ev_aload_n dX10_pointAgainst_6 0 rfl ?_
  refine Ev_getr 68 (74) dX10_pointAgainst_7 f_RX10_26 rfl sh_68 rfl ?_
  refine Ev_iload_n dX10_pointAgainst_10 1 rfl ?_
  obtain ⟨hb_2, h⟩ := h
  refine Ev_lald (74) dX10_pointAgainst_11 rfl sh_74 hb_2 ?_
  refine Ev_lload_n dX10_pointAgainst_12 2 rfl ?_
  refine Ev_lload dX10_pointAgainst_13 3 rfl ?_
  refine Ev_invS (d' := 0) [(1, s 73 v1.toNat), (1, s 74 v1.toNat), (1, v2), (1, v4)] dX10_pointAgainst_15 M_X10_against (Or.inl q_1106) (by decide) rfl (Nat.le_of_ble_eq_true rfl) (k_X10_against h) ?_
  rintro _ _ ⟨rfl, r_3, rfl, h⟩
  refine Ev_istore dX10_pointAgainst_18 (by decide) rfl ?_
  refine Ev_iload dX10_pointAgainst_20 0 rfl ?_
  refine jc_1 (P := fun (t_4 : Int) => Ev mX10_pointAgainst 1 49 [] [(0, t_4)] s (poI 0 s post)) h ?_ ?_
  · intro t_4 h
    exact Ev_ret dX10_pointAgainst_49 trivial (poI_mk h)
  · intro K_5 hK_5 h
    refine Ev_if_eq (tgt := 30) dX10_pointAgainst_22 (by decide) (fun hc => ?_) (fun hc => ?_)
    · replace h := h.1 hc
      refine Ev_aload_n dX10_pointAgainst_30 1 rfl ?_
      refine Ev_getr 68 (75) dX10_pointAgainst_31 f_RX10_29 rfl sh_68 rfl ?_
      refine Ev_iload_n dX10_pointAgainst_34 2 rfl ?_
      obtain ⟨hb_6, h⟩ := h
      refine Ev_lald (75) dX10_pointAgainst_35 rfl sh_75 hb_6 ?_
      refine Ev_aload_n dX10_pointAgainst_36 1 rfl ?_
      refine Ev_getr 68 (76) dX10_pointAgainst_37 f_RX10_32 rfl sh_68 rfl ?_
      refine Ev_iload_n dX10_pointAgainst_40 2 rfl ?_
      obtain ⟨hb_7, h⟩ := h
      refine Ev_lald (76) dX10_pointAgainst_41 rfl sh_76 hb_7 ?_
      refine Ev_lload dX10_pointAgainst_42 5 rfl ?_
      refine Ev_lload dX10_pointAgainst_44 6 rfl ?_
      refine Ev_invS (d' := 0) [(1, s 75 v1.toNat), (1, s 76 v1.toNat), (1, v6), (1, v8)] dX10_pointAgainst_46 M_X10_against (Or.inl q_1106) (by decide) rfl (Nat.le_of_ble_eq_true rfl) (k_X10_against h) ?_
      rintro _ _ ⟨rfl, r_8, rfl, h⟩
      refine Ev_sub [] rfl ?_
      exact hK_5 _ h
    · replace h := h.2 hc
      refine Ev_iload dX10_pointAgainst_25 0 rfl ?_
      refine Ev_goto (tgt := 49) dX10_pointAgainst_27 (by decide) ?_
      refine Ev_sub [] rfl ?_
      exact hK_5 _ h
theorem k_X10_addPoint {s : Sg} {v1 v3 v5 : Int} {post : Sg → Prop} (h : w_X10_addPoint s v1 v3 v5 post) : EvM mX10_addPoint 102 [(2, 68), (1, v1), (1, v3), (1, v5)] s (poV post) := by
  refine EvM_of rfl (by decide +kernel) (Nat.le_of_ble_eq_true rfl) ?_
  unfold w_X10_addPoint at h
  show Ev mX10_addPoint 102 0 [(0, (2, 68)), (1, (1, v1)), (3, (1, v3)), (5, (1, v5))] [] s (poV post)
  refine Ev_lload_n dX10_addPoint_0 1 rfl ?_
  refine Ev_lload dX10_addPoint_1 3 rfl ?_
  refine Ev_iconst (v := 0) dX10_addPoint_3 rfl ⟨by decide, by decide⟩ ?_
  refine Ev_invS (d' := 101) [(1, v1), (1, v5), (0, 0)] dX10_addPoint_4 M_X10_lowest (Or.inl q_1081) (by decide) rfl (Nat.le_of_ble_eq_true rfl) (k_X10_lowest h) ?_
  rintro _ _ ⟨rfl, r_1, rfl, h⟩
  refine Ev_lstore dX10_addPoint_7 (by decide) rfl ?_
  refine Ev_lload_n dX10_addPoint_9 2 rfl ?_
  refine Ev_lload dX10_addPoint_10 4 rfl ?_
  refine Ev_iconst (v := 1) dX10_addPoint_12 rfl ⟨by decide, by decide⟩ ?_
  refine Ev_invS (d' := 101) [(1, v1), (1, v5), (0, 1)] dX10_addPoint_13 M_X10_lowest (Or.inl q_1081) (by decide) rfl (Nat.le_of_ble_eq_true rfl) (k_X10_lowest h) ?_
  rintro _ _ ⟨rfl, r_2, rfl, h⟩
  refine Ev_lstore dX10_addPoint_16 (by decide) rfl ?_
  refine Ev_lload_n dX10_addPoint_18 4 rfl ?_
  refine Ev_lload dX10_addPoint_19 5 rfl ?_
  refine Ev_iconst (v := 0) dX10_addPoint_21 rfl ⟨by decide, by decide⟩ ?_
  refine Ev_invS (d' := 101) [(1, v3), (1, v5), (0, 0)] dX10_addPoint_22 M_X10_lowest (Or.inl q_1081) (by decide) rfl (Nat.le_of_ble_eq_true rfl) (k_X10_lowest h) ?_
  rintro _ _ ⟨rfl, r_3, rfl, h⟩
  refine Ev_lstore dX10_addPoint_25 (by decide) rfl ?_
  refine Ev_lload_n dX10_addPoint_27 5 rfl ?_
  refine Ev_lload dX10_addPoint_28 6 rfl ?_
  refine Ev_iconst (v := 1) dX10_addPoint_30 rfl ⟨by decide, by decide⟩ ?_
  refine Ev_invS (d' := 101) [(1, v3), (1, v5), (0, 1)] dX10_addPoint_31 M_X10_lowest (Or.inl q_1081) (by decide) rfl (Nat.le_of_ble_eq_true rfl) (k_X10_lowest h) ?_
  rintro _ _ ⟨rfl, r_4, rfl, h⟩
  refine Ev_lstore dX10_addPoint_34 (by decide) rfl ?_
  refine Ev_iconst (v := 0) dX10_addPoint_36 rfl ⟨by decide, by decide⟩ ?_
  refine Ev_istore dX10_addPoint_37 (by decide) rfl ?_
  refine Ev_sub [5, 4, 3, 2, 1, 0] rfl ?_
  refine li_1 (P := fun (v15_5 : Int) => Ev mX10_addPoint 102 39 [(0, (2, 68)), (7, (1, r_1)), (9, (1, r_2)), (11, (1, r_3)), (13, (1, r_4)), (15, (0, v15_5))] [] s (poV post)) ?_ h
  intro again_6 v15_5 hagain_6 h
  refine Ev_iload dX10_addPoint_39 5 rfl ?_
  refine Ev_aload_n dX10_addPoint_41 0 rfl ?_
  refine Ev_geti 68 dX10_addPoint_42 f_RX10_176 rfl sh_68 ?_
  refine jc_0 (P := Ev mX10_addPoint 102 71 [(0, (2, 68)), (7, (1, r_1)), (9, (1, r_2)), (11, (1, r_3)), (13, (1, r_4)), (15, (0, v15_5))] [] s (poV post)) h ?_ ?_
  · intro  h
    refine Ev_iload dX10_addPoint_71 5 rfl ?_
    refine Ev_aload_n dX10_addPoint_73 0 rfl ?_
    refine Ev_geti 68 dX10_addPoint_74 f_RX10_176 rfl sh_68 ?_
    refine jc_0 (P := Ev mX10_addPoint 102 98 [(0, (2, 68)), (7, (1, r_1)), (9, (1, r_2)), (11, (1, r_3)), (13, (1, r_4)), (15, (0, v15_5))] [] s (poV post)) h ?_ ?_
    · intro  h
      refine Ev_aload_n dX10_addPoint_98 0 rfl ?_
      refine Ev_geti 68 dX10_addPoint_99 f_RX10_176 rfl sh_68 ?_
      obtain ⟨v16_9, ev16_9⟩ : ∃ z : Int, z = s 68 9 := ⟨_, rfl⟩
      replace h := h v16_9 ev16_9
      rw [← ev16_9]
      refine Ev_istore dX10_addPoint_102 (by decide) rfl ?_
      refine Ev_sub [1, 2, 3, 4, 5, 6, 0] rfl ?_
      refine li_1s (P := fun (v16_10 : Int) (s_11 : Sg) => Ev mX10_addPoint 102 104 [(0, (2, 68)), (7, (1, r_1)), (9, (1, r_2)), (11, (1, r_3)), (13, (1, r_4)), (15, (0, v15_5)), (16, (0, v16_10))] [] s_11 (poV post)) ?_ h
      intro again_12 v16_10 s_11 hagain_12 h
      refine Ev_iload dX10_addPoint_104 6 rfl ?_
      refine Ev_iload dX10_addPoint_106 5 rfl ?_
      refine Ev_icmp_le (tgt := 181) dX10_addPoint_108 (by decide) (fun hc => ?_) (fun hc => ?_)
      · replace h := h.1 hc
        refine Ev_aload_n dX10_addPoint_181 0 rfl ?_
        refine Ev_getr 68 (73) dX10_addPoint_182 f_RX10_22 rfl sh_68 rfl ?_
        refine Ev_iload dX10_addPoint_185 5 rfl ?_
        refine Ev_lload dX10_addPoint_187 1 rfl ?_
        obtain ⟨hb_13, h⟩ := h
        obtain ⟨s_14, es_14⟩ : ∃ z : Sg, z = (up s_11 73 (v15_5.toNat) r_1) := ⟨_, rfl⟩
        replace h := h s_14 es_14
        refine Ev_last (73) dX10_addPoint_189 rfl sh_73 hb_13 ?_
        rw [← es_14]
        refine Ev_aload_n dX10_addPoint_190 0 rfl ?_
        refine Ev_getr 68 (74) dX10_addPoint_191 f_RX10_26 rfl sh_68 rfl ?_
        refine Ev_iload dX10_addPoint_194 5 rfl ?_
        refine Ev_lload dX10_addPoint_196 2 rfl ?_
        obtain ⟨hb_15, h⟩ := h
        obtain ⟨s_16, es_16⟩ : ∃ z : Sg, z = (up s_14 74 (v15_5.toNat) r_2) := ⟨_, rfl⟩
        replace h := h s_16 es_16
        refine Ev_last (74) dX10_addPoint_198 rfl sh_74 hb_15 ?_
        rw [← es_16]
        refine Ev_aload_n dX10_addPoint_199 0 rfl ?_
        refine Ev_getr 68 (75) dX10_addPoint_200 f_RX10_29 rfl sh_68 rfl ?_
        refine Ev_iload dX10_addPoint_203 5 rfl ?_
        refine Ev_lload dX10_addPoint_205 3 rfl ?_
        obtain ⟨hb_17, h⟩ := h
        obtain ⟨s_18, es_18⟩ : ∃ z : Sg, z = (up s_16 75 (v15_5.toNat) r_3) := ⟨_, rfl⟩
        replace h := h s_18 es_18
        refine Ev_last (75) dX10_addPoint_207 rfl sh_75 hb_17 ?_
        rw [← es_18]
        refine Ev_aload_n dX10_addPoint_208 0 rfl ?_
        refine Ev_getr 68 (76) dX10_addPoint_209 f_RX10_32 rfl sh_68 rfl ?_
        refine Ev_iload dX10_addPoint_212 5 rfl ?_
        refine Ev_lload dX10_addPoint_214 4 rfl ?_
        obtain ⟨hb_19, h⟩ := h
        obtain ⟨s_20, es_20⟩ : ∃ z : Sg, z = (up s_18 76 (v15_5.toNat) r_4) := ⟨_, rfl⟩
        replace h := h s_20 es_20
        refine Ev_last (76) dX10_addPoint_216 rfl sh_76 hb_19 ?_
        rw [← es_20]
        refine Ev_aload_n dX10_addPoint_217 0 rfl ?_
        refine Ev_dup dX10_addPoint_218 (show ¬ (2 : Nat) = 1 by decide) ?_
        refine Ev_geti 68 dX10_addPoint_219 f_RX10_176 rfl sh_68 ?_
        refine Ev_iconst (v := 1) dX10_addPoint_222 rfl ⟨by decide, by decide⟩ ?_
        refine Ev_iadd dX10_addPoint_223 ?_
        obtain ⟨s_21, es_21⟩ : ∃ z : Sg, z = (up s_20 68 9 (w32 ((s_20 68 9) + 1))) := ⟨_, rfl⟩
        replace h := h s_21 es_21
        refine Ev_puti 68 dX10_addPoint_224 fp_RX10_176 rfl sh_68 ?_
        rw [← es_21]
        exact Ev_retv dX10_addPoint_227 rfl (poV_mk h)
      · replace h := h.2 hc
        refine Ev_aload_n dX10_addPoint_111 0 rfl ?_
        refine Ev_getr 68 (73) dX10_addPoint_112 f_RX10_22 rfl sh_68 rfl ?_
        refine Ev_iload dX10_addPoint_115 6 rfl ?_
        refine Ev_aload_n dX10_addPoint_117 0 rfl ?_
        refine Ev_getr 68 (73) dX10_addPoint_118 f_RX10_22 rfl sh_68 rfl ?_
        refine Ev_iload dX10_addPoint_121 6 rfl ?_
        refine Ev_iconst (v := 1) dX10_addPoint_123 rfl ⟨by decide, by decide⟩ ?_
        refine Ev_isub dX10_addPoint_124 ?_
        obtain ⟨hb_22, h⟩ := h
        refine Ev_lald (73) dX10_addPoint_125 rfl sh_73 hb_22 ?_
        obtain ⟨hb_23, h⟩ := h
        obtain ⟨s_24, es_24⟩ : ∃ z : Sg, z = (up s_11 73 (v16_10.toNat) (s_11 73 (w32 (v16_10 - 1)).toNat)) := ⟨_, rfl⟩
        replace h := h s_24 es_24
        refine Ev_last (73) dX10_addPoint_126 rfl sh_73 hb_23 ?_
        rw [← es_24]
        refine Ev_aload_n dX10_addPoint_127 0 rfl ?_
        refine Ev_getr 68 (74) dX10_addPoint_128 f_RX10_26 rfl sh_68 rfl ?_
        refine Ev_iload dX10_addPoint_131 6 rfl ?_
        refine Ev_aload_n dX10_addPoint_133 0 rfl ?_
        refine Ev_getr 68 (74) dX10_addPoint_134 f_RX10_26 rfl sh_68 rfl ?_
        refine Ev_iload dX10_addPoint_137 6 rfl ?_
        refine Ev_iconst (v := 1) dX10_addPoint_139 rfl ⟨by decide, by decide⟩ ?_
        refine Ev_isub dX10_addPoint_140 ?_
        obtain ⟨hb_25, h⟩ := h
        refine Ev_lald (74) dX10_addPoint_141 rfl sh_74 hb_25 ?_
        obtain ⟨hb_26, h⟩ := h
        obtain ⟨s_27, es_27⟩ : ∃ z : Sg, z = (up s_24 74 (v16_10.toNat) (s_24 74 (w32 (v16_10 - 1)).toNat)) := ⟨_, rfl⟩
        replace h := h s_27 es_27
        refine Ev_last (74) dX10_addPoint_142 rfl sh_74 hb_26 ?_
        rw [← es_27]
        refine Ev_aload_n dX10_addPoint_143 0 rfl ?_
        refine Ev_getr 68 (75) dX10_addPoint_144 f_RX10_29 rfl sh_68 rfl ?_
        refine Ev_iload dX10_addPoint_147 6 rfl ?_
        refine Ev_aload_n dX10_addPoint_149 0 rfl ?_
        refine Ev_getr 68 (75) dX10_addPoint_150 f_RX10_29 rfl sh_68 rfl ?_
        refine Ev_iload dX10_addPoint_153 6 rfl ?_
        refine Ev_iconst (v := 1) dX10_addPoint_155 rfl ⟨by decide, by decide⟩ ?_
        refine Ev_isub dX10_addPoint_156 ?_
        obtain ⟨hb_28, h⟩ := h
        refine Ev_lald (75) dX10_addPoint_157 rfl sh_75 hb_28 ?_
        obtain ⟨hb_29, h⟩ := h
        obtain ⟨s_30, es_30⟩ : ∃ z : Sg, z = (up s_27 75 (v16_10.toNat) (s_27 75 (w32 (v16_10 - 1)).toNat)) := ⟨_, rfl⟩
        replace h := h s_30 es_30
        refine Ev_last (75) dX10_addPoint_158 rfl sh_75 hb_29 ?_
        rw [← es_30]
        refine Ev_aload_n dX10_addPoint_159 0 rfl ?_
        refine Ev_getr 68 (76) dX10_addPoint_160 f_RX10_32 rfl sh_68 rfl ?_
        refine Ev_iload dX10_addPoint_163 6 rfl ?_
        refine Ev_aload_n dX10_addPoint_165 0 rfl ?_
        refine Ev_getr 68 (76) dX10_addPoint_166 f_RX10_32 rfl sh_68 rfl ?_
        refine Ev_iload dX10_addPoint_169 6 rfl ?_
        refine Ev_iconst (v := 1) dX10_addPoint_171 rfl ⟨by decide, by decide⟩ ?_
        refine Ev_isub dX10_addPoint_172 ?_
        obtain ⟨hb_31, h⟩ := h
        refine Ev_lald (76) dX10_addPoint_173 rfl sh_76 hb_31 ?_
        obtain ⟨hb_32, h⟩ := h
        obtain ⟨s_33, es_33⟩ : ∃ z : Sg, z = (up s_30 76 (v16_10.toNat) (s_30 76 (w32 (v16_10 - 1)).toNat)) := ⟨_, rfl⟩
        replace h := h s_33 es_33
        refine Ev_last (76) dX10_addPoint_174 rfl sh_76 hb_32 ?_
        rw [← es_33]
        obtain ⟨v16_34, ev16_34⟩ : ∃ z : Int, z = w32 (v16_10 + (-1)) := ⟨_, rfl⟩
        replace h := h v16_34 ev16_34
        refine Ev_iinc (v := v16_34) dX10_addPoint_175 6 rfl ev16_34.symm (by decide) rfl ?_
        refine Ev_goto (tgt := 104) dX10_addPoint_178 (by decide) ?_
        refine Ev_sub [1, 2, 3, 4, 5, 6, 0] rfl ?_
        exact hagain_12 _ _ h
    · intro K_8 hK_8 h
      refine Ev_icmp_ge (tgt := 98) dX10_addPoint_77 (by decide) (fun hc => ?_) (fun hc => ?_)
      · replace h := h.1 hc
        exact hK_8 h
      · replace h := h.2 hc
        refine Ev_aload_n dX10_addPoint_80 0 rfl ?_
        refine Ev_iload dX10_addPoint_81 5 rfl ?_
        refine Ev_lload dX10_addPoint_83 1 rfl ?_
        refine Ev_lload dX10_addPoint_85 2 rfl ?_
        refine Ev_lload dX10_addPoint_87 3 rfl ?_
        refine Ev_lload dX10_addPoint_89 4 rfl ?_
        refine Ev_invV (d' := 1) [(0, v15_5), (1, r_1), (1, r_2), (1, r_3), (1, r_4)] 68 dX10_addPoint_91 M_X10_pointAgainst q_1102 (by decide) rfl rfl sh_68 rfl (Nat.le_of_ble_eq_true rfl) (k_X10_pointAgainst h) ?_
        rintro _ _ ⟨rfl, r_35, rfl, h⟩
        refine Ev_if_ne (tgt := 98) dX10_addPoint_94 (by decide) (fun hc => ?_) (fun hc => ?_)
        · replace h := h.1 hc
          exact hK_8 h
        · replace h := h.2 hc
          exact Ev_retv dX10_addPoint_97 rfl (poV_mk h)
  · intro K_7 hK_7 h
    refine Ev_icmp_ge (tgt := 71) dX10_addPoint_45 (by decide) (fun hc => ?_) (fun hc => ?_)
    · replace h := h.1 hc
      exact hK_7 h
    · replace h := h.2 hc
      refine Ev_aload_n dX10_addPoint_48 0 rfl ?_
      refine Ev_iload dX10_addPoint_49 5 rfl ?_
      refine Ev_lload dX10_addPoint_51 1 rfl ?_
      refine Ev_lload dX10_addPoint_53 2 rfl ?_
      refine Ev_lload dX10_addPoint_55 3 rfl ?_
      refine Ev_lload dX10_addPoint_57 4 rfl ?_
      refine Ev_invV (d' := 1) [(0, v15_5), (1, r_1), (1, r_2), (1, r_3), (1, r_4)] 68 dX10_addPoint_59 M_X10_pointAgainst q_1102 (by decide) rfl rfl sh_68 rfl (Nat.le_of_ble_eq_true rfl) (k_X10_pointAgainst h) ?_
      rintro _ _ ⟨rfl, r_36, rfl, h⟩
      refine Ev_if_ge (tgt := 71) dX10_addPoint_62 (by decide) (fun hc => ?_) (fun hc => ?_)
      · replace h := h.1 hc
        exact hK_7 h
      · replace h := h.2 hc
        obtain ⟨v15_37, ev15_37⟩ : ∃ z : Int, z = w32 (v15_5 + 1) := ⟨_, rfl⟩
        replace h := h v15_37 ev15_37
        refine Ev_iinc (v := v15_37) dX10_addPoint_65 5 rfl ev15_37.symm (by decide) rfl ?_
        refine Ev_goto (tgt := 39) dX10_addPoint_68 (by decide) ?_
        refine Ev_sub [1, 2, 3, 4, 5, 0] rfl ?_
        exact hagain_6 _ h
theorem k_X10_yAbove {s : Sg} {v1 v2 v4 : Int} {post : Int → Prop} (h : w_X10_yAbove s v1 v2 v4 post) : EvM mX10_yAbove 0 [(2, 68), (0, v1), (1, v2), (1, v4)] s (poI 1 s post) := by
  refine EvM_of rfl (by decide +kernel) (Nat.le_of_ble_eq_true rfl) ?_
  unfold w_X10_yAbove at h
  show Ev mX10_yAbove 0 0 [(0, (2, 68)), (1, (0, v1)), (2, (1, v2)), (4, (1, v4))] [] s (poI 1 s post)
  refine Ev_aload_n dX10_yAbove_0 0 rfl ?_
  refine Ev_getr 68 (71) dX10_yAbove_1 f_RX10_16 rfl sh_68 rfl ?_
  refine Ev_iload_n dX10_yAbove_4 1 rfl ?_
  obtain ⟨hb_1, h⟩ := h
  refine Ev_iald (71) dX10_yAbove_5 rfl sh_71 hb_1 ?_
  refine Ev_aload_n dX10_yAbove_6 0 rfl ?_
  refine Ev_getr 68 (69) dX10_yAbove_7 f_RX10_9 rfl sh_68 rfl ?_
  refine Ev_iload_n dX10_yAbove_10 1 rfl ?_
  obtain ⟨hb_2, h⟩ := h
  refine Ev_iald (69) dX10_yAbove_11 rfl sh_69 hb_2 ?_
  refine Ev_isub dX10_yAbove_12 ?_
  refine Ev_i2l dX10_yAbove_13 ?_
  obtain ⟨v6_3, ev6_3⟩ : ∃ z : Int, z = w32 ((s 71 v1.toNat) - (s 69 v1.toNat)) := ⟨_, rfl⟩
  replace h := h v6_3 ev6_3
  rw [← ev6_3]
  refine Ev_lstore dX10_yAbove_14 (by decide) rfl ?_
  refine Ev_aload_n dX10_yAbove_16 1 rfl ?_
  refine Ev_getr 68 (70) dX10_yAbove_17 f_RX10_13 rfl sh_68 rfl ?_
  refine Ev_iload_n dX10_yAbove_20 2 rfl ?_
  obtain ⟨hb_4, h⟩ := h
  refine Ev_iald (70) dX10_yAbove_21 rfl sh_70 hb_4 ?_
  refine Ev_i2l dX10_yAbove_22 ?_
  refine Ev_lload dX10_yAbove_23 0 rfl ?_
  refine Ev_lmul dX10_yAbove_25 ?_
  refine Ev_lload dX10_yAbove_26 4 rfl ?_
  refine Ev_lmul dX10_yAbove_28 ?_
  refine Ev_lload_n dX10_yAbove_29 3 rfl ?_
  refine Ev_aload_n dX10_yAbove_30 1 rfl ?_
  refine Ev_getr 68 (69) dX10_yAbove_31 f_RX10_9 rfl sh_68 rfl ?_
  refine Ev_iload_n dX10_yAbove_34 2 rfl ?_
  obtain ⟨hb_5, h⟩ := h
  refine Ev_iald (69) dX10_yAbove_35 rfl sh_69 hb_5 ?_
  refine Ev_i2l dX10_yAbove_36 ?_
  refine Ev_lload dX10_yAbove_37 4 rfl ?_
  refine Ev_lmul dX10_yAbove_39 ?_
  refine Ev_lsub dX10_yAbove_40 ?_
  refine Ev_aload_n dX10_yAbove_41 1 rfl ?_
  refine Ev_getr 68 (72) dX10_yAbove_42 f_RX10_19 rfl sh_68 rfl ?_
  refine Ev_iload_n dX10_yAbove_45 2 rfl ?_
  obtain ⟨hb_6, h⟩ := h
  refine Ev_iald (72) dX10_yAbove_46 rfl sh_72 hb_6 ?_
  refine Ev_aload_n dX10_yAbove_47 1 rfl ?_
  refine Ev_getr 68 (70) dX10_yAbove_48 f_RX10_13 rfl sh_68 rfl ?_
  refine Ev_iload_n dX10_yAbove_51 2 rfl ?_
  obtain ⟨hb_7, h⟩ := h
  refine Ev_iald (70) dX10_yAbove_52 rfl sh_70 hb_7 ?_
  refine Ev_isub dX10_yAbove_53 ?_
  refine Ev_i2l dX10_yAbove_54 ?_
  refine Ev_lmul dX10_yAbove_55 ?_
  refine Ev_ladd dX10_yAbove_56 ?_
  exact Ev_ret dX10_yAbove_57 trivial (poI_mk h)
theorem k_X10_yBelow {s : Sg} {v1 v2 : Int} {post : Int → Prop} (h : w_X10_yBelow s v1 v2 post) : EvM mX10_yBelow 0 [(2, 68), (0, v1), (1, v2)] s (poI 1 s post) := by
  refine EvM_of rfl (by decide +kernel) (Nat.le_of_ble_eq_true rfl) ?_
  unfold w_X10_yBelow at h
  show Ev mX10_yBelow 0 0 [(0, (2, 68)), (1, (0, v1)), (2, (1, v2))] [] s (poI 1 s post)
  refine Ev_aload_n dX10_yBelow_0 0 rfl ?_
  refine Ev_getr 68 (71) dX10_yBelow_1 f_RX10_16 rfl sh_68 rfl ?_
  refine Ev_iload_n dX10_yBelow_4 1 rfl ?_
  obtain ⟨hb_1, h⟩ := h
  refine Ev_iald (71) dX10_yBelow_5 rfl sh_71 hb_1 ?_
  refine Ev_aload_n dX10_yBelow_6 0 rfl ?_
  refine Ev_getr 68 (69) dX10_yBelow_7 f_RX10_9 rfl sh_68 rfl ?_
  refine Ev_iload_n dX10_yBelow_10 1 rfl ?_
  obtain ⟨hb_2, h⟩ := h
  refine Ev_iald (69) dX10_yBelow_11 rfl sh_69 hb_2 ?_
  refine Ev_isub dX10_yBelow_12 ?_
  refine Ev_i2l dX10_yBelow_13 ?_
  refine Ev_lload_n dX10_yBelow_14 2 rfl ?_
  refine Ev_lmul dX10_yBelow_15 ?_
  exact Ev_ret dX10_yBelow_16 trivial (poI_mk h)
theorem k_X10_againstThrough {s : Sg} {v1 v2 v3 : Int} {post : Int → Prop} (h : w_X10_againstThrough s v1 v2 v3 post) : EvM mX10_againstThrough 1 [(2, 68), (0, v1), (0, v2), (0, v3)] s (poI 0 s post) := by
  refine EvM_of rfl (by decide +kernel) (Nat.le_of_ble_eq_true rfl) ?_
  unfold w_X10_againstThrough at h
  show Ev mX10_againstThrough 1 0 [(0, (2, 68)), (1, (0, v1)), (2, (0, v2)), (3, (0, v3))] [] s (poI 0 s post)
  refine Ev_aload_n dX10_againstThrough_0 0 rfl ?_
  refine Ev_iload_n dX10_againstThrough_1 1 rfl ?_
  refine Ev_aload_n dX10_againstThrough_2 0 rfl ?_
  refine Ev_getr 68 (83) dX10_againstThrough_3 f_RX10_54 rfl sh_68 rfl ?_
  refine Ev_iload_n dX10_againstThrough_6 3 rfl ?_
  obtain ⟨hb_1, h⟩ := h
  refine Ev_lald (83) dX10_againstThrough_7 rfl sh_83 hb_1 ?_
  refine Ev_aload_n dX10_againstThrough_8 0 rfl ?_
  refine Ev_getr 68 (84) dX10_againstThrough_9 f_RX10_57 rfl sh_68 rfl ?_
  refine Ev_iload_n dX10_againstThrough_12 3 rfl ?_
  obtain ⟨hb_2, h⟩ := h
  refine Ev_lald (84) dX10_againstThrough_13 rfl sh_84 hb_2 ?_
  refine Ev_invV (d' := 0) [(0, v1), (1, s 83 v3.toNat), (1, s 84 v3.toNat)] 68 dX10_againstThrough_14 M_X10_yAbove q_1179 (by decide) rfl rfl sh_68 rfl (Nat.le_of_ble_eq_true rfl) (k_X10_yAbove h) ?_
  rintro _ _ ⟨rfl, r_3, rfl, h⟩
  refine Ev_aload_n dX10_againstThrough_17 0 rfl ?_
  refine Ev_iload_n dX10_againstThrough_18 1 rfl ?_
  refine Ev_aload_n dX10_againstThrough_19 0 rfl ?_
  refine Ev_getr 68 (84) dX10_againstThrough_20 f_RX10_57 rfl sh_68 rfl ?_
  refine Ev_iload_n dX10_againstThrough_23 3 rfl ?_
  obtain ⟨hb_4, h⟩ := h
  refine Ev_lald (84) dX10_againstThrough_24 rfl sh_84 hb_4 ?_
  refine Ev_invV (d' := 0) [(0, v1), (1, s 84 v3.toNat)] 68 dX10_againstThrough_25 M_X10_yBelow q_1183 (by decide) rfl rfl sh_68 rfl (Nat.le_of_ble_eq_true rfl) (k_X10_yBelow h) ?_
  rintro _ _ ⟨rfl, r_5, rfl, h⟩
  refine Ev_aload_n dX10_againstThrough_28 0 rfl ?_
  refine Ev_iload_n dX10_againstThrough_29 2 rfl ?_
  refine Ev_aload_n dX10_againstThrough_30 0 rfl ?_
  refine Ev_getr 68 (83) dX10_againstThrough_31 f_RX10_54 rfl sh_68 rfl ?_
  refine Ev_iload_n dX10_againstThrough_34 3 rfl ?_
  obtain ⟨hb_6, h⟩ := h
  refine Ev_lald (83) dX10_againstThrough_35 rfl sh_83 hb_6 ?_
  refine Ev_aload_n dX10_againstThrough_36 0 rfl ?_
  refine Ev_getr 68 (84) dX10_againstThrough_37 f_RX10_57 rfl sh_68 rfl ?_
  refine Ev_iload_n dX10_againstThrough_40 3 rfl ?_
  obtain ⟨hb_7, h⟩ := h
  refine Ev_lald (84) dX10_againstThrough_41 rfl sh_84 hb_7 ?_
  refine Ev_invV (d' := 0) [(0, v2), (1, s 83 v3.toNat), (1, s 84 v3.toNat)] 68 dX10_againstThrough_42 M_X10_yAbove q_1179 (by decide) rfl rfl sh_68 rfl (Nat.le_of_ble_eq_true rfl) (k_X10_yAbove h) ?_
  rintro _ _ ⟨rfl, r_8, rfl, h⟩
  refine Ev_aload_n dX10_againstThrough_45 0 rfl ?_
  refine Ev_iload_n dX10_againstThrough_46 2 rfl ?_
  refine Ev_aload_n dX10_againstThrough_47 0 rfl ?_
  refine Ev_getr 68 (84) dX10_againstThrough_48 f_RX10_57 rfl sh_68 rfl ?_
  refine Ev_iload_n dX10_againstThrough_51 3 rfl ?_
  obtain ⟨hb_9, h⟩ := h
  refine Ev_lald (84) dX10_againstThrough_52 rfl sh_84 hb_9 ?_
  refine Ev_invV (d' := 0) [(0, v2), (1, s 84 v3.toNat)] 68 dX10_againstThrough_53 M_X10_yBelow q_1183 (by decide) rfl rfl sh_68 rfl (Nat.le_of_ble_eq_true rfl) (k_X10_yBelow h) ?_
  rintro _ _ ⟨rfl, r_10, rfl, h⟩
  refine Ev_invS (d' := 0) [(1, r_3), (1, r_5), (1, r_8), (1, r_10)] dX10_againstThrough_56 M_X10_against (Or.inl q_1106) (by decide) rfl (Nat.le_of_ble_eq_true rfl) (k_X10_against h) ?_
  rintro _ _ ⟨rfl, r_11, rfl, h⟩
  refine Ev_istore dX10_againstThrough_59 (by decide) rfl ?_
  refine Ev_iload dX10_againstThrough_61 0 rfl ?_
  refine Ev_if_eq (tgt := 69) dX10_againstThrough_63 (by decide) (fun hc => ?_) (fun hc => ?_)
  · replace h := h.1 hc
    refine Ev_aload_n dX10_againstThrough_69 1 rfl ?_
    refine Ev_getr 68 (83) dX10_againstThrough_70 f_RX10_54 rfl sh_68 rfl ?_
    refine Ev_iload_n dX10_againstThrough_73 4 rfl ?_
    refine Ev_iconst (v := 1) dX10_againstThrough_74 rfl ⟨by decide, by decide⟩ ?_
    refine Ev_iadd dX10_againstThrough_75 ?_
    obtain ⟨hb_12, h⟩ := h
    refine Ev_lald (83) dX10_againstThrough_76 rfl sh_83 hb_12 ?_
    obtain ⟨v5_13, ev5_13⟩ : ∃ z : Int, z = s 83 (w32 (v3 + 1)).toNat := ⟨_, rfl⟩
    replace h := h v5_13 ev5_13
    rw [← ev5_13]
    refine Ev_lstore dX10_againstThrough_77 (by decide) rfl ?_
    refine Ev_aload_n dX10_againstThrough_79 2 rfl ?_
    refine Ev_getr 68 (84) dX10_againstThrough_80 f_RX10_57 rfl sh_68 rfl ?_
    refine Ev_iload_n dX10_againstThrough_83 5 rfl ?_
    refine Ev_iconst (v := 1) dX10_againstThrough_84 rfl ⟨by decide, by decide⟩ ?_
    refine Ev_iadd dX10_againstThrough_85 ?_
    obtain ⟨hb_14, h⟩ := h
    refine Ev_lald (84) dX10_againstThrough_86 rfl sh_84 hb_14 ?_
    obtain ⟨v7_15, ev7_15⟩ : ∃ z : Int, z = s 84 (w32 (v3 + 1)).toNat := ⟨_, rfl⟩
    replace h := h v7_15 ev7_15
    rw [← ev7_15]
    refine Ev_lstore dX10_againstThrough_87 (by decide) rfl ?_
    refine Ev_aload_n dX10_againstThrough_89 3 rfl ?_
    refine Ev_iload_n dX10_againstThrough_90 4 rfl ?_
    refine Ev_lload dX10_againstThrough_91 1 rfl ?_
    refine Ev_lload dX10_againstThrough_93 0 rfl ?_
    refine Ev_invV (d' := 0) [(0, v1), (1, v5_13), (1, v7_15)] 68 dX10_againstThrough_95 M_X10_yAbove q_1179 (by decide) rfl rfl sh_68 rfl (Nat.le_of_ble_eq_true rfl) (k_X10_yAbove h) ?_
    rintro _ _ ⟨rfl, r_16, rfl, h⟩
    refine Ev_aload_n dX10_againstThrough_98 3 rfl ?_
    refine Ev_iload_n dX10_againstThrough_99 4 rfl ?_
    refine Ev_lload dX10_againstThrough_100 0 rfl ?_
    refine Ev_invV (d' := 0) [(0, v1), (1, v7_15)] 68 dX10_againstThrough_102 M_X10_yBelow q_1183 (by decide) rfl rfl sh_68 rfl (Nat.le_of_ble_eq_true rfl) (k_X10_yBelow h) ?_
    rintro _ _ ⟨rfl, r_17, rfl, h⟩
    refine Ev_aload_n dX10_againstThrough_105 3 rfl ?_
    refine Ev_iload_n dX10_againstThrough_106 5 rfl ?_
    refine Ev_lload dX10_againstThrough_107 1 rfl ?_
    refine Ev_lload dX10_againstThrough_109 0 rfl ?_
    refine Ev_invV (d' := 0) [(0, v2), (1, v5_13), (1, v7_15)] 68 dX10_againstThrough_111 M_X10_yAbove q_1179 (by decide) rfl rfl sh_68 rfl (Nat.le_of_ble_eq_true rfl) (k_X10_yAbove h) ?_
    rintro _ _ ⟨rfl, r_18, rfl, h⟩
    refine Ev_aload_n dX10_againstThrough_114 3 rfl ?_
    refine Ev_iload_n dX10_againstThrough_115 5 rfl ?_
    refine Ev_lload dX10_againstThrough_116 0 rfl ?_
    refine Ev_invV (d' := 0) [(0, v2), (1, v7_15)] 68 dX10_againstThrough_118 M_X10_yBelow q_1183 (by decide) rfl rfl sh_68 rfl (Nat.le_of_ble_eq_true rfl) (k_X10_yBelow h) ?_
    rintro _ _ ⟨rfl, r_19, rfl, h⟩
    refine Ev_invS (d' := 0) [(1, r_16), (1, r_17), (1, r_18), (1, r_19)] dX10_againstThrough_121 M_X10_against (Or.inl q_1106) (by decide) rfl (Nat.le_of_ble_eq_true rfl) (k_X10_against h) ?_
    rintro _ _ ⟨rfl, r_20, rfl, h⟩
    exact Ev_ret dX10_againstThrough_124 trivial (poI_mk h)
  · replace h := h.2 hc
    refine Ev_iload dX10_againstThrough_66 0 rfl ?_
    exact Ev_ret dX10_againstThrough_68 trivial (poI_mk h)
theorem k_X10_endRow {s : Sg} {v1 : Int} {post : Int → Prop} (h : w_X10_endRow s v1 post) : EvM mX10_endRow 0 [(2, 68), (0, v1)] s (poI 2 s post) := by
  refine EvM_of rfl (by decide +kernel) (Nat.le_of_ble_eq_true rfl) ?_
  unfold w_X10_endRow at h
  show Ev mX10_endRow 0 0 [(0, (2, 68)), (1, (0, v1))] [] s (poI 2 s post)
  refine Ev_iload_n dX10_endRow_0 1 rfl ?_
  refine jc_1 (P := fun (t_1 : Int) => Ev mX10_endRow 0 39 [] [(2, t_1)] s (poI 2 s post)) h ?_ ?_
  · intro t_1 h
    exact Ev_ret dX10_endRow_39 trivial (poI_mk h)
  · intro K_2 hK_2 h
    refine Ev_if_ne (tgt := 11) dX10_endRow_1 (by decide) (fun hc => ?_) (fun hc => ?_)
    · replace h := h.1 hc
      refine Ev_iload_n dX10_endRow_11 1 rfl ?_
      refine Ev_iconst (v := 1) dX10_endRow_12 rfl ⟨by decide, by decide⟩ ?_
      refine Ev_icmp_ne (tgt := 23) dX10_endRow_13 (by decide) (fun hc => ?_) (fun hc => ?_)
      · replace h := h.1 hc
        refine Ev_iload_n dX10_endRow_23 1 rfl ?_
        refine Ev_iconst (v := 2) dX10_endRow_24 rfl ⟨by decide, by decide⟩ ?_
        refine Ev_icmp_ne (tgt := 35) dX10_endRow_25 (by decide) (fun hc => ?_) (fun hc => ?_)
        · replace h := h.1 hc
          refine Ev_aload_n dX10_endRow_35 0 rfl ?_
          refine Ev_getr 68 (72) dX10_endRow_36 f_RX10_19 rfl sh_68 rfl ?_
          refine Ev_sub [] rfl ?_
          exact hK_2 _ h
        · replace h := h.2 hc
          refine Ev_aload_n dX10_endRow_28 0 rfl ?_
          refine Ev_getr 68 (71) dX10_endRow_29 f_RX10_16 rfl sh_68 rfl ?_
          refine Ev_goto (tgt := 39) dX10_endRow_32 (by decide) ?_
          refine Ev_sub [] rfl ?_
          exact hK_2 _ h
      · replace h := h.2 hc
        refine Ev_aload_n dX10_endRow_16 0 rfl ?_
        refine Ev_getr 68 (70) dX10_endRow_17 f_RX10_13 rfl sh_68 rfl ?_
        refine Ev_goto (tgt := 39) dX10_endRow_20 (by decide) ?_
        refine Ev_sub [] rfl ?_
        exact hK_2 _ h
    · replace h := h.2 hc
      refine Ev_aload_n dX10_endRow_4 0 rfl ?_
      refine Ev_getr 68 (69) dX10_endRow_5 f_RX10_9 rfl sh_68 rfl ?_
      refine Ev_goto (tgt := 39) dX10_endRow_8 (by decide) ?_
      refine Ev_sub [] rfl ?_
      exact hK_2 _ h
theorem k_X10_layBack {s : Sg} {v1 : Int} {post : Sg → Prop} (h : w_X10_layBack s v1 post) : EvM mX10_layBack 2 [(2, 68), (0, v1)] s (poV post) := by
  refine EvM_of rfl (by decide +kernel) (Nat.le_of_ble_eq_true rfl) ?_
  unfold w_X10_layBack at h
  show Ev mX10_layBack 2 0 [(0, (2, 68)), (1, (0, v1))] [] s (poV post)
  refine Ev_aload_n dX10_layBack_0 0 rfl ?_
  refine Ev_aload_n dX10_layBack_1 0 rfl ?_
  refine Ev_getr 68 (174) dX10_layBack_2 f_RX10_89 rfl sh_68 rfl ?_
  refine Ev_iload_n dX10_layBack_5 1 rfl ?_
  obtain ⟨hb_1, h⟩ := h
  refine Ev_iald (174) dX10_layBack_6 rfl sh_174 hb_1 ?_
  obtain ⟨s_2, es_2⟩ : ∃ z : Sg, z = (up s 68 0 (s 174 v1.toNat)) := ⟨_, rfl⟩
  replace h := h s_2 es_2
  refine Ev_puti 68 dX10_layBack_7 fp_RX10_109 rfl sh_68 ?_
  rw [← es_2]
  refine Ev_iconst (v := 0) dX10_layBack_10 rfl ⟨by decide, by decide⟩ ?_
  refine Ev_istore_n dX10_layBack_11 (by decide) rfl ?_
  refine Ev_sub [1, 2, 0] rfl ?_
  refine li_1s (P := fun (v2_3 : Int) (s_4 : Sg) => Ev mX10_layBack 2 12 [(0, (2, 68)), (1, (0, v1)), (2, (0, v2_3))] [] s_4 (poV post)) ?_ h
  intro again_5 v2_3 s_4 hagain_5 h
  refine Ev_iload_n dX10_layBack_12 2 rfl ?_
  refine Ev_iconst (v := 4) dX10_layBack_13 rfl ⟨by decide, by decide⟩ ?_
  refine Ev_icmp_ge (tgt := 45) dX10_layBack_14 (by decide) (fun hc => ?_) (fun hc => ?_)
  · replace h := h.1 hc
    exact Ev_retv dX10_layBack_45 rfl (poV_mk h)
  · replace h := h.2 hc
    refine Ev_aload_n dX10_layBack_17 0 rfl ?_
    refine Ev_getr 68 (175) dX10_layBack_18 f_RX10_94 rfl sh_68 rfl ?_
    refine Ev_iconst (v := 4) dX10_layBack_21 rfl ⟨by decide, by decide⟩ ?_
    refine Ev_iload_n dX10_layBack_22 1 rfl ?_
    refine Ev_imul dX10_layBack_23 ?_
    refine Ev_iload_n dX10_layBack_24 2 rfl ?_
    refine Ev_iadd dX10_layBack_25 ?_
    obtain ⟨hb_6, h⟩ := h
    refine Ev_aaldi 175 (((176 + (w32 ((w32 (4 * v1)) + v2_3)).toNat : Nat) : Int)) dX10_layBack_26 rfl sh_175 hb_6 (rr_175 hb_6).symm ?_
    refine Ev_iconst (v := 0) dX10_layBack_27 rfl ⟨by decide, by decide⟩ ?_
    refine Ev_aload_n dX10_layBack_28 0 rfl ?_
    refine Ev_iload_n dX10_layBack_29 2 rfl ?_
    refine Ev_invV (d' := 0) [(0, v2_3)] 68 dX10_layBack_30 M_X10_endRow q_1311 (by decide) rfl rfl sh_68 rfl (Nat.le_of_ble_eq_true rfl) (k_X10_endRow h) ?_
    rintro _ _ ⟨rfl, r_7, rfl, h⟩
    refine Ev_iconst (v := 0) dX10_layBack_33 rfl ⟨by decide, by decide⟩ ?_
    refine Ev_bipush (v := 10) dX10_layBack_34 (by decide +kernel) ?_
    obtain ⟨hs_8, h⟩ := h
    obtain ⟨hb_9, h⟩ := h
    obtain ⟨s_10, es_10⟩ : ∃ z : Sg, z = (cpy s_4 (176 + (w32 ((w32 (4 * v1)) + v2_3)).toNat) 0 (r_7.toNat) 0 10) := ⟨_, rfl⟩
    replace h := h s_10 es_10
    refine Ev_copy (176 + (w32 ((w32 (4 * v1)) + v2_3)).toNat) (r_7.toNat) dX10_layBack_36 ⟨q_1315, q_869, q_868, q_15⟩ (by decide) (Nat.le_of_ble_eq_true rfl) rfl rfl (sr_175 hb_6) hs_8 hb_9 ?_
    rw [← es_10]
    obtain ⟨v2_11, ev2_11⟩ : ∃ z : Int, z = w32 (v2_3 + 1) := ⟨_, rfl⟩
    replace h := h v2_11 ev2_11
    refine Ev_iinc (v := v2_11) dX10_layBack_39 2 rfl ev2_11.symm (by decide) rfl ?_
    refine Ev_goto (tgt := 12) dX10_layBack_42 (by decide) ?_
    refine Ev_sub [1, 2, 0] rfl ?_
    exact hagain_5 _ _ h
theorem k_X10_back {s : Sg} {post : Int → Sg → Prop} (h : w_X10_back s post) : EvM mX10_back 3 [(2, 68)] s (poIs 0 post) := by
  refine EvM_of rfl (by decide +kernel) (Nat.le_of_ble_eq_true rfl) ?_
  unfold w_X10_back at h
  show Ev mX10_back 3 0 [(0, (2, 68))] [] s (poIs 0 post)
  refine Ev_aload_n dX10_back_0 0 rfl ?_
  refine Ev_geti 68 dX10_back_1 f_RX10_398 rfl sh_68 ?_
  refine Ev_if_ne (tgt := 10) dX10_back_4 (by decide) (fun hc => ?_) (fun hc => ?_)
  · replace h := h.1 hc
    refine Ev_aload_n dX10_back_10 0 rfl ?_
    refine Ev_iconst (v := 1) dX10_back_11 rfl ⟨by decide, by decide⟩ ?_
    refine Ev_invV (d' := 2) [(0, 1)] 68 dX10_back_12 M_X10_layBack q_1320 (by decide) rfl rfl sh_68 rfl (Nat.le_of_ble_eq_true rfl) (k_X10_layBack h) ?_
    rintro _ s_1 ⟨rfl, h⟩
    refine Ev_aload_n dX10_back_15 0 rfl ?_
    refine Ev_geti 68 dX10_back_16 f_RX10_109 rfl sh_68 ?_
    exact Ev_ret dX10_back_19 trivial (poIs_mk h)
  · replace h := h.2 hc
    refine Ev_bipush (v := -3) dX10_back_7 (by decide +kernel) ?_
    exact Ev_ret dX10_back_9 trivial (poIs_mk h)
theorem k_X10_wide {s : Sg} {post : Sg → Prop} (h : w_X10_wide s post) : EvM mX10_wide 0 [(2, 68)] s (poV post) := by
  refine EvM_of rfl (by decide +kernel) (Nat.le_of_ble_eq_true rfl) ?_
  unfold w_X10_wide at h
  show Ev mX10_wide 0 0 [(0, (2, 68))] [] s (poV post)
  refine Ev_aload_n dX10_wide_0 0 rfl ?_
  refine Ev_ldc2 (v := -100000) dX10_wide_1 q_1215 (by decide +kernel) ?_
  obtain ⟨s_1, es_1⟩ : ∃ z : Sg, z = (up s 68 33 (-100000)) := ⟨_, rfl⟩
  replace h := h s_1 es_1
  refine Ev_putl 68 dX10_wide_4 fp_RX10_290 rfl sh_68 ?_
  rw [← es_1]
  refine Ev_aload_n dX10_wide_7 0 rfl ?_
  refine Ev_lconst (v := 1) dX10_wide_8 (by decide +kernel) ?_
  obtain ⟨s_2, es_2⟩ : ∃ z : Sg, z = (up s_1 68 34 1) := ⟨_, rfl⟩
  replace h := h s_2 es_2
  refine Ev_putl 68 dX10_wide_9 fp_RX10_293 rfl sh_68 ?_
  rw [← es_2]
  refine Ev_aload_n dX10_wide_12 0 rfl ?_
  refine Ev_ldc2 (v := 100000) dX10_wide_13 q_1216 (by decide +kernel) ?_
  obtain ⟨s_3, es_3⟩ : ∃ z : Sg, z = (up s_2 68 35 100000) := ⟨_, rfl⟩
  replace h := h s_3 es_3
  refine Ev_putl 68 dX10_wide_16 fp_RX10_296 rfl sh_68 ?_
  rw [← es_3]
  refine Ev_aload_n dX10_wide_19 0 rfl ?_
  refine Ev_lconst (v := 1) dX10_wide_20 (by decide +kernel) ?_
  obtain ⟨s_4, es_4⟩ : ∃ z : Sg, z = (up s_3 68 36 1) := ⟨_, rfl⟩
  replace h := h s_4 es_4
  refine Ev_putl 68 dX10_wide_21 fp_RX10_299 rfl sh_68 ?_
  rw [← es_4]
  exact Ev_retv dX10_wide_24 rfl (poV_mk h)
theorem k_X10_leastOf {s : Sg} {v0 : Int} {post : Int → Prop} (h : w_X10_leastOf v0 post) : EvM mX10_leastOf 1 [(0, v0)] s (poI 0 s post) := by
  refine EvM_of rfl (by decide +kernel) (Nat.le_of_ble_eq_true rfl) ?_
  unfold w_X10_leastOf at h
  show Ev mX10_leastOf 1 0 [(0, (0, v0))] [] s (poI 0 s post)
  refine Ev_iload_n dX10_leastOf_0 0 rfl ?_
  refine jc_1 (P := fun (t_1 : Int) => Ev mX10_leastOf 1 12 [] [(0, t_1)] s (poI 0 s post)) h ?_ ?_
  · intro t_1 h
    exact Ev_ret dX10_leastOf_12 trivial (poI_mk h)
  · intro K_2 hK_2 h
    refine Ev_if_ne (tgt := 8) dX10_leastOf_1 (by decide) (fun hc => ?_) (fun hc => ?_)
    · replace h := h.1 hc
      refine Ev_iload_n dX10_leastOf_8 0 rfl ?_
      refine Ev_invS (d' := 0) [(0, v0)] dX10_leastOf_9 M_J6_numberOfTrailingZeros_0f7a4 (Or.inl q_1224) (by decide) rfl (Nat.le_of_ble_eq_true rfl) (k_J6_numberOfTrailingZeros_0f7a4 h) ?_
      rintro _ _ ⟨rfl, r_3, rfl, h⟩
      refine Ev_sub [] rfl ?_
      exact hK_2 _ h
    · replace h := h.2 hc
      refine Ev_iconst (v := -1) dX10_leastOf_4 rfl ⟨by decide, by decide⟩ ?_
      refine Ev_goto (tgt := 12) dX10_leastOf_5 (by decide) ?_
      refine Ev_sub [] rfl ?_
      exact hK_2 _ h
theorem k_X10_narrow {s : Sg} {v1 v2 v4 : Int} {post : Sg → Prop} (h : w_X10_narrow s v1 v2 v4 post) : EvM mX10_narrow 2 [(2, 68), (0, v1), (1, v2), (1, v4)] s (poV post) := by
  refine EvM_of rfl (by decide +kernel) (Nat.le_of_ble_eq_true rfl) ?_
  unfold w_X10_narrow at h
  show Ev mX10_narrow 2 0 [(0, (2, 68)), (1, (0, v1)), (2, (1, v2)), (4, (1, v4))] [] s (poV post)
  refine Ev_aload_n dX10_narrow_0 0 rfl ?_
  refine Ev_getr 68 (87) dX10_narrow_1 f_RX10_66 rfl sh_68 rfl ?_
  refine Ev_iload_n dX10_narrow_4 1 rfl ?_
  obtain ⟨hb_1, h⟩ := h
  refine Ev_iald (87) dX10_narrow_5 rfl sh_87 hb_1 ?_
  refine Ev_invS (d' := 1) [(0, s 87 v1.toNat)] dX10_narrow_6 M_X10_leastOf (Or.inl q_1221) (by decide) rfl (Nat.le_of_ble_eq_true rfl) (k_X10_leastOf h) ?_
  rintro _ _ ⟨rfl, r_2, rfl, h⟩
  refine Ev_istore dX10_narrow_9 (by decide) rfl ?_
  refine Ev_aload_n dX10_narrow_11 1 rfl ?_
  refine Ev_getr 68 (88) dX10_narrow_12 f_RX10_69 rfl sh_68 rfl ?_
  refine Ev_iload_n dX10_narrow_15 2 rfl ?_
  obtain ⟨hb_3, h⟩ := h
  refine Ev_iald (88) dX10_narrow_16 rfl sh_88 hb_3 ?_
  refine Ev_invS (d' := 1) [(0, s 88 v1.toNat)] dX10_narrow_17 M_X10_leastOf (Or.inl q_1221) (by decide) rfl (Nat.le_of_ble_eq_true rfl) (k_X10_leastOf h) ?_
  rintro _ _ ⟨rfl, r_4, rfl, h⟩
  refine Ev_istore dX10_narrow_20 (by decide) rfl ?_
  refine Ev_iload dX10_narrow_22 1 rfl ?_
  refine Ev_iconst (v := -1) dX10_narrow_24 rfl ⟨by decide, by decide⟩ ?_
  refine jc_0s (P := fun (s_5 : Sg) => Ev mX10_narrow 2 84 [(0, (2, 68)), (2, (1, v2)), (4, (1, v4)), (7, (0, r_4))] [] s_5 (poV post)) h ?_ ?_
  · intro s_5 h
    refine Ev_iload dX10_narrow_84 3 rfl ?_
    refine Ev_iconst (v := -1) dX10_narrow_86 rfl ⟨by decide, by decide⟩ ?_
    refine jc_0s (P := fun (s_7 : Sg) => Ev mX10_narrow 2 146 [] [] s_7 (poV post)) h ?_ ?_
    · intro s_7 h
      exact Ev_retv dX10_narrow_146 rfl (poV_mk h)
    · intro K_8 hK_8 h
      refine Ev_icmp_eq (tgt := 146) dX10_narrow_87 (by decide) (fun hc => ?_) (fun hc => ?_)
      · replace h := h.1 hc
        refine Ev_sub [] rfl ?_
        exact hK_8 _ h
      · replace h := h.2 hc
        refine Ev_aload_n dX10_narrow_90 0 rfl ?_
        refine Ev_iload dX10_narrow_91 3 rfl ?_
        refine Ev_lload_n dX10_narrow_93 1 rfl ?_
        refine Ev_lload dX10_narrow_94 2 rfl ?_
        refine Ev_invV (d' := 0) [(0, r_4), (1, v2), (1, v4)] 68 dX10_narrow_96 M_X10_yAbove q_1179 (by decide) rfl rfl sh_68 rfl (Nat.le_of_ble_eq_true rfl) (k_X10_yAbove h) ?_
        rintro _ _ ⟨rfl, r_9, rfl, h⟩
        refine Ev_aload_n dX10_narrow_99 0 rfl ?_
        refine Ev_iload dX10_narrow_100 3 rfl ?_
        refine Ev_lload dX10_narrow_102 2 rfl ?_
        refine Ev_invV (d' := 0) [(0, r_4), (1, v4)] 68 dX10_narrow_104 M_X10_yBelow q_1183 (by decide) rfl rfl sh_68 rfl (Nat.le_of_ble_eq_true rfl) (k_X10_yBelow h) ?_
        rintro _ _ ⟨rfl, r_10, rfl, h⟩
        refine Ev_aload_n dX10_narrow_107 0 rfl ?_
        refine Ev_getl 68 dX10_narrow_108 f_RX10_296 rfl sh_68 ?_
        refine Ev_aload_n dX10_narrow_111 0 rfl ?_
        refine Ev_getl 68 dX10_narrow_112 f_RX10_299 rfl sh_68 ?_
        refine Ev_invS (d' := 0) [(1, r_9), (1, r_10), (1, s_5 68 35), (1, s_5 68 36)] dX10_narrow_115 M_X10_against (Or.inl q_1106) (by decide) rfl (Nat.le_of_ble_eq_true rfl) (k_X10_against h) ?_
        rintro _ _ ⟨rfl, r_11, rfl, h⟩
        refine Ev_if_ge (tgt := 146) dX10_narrow_118 (by decide) (fun hc => ?_) (fun hc => ?_)
        · replace h := h.1 hc
          refine Ev_sub [] rfl ?_
          exact hK_8 _ h
        · replace h := h.2 hc
          refine Ev_aload_n dX10_narrow_121 0 rfl ?_
          refine Ev_aload_n dX10_narrow_122 0 rfl ?_
          refine Ev_iload dX10_narrow_123 3 rfl ?_
          refine Ev_lload_n dX10_narrow_125 1 rfl ?_
          refine Ev_lload dX10_narrow_126 2 rfl ?_
          refine Ev_invV (d' := 0) [(0, r_4), (1, v2), (1, v4)] 68 dX10_narrow_128 M_X10_yAbove q_1179 (by decide) rfl rfl sh_68 rfl (Nat.le_of_ble_eq_true rfl) (k_X10_yAbove h) ?_
          rintro _ _ ⟨rfl, r_12, rfl, h⟩
          obtain ⟨s_13, es_13⟩ : ∃ z : Sg, z = (up s_5 68 35 r_12) := ⟨_, rfl⟩
          replace h := h s_13 es_13
          refine Ev_putl 68 dX10_narrow_131 fp_RX10_296 rfl sh_68 ?_
          rw [← es_13]
          refine Ev_aload_n dX10_narrow_134 0 rfl ?_
          refine Ev_aload_n dX10_narrow_135 0 rfl ?_
          refine Ev_iload dX10_narrow_136 3 rfl ?_
          refine Ev_lload dX10_narrow_138 2 rfl ?_
          refine Ev_invV (d' := 0) [(0, r_4), (1, v4)] 68 dX10_narrow_140 M_X10_yBelow q_1183 (by decide) rfl rfl sh_68 rfl (Nat.le_of_ble_eq_true rfl) (k_X10_yBelow h) ?_
          rintro _ _ ⟨rfl, r_14, rfl, h⟩
          obtain ⟨s_15, es_15⟩ : ∃ z : Sg, z = (up s_13 68 36 r_14) := ⟨_, rfl⟩
          replace h := h s_15 es_15
          refine Ev_putl 68 dX10_narrow_143 fp_RX10_299 rfl sh_68 ?_
          rw [← es_15]
          refine Ev_sub [] rfl ?_
          exact hK_8 _ h
  · intro K_6 hK_6 h
    refine Ev_icmp_eq (tgt := 84) dX10_narrow_25 (by decide) (fun hc => ?_) (fun hc => ?_)
    · replace h := h.1 hc
      refine Ev_sub [2, 4, 5, 0] rfl ?_
      exact hK_6 _ h
    · replace h := h.2 hc
      refine Ev_aload_n dX10_narrow_28 2 rfl ?_
      refine Ev_iload dX10_narrow_29 1 rfl ?_
      refine Ev_lload_n dX10_narrow_31 4 rfl ?_
      refine Ev_lload dX10_narrow_32 5 rfl ?_
      refine Ev_invV (d' := 0) [(0, r_2), (1, v2), (1, v4)] 68 dX10_narrow_34 M_X10_yAbove q_1179 (by decide) rfl rfl sh_68 rfl (Nat.le_of_ble_eq_true rfl) (k_X10_yAbove h) ?_
      rintro _ _ ⟨rfl, r_16, rfl, h⟩
      refine Ev_aload_n dX10_narrow_37 2 rfl ?_
      refine Ev_iload dX10_narrow_38 1 rfl ?_
      refine Ev_lload dX10_narrow_40 5 rfl ?_
      refine Ev_invV (d' := 0) [(0, r_2), (1, v4)] 68 dX10_narrow_42 M_X10_yBelow q_1183 (by decide) rfl rfl sh_68 rfl (Nat.le_of_ble_eq_true rfl) (k_X10_yBelow h) ?_
      rintro _ _ ⟨rfl, r_17, rfl, h⟩
      refine Ev_aload_n dX10_narrow_45 2 rfl ?_
      refine Ev_getl 68 dX10_narrow_46 f_RX10_290 rfl sh_68 ?_
      refine Ev_aload_n dX10_narrow_49 2 rfl ?_
      refine Ev_getl 68 dX10_narrow_50 f_RX10_293 rfl sh_68 ?_
      refine Ev_invS (d' := 0) [(1, r_16), (1, r_17), (1, s 68 33), (1, s 68 34)] dX10_narrow_53 M_X10_against (Or.inl q_1106) (by decide) rfl (Nat.le_of_ble_eq_true rfl) (k_X10_against h) ?_
      rintro _ _ ⟨rfl, r_18, rfl, h⟩
      refine Ev_if_le (tgt := 84) dX10_narrow_56 (by decide) (fun hc => ?_) (fun hc => ?_)
      · replace h := h.1 hc
        refine Ev_sub [2, 4, 5, 0] rfl ?_
        exact hK_6 _ h
      · replace h := h.2 hc
        refine Ev_aload_n dX10_narrow_59 2 rfl ?_
        refine Ev_aload_n dX10_narrow_60 2 rfl ?_
        refine Ev_iload dX10_narrow_61 1 rfl ?_
        refine Ev_lload_n dX10_narrow_63 4 rfl ?_
        refine Ev_lload dX10_narrow_64 5 rfl ?_
        refine Ev_invV (d' := 0) [(0, r_2), (1, v2), (1, v4)] 68 dX10_narrow_66 M_X10_yAbove q_1179 (by decide) rfl rfl sh_68 rfl (Nat.le_of_ble_eq_true rfl) (k_X10_yAbove h) ?_
        rintro _ _ ⟨rfl, r_19, rfl, h⟩
        obtain ⟨s_20, es_20⟩ : ∃ z : Sg, z = (up s 68 33 r_19) := ⟨_, rfl⟩
        replace h := h s_20 es_20
        refine Ev_putl 68 dX10_narrow_69 fp_RX10_290 rfl sh_68 ?_
        rw [← es_20]
        refine Ev_aload_n dX10_narrow_72 2 rfl ?_
        refine Ev_aload_n dX10_narrow_73 2 rfl ?_
        refine Ev_iload dX10_narrow_74 1 rfl ?_
        refine Ev_lload dX10_narrow_76 5 rfl ?_
        refine Ev_invV (d' := 0) [(0, r_2), (1, v4)] 68 dX10_narrow_78 M_X10_yBelow q_1183 (by decide) rfl rfl sh_68 rfl (Nat.le_of_ble_eq_true rfl) (k_X10_yBelow h) ?_
        rintro _ _ ⟨rfl, r_21, rfl, h⟩
        obtain ⟨s_22, es_22⟩ : ∃ z : Sg, z = (up s_20 68 34 r_21) := ⟨_, rfl⟩
        replace h := h s_22 es_22
        refine Ev_putl 68 dX10_narrow_81 fp_RX10_293 rfl sh_68 ?_
        rw [← es_22]
        refine Ev_sub [2, 4, 5, 0] rfl ?_
        exact hK_6 _ h
theorem k_X10_isUpright {s : Sg} {v1 : Int} {post : Int → Prop} (h : w_X10_isUpright s v1 post) : EvM mX10_isUpright 0 [(2, 68), (0, v1)] s (poI 0 s post) := by
  refine EvM_of rfl (by decide +kernel) (Nat.le_of_ble_eq_true rfl) ?_
  unfold w_X10_isUpright at h
  show Ev mX10_isUpright 0 0 [(0, (2, 68)), (1, (0, v1))] [] s (poI 0 s post)
  refine Ev_aload_n dX10_isUpright_0 0 rfl ?_
  refine Ev_getr 68 (69) dX10_isUpright_1 f_RX10_9 rfl sh_68 rfl ?_
  refine Ev_iload_n dX10_isUpright_4 1 rfl ?_
  obtain ⟨hb_1, h⟩ := h
  refine Ev_iald (69) dX10_isUpright_5 rfl sh_69 hb_1 ?_
  refine Ev_aload_n dX10_isUpright_6 0 rfl ?_
  refine Ev_getr 68 (71) dX10_isUpright_7 f_RX10_16 rfl sh_68 rfl ?_
  refine Ev_iload_n dX10_isUpright_10 1 rfl ?_
  obtain ⟨hb_2, h⟩ := h
  refine Ev_iald (71) dX10_isUpright_11 rfl sh_71 hb_2 ?_
  refine jc_1 (P := fun (t_3 : Int) => Ev mX10_isUpright 0 20 [] [(0, t_3)] s (poI 0 s post)) h ?_ ?_
  · intro t_3 h
    obtain ⟨hz, h⟩ := h
    exact Ev_ret dX10_isUpright_20 hz (poI_mk h)
  · intro K_4 hK_4 h
    refine Ev_icmp_ne (tgt := 19) dX10_isUpright_12 (by decide) (fun hc => ?_) (fun hc => ?_)
    · replace h := h.1 hc
      refine Ev_iconst (v := 0) dX10_isUpright_19 rfl ⟨by decide, by decide⟩ ?_
      refine Ev_sub [] rfl ?_
      exact hK_4 _ h
    · replace h := h.2 hc
      refine Ev_iconst (v := 1) dX10_isUpright_15 rfl ⟨by decide, by decide⟩ ?_
      refine Ev_goto (tgt := 20) dX10_isUpright_16 (by decide) ?_
      refine Ev_sub [] rfl ?_
      exact hK_4 _ h
theorem k_X10_isUprightAt {s : Sg} {v1 v2 v4 : Int} {post : Int → Prop} (h : w_X10_isUprightAt s v1 v2 v4 post) : EvM mX10_isUprightAt 1 [(2, 68), (0, v1), (1, v2), (1, v4)] s (poI 0 s post) := by
  refine EvM_of rfl (by decide +kernel) (Nat.le_of_ble_eq_true rfl) ?_
  unfold w_X10_isUprightAt at h
  show Ev mX10_isUprightAt 1 0 [(0, (2, 68)), (1, (0, v1)), (2, (1, v2)), (4, (1, v4))] [] s (poI 0 s post)
  refine Ev_aload_n dX10_isUprightAt_0 0 rfl ?_
  refine Ev_iload_n dX10_isUprightAt_1 1 rfl ?_
  refine Ev_invV (d' := 0) [(0, v1)] 68 dX10_isUprightAt_2 M_X10_isUpright q_1139 (by decide) rfl rfl sh_68 rfl (Nat.le_of_ble_eq_true rfl) (k_X10_isUpright h) ?_
  rintro _ _ ⟨rfl, r_1, rfl, h⟩
  refine jc_1 (P := fun (t_2 : Int) => Ev mX10_isUprightAt 1 28 [] [(0, t_2)] s (poI 0 s post)) h ?_ ?_
  · intro t_2 h
    obtain ⟨hz, h⟩ := h
    exact Ev_ret dX10_isUprightAt_28 hz (poI_mk h)
  · intro K_3 hK_3 h
    refine jc_0 (P := Ev mX10_isUprightAt 1 27 [] [] s (poI 0 s post)) h ?_ ?_
    · intro  h
      refine Ev_iconst (v := 0) dX10_isUprightAt_27 rfl ⟨by decide, by decide⟩ ?_
      exact hK_3 _ h
    · intro K_4 hK_4 h
      refine Ev_if_eq (tgt := 27) dX10_isUprightAt_5 (by decide) (fun hc => ?_) (fun hc => ?_)
      · replace h := h.1 hc
        refine Ev_sub [] rfl ?_
        exact hK_4 h
      · replace h := h.2 hc
        refine Ev_aload_n dX10_isUprightAt_8 0 rfl ?_
        refine Ev_getr 68 (69) dX10_isUprightAt_9 f_RX10_9 rfl sh_68 rfl ?_
        refine Ev_iload_n dX10_isUprightAt_12 1 rfl ?_
        obtain ⟨hb_5, h⟩ := h
        refine Ev_iald (69) dX10_isUprightAt_13 rfl sh_69 hb_5 ?_
        refine Ev_i2l dX10_isUprightAt_14 ?_
        refine Ev_lload dX10_isUprightAt_15 3 rfl ?_
        refine Ev_lmul dX10_isUprightAt_17 ?_
        refine Ev_lload_n dX10_isUprightAt_18 2 rfl ?_
        refine Ev_lcmp dX10_isUprightAt_19 ?_
        refine Ev_if_ne (tgt := 27) dX10_isUprightAt_20 (by decide) (fun hc => ?_) (fun hc => ?_)
        · replace h := h.1 (fun q => hc (lcmp_eq.mpr q))
          refine Ev_sub [] rfl ?_
          exact hK_4 h
        · replace h := h.2 (lcmp_eq.mp hc)
          refine Ev_iconst (v := 1) dX10_isUprightAt_23 rfl ⟨by decide, by decide⟩ ?_
          refine Ev_goto (tgt := 28) dX10_isUprightAt_24 (by decide) ?_
          refine Ev_sub [] rfl ?_
          exact hK_3 _ h
theorem k_X10_hasMore {s : Sg} {v1 : Int} {post : Int → Prop} (h : w_X10_hasMore s v1 post) : EvM mX10_hasMore 1 [(2, 68), (0, v1)] s (poI 0 s post) := by
  refine EvM_of rfl (by decide +kernel) (Nat.le_of_ble_eq_true rfl) ?_
  unfold w_X10_hasMore at h
  show Ev mX10_hasMore 1 0 [(0, (2, 68)), (1, (0, v1))] [] s (poI 0 s post)
  refine Ev_aload_n dX10_hasMore_0 0 rfl ?_
  refine Ev_getr 68 (70) dX10_hasMore_1 f_RX10_13 rfl sh_68 rfl ?_
  refine Ev_iload_n dX10_hasMore_4 1 rfl ?_
  obtain ⟨hb_1, h⟩ := h
  refine Ev_iald (70) dX10_hasMore_5 rfl sh_70 hb_1 ?_
  refine Ev_i2l dX10_hasMore_6 ?_
  refine Ev_lconst (v := 1) dX10_hasMore_7 (by decide +kernel) ?_
  refine Ev_aload_n dX10_hasMore_8 0 rfl ?_
  refine Ev_getl 68 dX10_hasMore_9 f_RX10_290 rfl sh_68 ?_
  refine Ev_aload_n dX10_hasMore_12 0 rfl ?_
  refine Ev_getl 68 dX10_hasMore_13 f_RX10_293 rfl sh_68 ?_
  refine Ev_invS (d' := 0) [(1, s 70 v1.toNat), (1, 1), (1, s 68 33), (1, s 68 34)] dX10_hasMore_16 M_X10_against (Or.inl q_1106) (by decide) rfl (Nat.le_of_ble_eq_true rfl) (k_X10_against h) ?_
  rintro _ _ ⟨rfl, r_2, rfl, h⟩
  refine jc_1 (P := fun (t_3 : Int) => Ev mX10_hasMore 1 27 [(0, (2, 68)), (1, (0, v1))] [(0, t_3)] s (poI 0 s post)) h ?_ ?_
  · intro t_3 h
    refine Ev_istore_n dX10_hasMore_27 (by decide) rfl ?_
    refine Ev_aload_n dX10_hasMore_28 1 rfl ?_
    refine Ev_getr 68 (72) dX10_hasMore_29 f_RX10_19 rfl sh_68 rfl ?_
    refine Ev_iload_n dX10_hasMore_32 2 rfl ?_
    obtain ⟨hb_5, h⟩ := h
    refine Ev_iald (72) dX10_hasMore_33 rfl sh_72 hb_5 ?_
    refine Ev_i2l dX10_hasMore_34 ?_
    refine Ev_lconst (v := 1) dX10_hasMore_35 (by decide +kernel) ?_
    refine Ev_aload_n dX10_hasMore_36 1 rfl ?_
    refine Ev_getl 68 dX10_hasMore_37 f_RX10_296 rfl sh_68 ?_
    refine Ev_aload_n dX10_hasMore_40 1 rfl ?_
    refine Ev_getl 68 dX10_hasMore_41 f_RX10_299 rfl sh_68 ?_
    refine Ev_invS (d' := 0) [(1, s 72 v1.toNat), (1, 1), (1, s 68 35), (1, s 68 36)] dX10_hasMore_44 M_X10_against (Or.inl q_1106) (by decide) rfl (Nat.le_of_ble_eq_true rfl) (k_X10_against h) ?_
    rintro _ _ ⟨rfl, r_6, rfl, h⟩
    refine jc_1 (P := fun (t_7 : Int) => Ev mX10_hasMore 1 55 [(0, (2, 68)), (1, (0, v1)), (2, (0, t_3))] [(0, t_7)] s (poI 0 s post)) h ?_ ?_
    · intro t_7 h
      refine Ev_istore_n dX10_hasMore_55 (by decide) rfl ?_
      refine Ev_iload_n dX10_hasMore_56 3 rfl ?_
      refine jc_1 (P := fun (t_9 : Int) => Ev mX10_hasMore 1 74 [(0, (2, 68)), (1, (0, v1)), (2, (0, t_3)), (3, (0, t_7))] [(1, t_9)] s (poI 0 s post)) h ?_ ?_
      · intro t_9 h
        refine Ev_iload_n dX10_hasMore_74 2 rfl ?_
        refine jc_1 (P := fun (t_11 : Int) => Ev mX10_hasMore 1 86 [(0, (2, 68)), (1, (0, v1)), (3, (0, t_7))] [(1, t_11), (1, t_9)] s (poI 0 s post)) h ?_ ?_
        · intro t_11 h
          refine Ev_iload_n dX10_hasMore_86 2 rfl ?_
          refine jc_1 (P := fun (t_13 : Int) => Ev mX10_hasMore 1 104 [(0, (2, 68)), (3, (0, t_7))] [(1, t_13), (1, t_11), (1, t_9)] s (poI 0 s post)) h ?_ ?_
          · intro t_13 h
            refine Ev_iload_n dX10_hasMore_104 1 rfl ?_
            refine jc_1 (P := fun (t_15 : Int) => Ev mX10_hasMore 1 116 [] [(1, t_15), (1, t_13), (1, t_11), (1, t_9)] s (poI 0 s post)) h ?_ ?_
            · intro t_15 h
              refine Ev_invS (d' := 0) [(1, t_9), (1, t_11), (1, t_13), (1, t_15)] dX10_hasMore_116 M_X10_against (Or.inl q_1106) (by decide) rfl (Nat.le_of_ble_eq_true rfl) (k_X10_against h) ?_
              rintro _ _ ⟨rfl, r_17, rfl, h⟩
              refine jc_1 (P := fun (t_18 : Int) => Ev mX10_hasMore 1 127 [] [(0, t_18)] s (poI 0 s post)) h ?_ ?_
              · intro t_18 h
                obtain ⟨hz, h⟩ := h
                exact Ev_ret dX10_hasMore_127 hz (poI_mk h)
              · intro K_19 hK_19 h
                refine Ev_if_ge (tgt := 126) dX10_hasMore_119 (by decide) (fun hc => ?_) (fun hc => ?_)
                · replace h := h.1 hc
                  refine Ev_iconst (v := 0) dX10_hasMore_126 rfl ⟨by decide, by decide⟩ ?_
                  exact hK_19 _ h
                · replace h := h.2 hc
                  refine Ev_iconst (v := 1) dX10_hasMore_122 rfl ⟨by decide, by decide⟩ ?_
                  refine Ev_goto (tgt := 127) dX10_hasMore_123 (by decide) ?_
                  exact hK_19 _ h
            · intro K_16 hK_16 h
              refine Ev_if_eq (tgt := 112) dX10_hasMore_105 (by decide) (fun hc => ?_) (fun hc => ?_)
              · replace h := h.1 hc
                refine Ev_aload_n dX10_hasMore_112 0 rfl ?_
                refine Ev_getl 68 dX10_hasMore_113 f_RX10_299 rfl sh_68 ?_
                refine Ev_sub [] rfl ?_
                exact hK_16 _ h
              · replace h := h.2 hc
                refine Ev_lconst (v := 1) dX10_hasMore_108 (by decide +kernel) ?_
                refine Ev_goto (tgt := 116) dX10_hasMore_109 (by decide) ?_
                refine Ev_sub [] rfl ?_
                exact hK_16 _ h
          · intro K_14 hK_14 h
            refine Ev_if_eq (tgt := 100) dX10_hasMore_87 (by decide) (fun hc => ?_) (fun hc => ?_)
            · replace h := h.1 hc
              refine Ev_aload_n dX10_hasMore_100 0 rfl ?_
              refine Ev_getl 68 dX10_hasMore_101 f_RX10_296 rfl sh_68 ?_
              refine Ev_sub [0, 2] rfl ?_
              exact hK_14 _ h
            · replace h := h.2 hc
              refine Ev_aload_n dX10_hasMore_90 0 rfl ?_
              refine Ev_getr 68 (72) dX10_hasMore_91 f_RX10_19 rfl sh_68 rfl ?_
              refine Ev_iload_n dX10_hasMore_94 1 rfl ?_
              obtain ⟨hb_20, h⟩ := h
              refine Ev_iald (72) dX10_hasMore_95 rfl sh_72 hb_20 ?_
              refine Ev_i2l dX10_hasMore_96 ?_
              refine Ev_goto (tgt := 104) dX10_hasMore_97 (by decide) ?_
              refine Ev_sub [0, 2] rfl ?_
              exact hK_14 _ h
        · intro K_12 hK_12 h
          refine Ev_if_eq (tgt := 82) dX10_hasMore_75 (by decide) (fun hc => ?_) (fun hc => ?_)
          · replace h := h.1 hc
            refine Ev_aload_n dX10_hasMore_82 0 rfl ?_
            refine Ev_getl 68 dX10_hasMore_83 f_RX10_293 rfl sh_68 ?_
            refine Ev_sub [0, 1, 3] rfl ?_
            exact hK_12 _ h
          · replace h := h.2 hc
            refine Ev_lconst (v := 1) dX10_hasMore_78 (by decide +kernel) ?_
            refine Ev_goto (tgt := 86) dX10_hasMore_79 (by decide) ?_
            refine Ev_sub [0, 1, 3] rfl ?_
            exact hK_12 _ h
      · intro K_10 hK_10 h
        refine Ev_if_eq (tgt := 70) dX10_hasMore_57 (by decide) (fun hc => ?_) (fun hc => ?_)
        · replace h := h.1 hc
          refine Ev_aload_n dX10_hasMore_70 1 rfl ?_
          refine Ev_getl 68 dX10_hasMore_71 f_RX10_290 rfl sh_68 ?_
          refine Ev_sub [1, 2, 3, 0] rfl ?_
          exact hK_10 _ h
        · replace h := h.2 hc
          refine Ev_aload_n dX10_hasMore_60 1 rfl ?_
          refine Ev_getr 68 (70) dX10_hasMore_61 f_RX10_13 rfl sh_68 rfl ?_
          refine Ev_iload_n dX10_hasMore_64 2 rfl ?_
          obtain ⟨hb_21, h⟩ := h
          refine Ev_iald (70) dX10_hasMore_65 rfl sh_70 hb_21 ?_
          refine Ev_i2l dX10_hasMore_66 ?_
          refine Ev_goto (tgt := 74) dX10_hasMore_67 (by decide) ?_
          refine Ev_sub [1, 2, 3, 0] rfl ?_
          exact hK_10 _ h
    · intro K_8 hK_8 h
      refine Ev_if_ge (tgt := 54) dX10_hasMore_47 (by decide) (fun hc => ?_) (fun hc => ?_)
      · replace h := h.1 hc
        refine Ev_iconst (v := 0) dX10_hasMore_54 rfl ⟨by decide, by decide⟩ ?_
        refine Ev_sub [1, 2, 0] rfl ?_
        exact hK_8 _ h
      · replace h := h.2 hc
        refine Ev_iconst (v := 1) dX10_hasMore_50 rfl ⟨by decide, by decide⟩ ?_
        refine Ev_goto (tgt := 55) dX10_hasMore_51 (by decide) ?_
        refine Ev_sub [1, 2, 0] rfl ?_
        exact hK_8 _ h
  · intro K_4 hK_4 h
    refine Ev_if_le (tgt := 26) dX10_hasMore_19 (by decide) (fun hc => ?_) (fun hc => ?_)
    · replace h := h.1 hc
      refine Ev_iconst (v := 0) dX10_hasMore_26 rfl ⟨by decide, by decide⟩ ?_
      exact hK_4 _ h
    · replace h := h.2 hc
      refine Ev_iconst (v := 1) dX10_hasMore_22 rfl ⟨by decide, by decide⟩ ?_
      refine Ev_goto (tgt := 27) dX10_hasMore_23 (by decide) ?_
      exact hK_4 _ h
theorem k_X10_bordersAt {s : Sg} {v1 v2 : Int} {post : Int → Sg → Prop} (h : w_X10_bordersAt s v1 v2 post) : EvM mX10_bordersAt 3 [(2, 68), (0, v1), (0, v2)] s (poIs 0 post) := by
  refine EvM_of rfl (by decide +kernel) (Nat.le_of_ble_eq_true rfl) ?_
  unfold w_X10_bordersAt at h
  show Ev mX10_bordersAt 3 0 [(0, (2, 68)), (1, (0, v1)), (2, (0, v2))] [] s (poIs 0 post)
  refine Ev_iconst (v := 0) dX10_bordersAt_0 rfl ⟨by decide, by decide⟩ ?_
  refine Ev_istore_n dX10_bordersAt_1 (by decide) rfl ?_
  refine Ev_aload_n dX10_bordersAt_2 1 rfl ?_
  refine Ev_invV (d' := 0) [] 68 dX10_bordersAt_3 M_X10_wide q_1211 (by decide) rfl rfl sh_68 rfl (Nat.le_of_ble_eq_true rfl) (k_X10_wide h) ?_
  rintro _ s_1 ⟨rfl, h⟩
  refine Ev_aload_n dX10_bordersAt_6 1 rfl ?_
  refine Ev_iload_n dX10_bordersAt_7 2 rfl ?_
  refine Ev_aload_n dX10_bordersAt_8 1 rfl ?_
  refine Ev_getr 68 (83) dX10_bordersAt_9 f_RX10_54 rfl sh_68 rfl ?_
  refine Ev_iload_n dX10_bordersAt_12 3 rfl ?_
  obtain ⟨hb_2, h⟩ := h
  refine Ev_lald (83) dX10_bordersAt_13 rfl sh_83 hb_2 ?_
  refine Ev_aload_n dX10_bordersAt_14 1 rfl ?_
  refine Ev_getr 68 (84) dX10_bordersAt_15 f_RX10_57 rfl sh_68 rfl ?_
  refine Ev_iload_n dX10_bordersAt_18 3 rfl ?_
  obtain ⟨hb_3, h⟩ := h
  refine Ev_lald (84) dX10_bordersAt_19 rfl sh_84 hb_3 ?_
  refine Ev_invV (d' := 2) [(0, v1), (1, s_1 83 v2.toNat), (1, s_1 84 v2.toNat)] 68 dX10_bordersAt_20 M_X10_narrow q_1217 (by decide) rfl rfl sh_68 rfl (Nat.le_of_ble_eq_true rfl) (k_X10_narrow h) ?_
  rintro _ s_4 ⟨rfl, h⟩
  refine Ev_iconst (v := 0) dX10_bordersAt_23 rfl ⟨by decide, by decide⟩ ?_
  refine Ev_istore dX10_bordersAt_24 (by decide) rfl ?_
  refine Ev_sub [2, 4, 1, 0] rfl ?_
  refine li_2 (P := fun (v3_5 v4_6 : Int) => Ev mX10_bordersAt 3 26 [(0, (2, 68)), (2, (0, v2)), (3, (0, v3_5)), (4, (0, v4_6))] [] s_4 (poIs 0 post)) ?_ h
  intro again_7 v3_5 v4_6 hagain_7 h
  refine Ev_iload dX10_bordersAt_26 3 rfl ?_
  refine Ev_aload_n dX10_bordersAt_28 0 rfl ?_
  refine Ev_geti 68 dX10_bordersAt_29 f_RX10_109 rfl sh_68 ?_
  refine Ev_icmp_ge (tgt := 78) dX10_bordersAt_32 (by decide) (fun hc => ?_) (fun hc => ?_)
  · replace h := h.1 hc
    refine Ev_iload_n dX10_bordersAt_78 2 rfl ?_
    exact Ev_ret dX10_bordersAt_79 trivial (poIs_mk h)
  · replace h := h.2 hc
    refine Ev_aload_n dX10_bordersAt_35 0 rfl ?_
    refine Ev_iload dX10_bordersAt_36 3 rfl ?_
    refine Ev_aload_n dX10_bordersAt_38 0 rfl ?_
    refine Ev_getr 68 (83) dX10_bordersAt_39 f_RX10_54 rfl sh_68 rfl ?_
    refine Ev_iload_n dX10_bordersAt_42 1 rfl ?_
    obtain ⟨hb_8, h⟩ := h
    refine Ev_lald (83) dX10_bordersAt_43 rfl sh_83 hb_8 ?_
    refine Ev_aload_n dX10_bordersAt_44 0 rfl ?_
    refine Ev_getr 68 (84) dX10_bordersAt_45 f_RX10_57 rfl sh_68 rfl ?_
    refine Ev_iload_n dX10_bordersAt_48 1 rfl ?_
    obtain ⟨hb_9, h⟩ := h
    refine Ev_lald (84) dX10_bordersAt_49 rfl sh_84 hb_9 ?_
    refine Ev_invV (d' := 1) [(0, v4_6), (1, s_4 83 v2.toNat), (1, s_4 84 v2.toNat)] 68 dX10_bordersAt_50 M_X10_isUprightAt q_1236 (by decide) rfl rfl sh_68 rfl (Nat.le_of_ble_eq_true rfl) (k_X10_isUprightAt h) ?_
    rintro _ _ ⟨rfl, r_10, rfl, h⟩
    refine jc_1 (P := fun (v3_11 : Int) => Ev mX10_bordersAt 3 72 [(0, (2, 68)), (2, (0, v2)), (3, (0, v3_11)), (4, (0, v4_6))] [] s_4 (poIs 0 post)) h ?_ ?_
    · intro v3_11 h
      obtain ⟨v4_13, ev4_13⟩ : ∃ z : Int, z = w32 (v4_6 + 1) := ⟨_, rfl⟩
      replace h := h v4_13 ev4_13
      refine Ev_iinc (v := v4_13) dX10_bordersAt_72 3 rfl ev4_13.symm (by decide) rfl ?_
      refine Ev_goto (tgt := 26) dX10_bordersAt_75 (by decide) ?_
      refine Ev_sub [1, 2, 3, 0] rfl ?_
      exact hagain_7 _ _ h
    · intro K_12 hK_12 h
      refine Ev_if_eq (tgt := 72) dX10_bordersAt_53 (by decide) (fun hc => ?_) (fun hc => ?_)
      · replace h := h.1 hc
        exact hK_12 _ h
      · replace h := h.2 hc
        refine Ev_aload_n dX10_bordersAt_56 0 rfl ?_
        refine Ev_iload dX10_bordersAt_57 3 rfl ?_
        refine Ev_invV (d' := 1) [(0, v4_6)] 68 dX10_bordersAt_59 M_X10_hasMore q_1256 (by decide) rfl rfl sh_68 rfl (Nat.le_of_ble_eq_true rfl) (k_X10_hasMore h) ?_
        rintro _ _ ⟨rfl, r_14, rfl, h⟩
        refine Ev_if_eq (tgt := 72) dX10_bordersAt_62 (by decide) (fun hc => ?_) (fun hc => ?_)
        · replace h := h.1 hc
          exact hK_12 _ h
        · replace h := h.2 hc
          refine Ev_iload_n dX10_bordersAt_65 2 rfl ?_
          refine Ev_iconst (v := 1) dX10_bordersAt_66 rfl ⟨by decide, by decide⟩ ?_
          refine Ev_iload dX10_bordersAt_67 3 rfl ?_
          refine Ev_ishl dX10_bordersAt_69 ?_
          refine Ev_ior dX10_bordersAt_70 ?_
          obtain ⟨v3_15, ev3_15⟩ : ∃ z : Int, z = ior v3_5 (ishl 1 v4_6) := ⟨_, rfl⟩
          replace h := h v3_15 ev3_15
          rw [← ev3_15]
          refine Ev_istore_n dX10_bordersAt_71 (by decide) rfl ?_
          refine Ev_sub [1, 2, 0, 3] rfl ?_
          exact hK_12 _ h
theorem k_X10_borders {s : Sg} {v1 : Int} {post : Int → Sg → Prop} (h : w_X10_borders s v1 post) : EvM mX10_borders 4 [(2, 68), (0, v1)] s (poIs 0 post) := by
  refine EvM_of rfl (by decide +kernel) (Nat.le_of_ble_eq_true rfl) ?_
  unfold w_X10_borders at h
  show Ev mX10_borders 4 0 [(0, (2, 68)), (1, (0, v1))] [] s (poIs 0 post)
  refine Ev_iconst (v := 0) dX10_borders_0 rfl ⟨by decide, by decide⟩ ?_
  refine Ev_istore_n dX10_borders_1 (by decide) rfl ?_
  refine Ev_iconst (v := 0) dX10_borders_2 rfl ⟨by decide, by decide⟩ ?_
  refine Ev_istore_n dX10_borders_3 (by decide) rfl ?_
  refine Ev_sub [2, 3, 1, 0] rfl ?_
  refine li_2s (P := fun (v2_1 v3_2 : Int) (s_3 : Sg) => Ev mX10_borders 4 4 [(0, (2, 68)), (1, (0, v1)), (2, (0, v2_1)), (3, (0, v3_2))] [] s_3 (poIs 0 post)) ?_ h
  intro again_4 v2_1 v3_2 s_3 hagain_4 h
  refine Ev_iload_n dX10_borders_4 3 rfl ?_
  refine Ev_aload_n dX10_borders_5 0 rfl ?_
  refine Ev_geti 68 dX10_borders_6 f_RX10_267 rfl sh_68 ?_
  refine Ev_icmp_ge (tgt := 101) dX10_borders_9 (by decide) (fun hc => ?_) (fun hc => ?_)
  · replace h := h.1 hc
    refine Ev_iload_n dX10_borders_101 2 rfl ?_
    exact Ev_ret dX10_borders_102 trivial (poIs_mk h)
  · replace h := h.2 hc
    refine Ev_aload_n dX10_borders_12 0 rfl ?_
    refine Ev_getr 68 (89) dX10_borders_13 f_RX10_72 rfl sh_68 rfl ?_
    refine Ev_iload_n dX10_borders_16 3 rfl ?_
    obtain ⟨hb_5, h⟩ := h
    refine Ev_iald (89) dX10_borders_17 rfl sh_89 hb_5 ?_
    refine Ev_iload_n dX10_borders_18 1 rfl ?_
    refine jc_1s (P := fun (v2_6 : Int) (s_7 : Sg) => Ev mX10_borders 4 95 [(0, (2, 68)), (1, (0, v1)), (2, (0, v2_6)), (3, (0, v3_2))] [] s_7 (poIs 0 post)) h ?_ ?_
    · intro v2_6 s_7 h
      obtain ⟨v3_9, ev3_9⟩ : ∃ z : Int, z = w32 (v3_2 + 1) := ⟨_, rfl⟩
      replace h := h v3_9 ev3_9
      refine Ev_iinc (v := v3_9) dX10_borders_95 3 rfl ev3_9.symm (by decide) rfl ?_
      refine Ev_goto (tgt := 4) dX10_borders_98 (by decide) ?_
      refine Ev_sub [1, 2, 3, 0] rfl ?_
      exact hagain_4 _ _ _ h
    · intro K_8 hK_8 h
      refine Ev_icmp_eq (tgt := 25) dX10_borders_19 (by decide) (fun hc => ?_) (fun hc => ?_)
      · replace h := h.1 hc
        refine Ev_iload_n dX10_borders_25 2 rfl ?_
        refine Ev_aload_n dX10_borders_26 0 rfl ?_
        refine Ev_getr 68 (87) dX10_borders_27 f_RX10_66 rfl sh_68 rfl ?_
        refine Ev_iload_n dX10_borders_30 3 rfl ?_
        obtain ⟨hb_10, h⟩ := h
        refine Ev_iald (87) dX10_borders_31 rfl sh_87 hb_10 ?_
        refine Ev_aload_n dX10_borders_32 0 rfl ?_
        refine Ev_getr 68 (88) dX10_borders_33 f_RX10_69 rfl sh_68 rfl ?_
        refine Ev_iload_n dX10_borders_36 3 rfl ?_
        obtain ⟨hb_11, h⟩ := h
        refine Ev_iald (88) dX10_borders_37 rfl sh_88 hb_11 ?_
        refine Ev_ior dX10_borders_38 ?_
        refine Ev_ior dX10_borders_39 ?_
        obtain ⟨v2_12, ev2_12⟩ : ∃ z : Int, z = ior v2_1 (ior (s_3 87 v3_2.toNat) (s_3 88 v3_2.toNat)) := ⟨_, rfl⟩
        replace h := h v2_12 ev2_12
        rw [← ev2_12]
        refine Ev_istore_n dX10_borders_40 (by decide) rfl ?_
        refine Ev_aload_n dX10_borders_41 1 rfl ?_
        refine Ev_getr 68 (86) dX10_borders_42 f_RX10_63 rfl sh_68 rfl ?_
        refine Ev_iload_n dX10_borders_45 3 rfl ?_
        obtain ⟨hb_13, h⟩ := h
        refine Ev_iald (86) dX10_borders_46 rfl sh_86 hb_13 ?_
        refine jc_1s (P := fun (v2_14 : Int) (s_15 : Sg) => Ev mX10_borders 4 64 [(0, (2, 68)), (1, (0, v1)), (2, (0, v2_14)), (3, (0, v3_2))] [] s_15 (poIs 0 post)) h ?_ ?_
        · intro v2_14 s_15 h
          refine Ev_aload_n dX10_borders_64 0 rfl ?_
          refine Ev_getr 68 (86) dX10_borders_65 f_RX10_63 rfl sh_68 rfl ?_
          refine Ev_iload_n dX10_borders_68 3 rfl ?_
          obtain ⟨hb_17, h⟩ := h
          refine Ev_iald (86) dX10_borders_69 rfl sh_86 hb_17 ?_
          refine Ev_aload_n dX10_borders_70 0 rfl ?_
          refine Ev_geti 68 dX10_borders_71 f_RX10_278 rfl sh_68 ?_
          refine Ev_iconst (v := 1) dX10_borders_74 rfl ⟨by decide, by decide⟩ ?_
          refine Ev_isub dX10_borders_75 ?_
          refine Ev_icmp_ge (tgt := 95) dX10_borders_76 (by decide) (fun hc => ?_) (fun hc => ?_)
          · replace h := h.1 hc
            exact hK_8 _ _ h
          · replace h := h.2 hc
            refine Ev_iload_n dX10_borders_79 2 rfl ?_
            refine Ev_aload_n dX10_borders_80 0 rfl ?_
            refine Ev_iload_n dX10_borders_81 3 rfl ?_
            refine Ev_aload_n dX10_borders_82 0 rfl ?_
            refine Ev_getr 68 (86) dX10_borders_83 f_RX10_63 rfl sh_68 rfl ?_
            refine Ev_iload_n dX10_borders_86 3 rfl ?_
            obtain ⟨hb_18, h⟩ := h
            refine Ev_iald (86) dX10_borders_87 rfl sh_86 hb_18 ?_
            refine Ev_iconst (v := 1) dX10_borders_88 rfl ⟨by decide, by decide⟩ ?_
            refine Ev_iadd dX10_borders_89 ?_
            refine Ev_invV (d' := 3) [(0, v3_2), (0, w32 ((s_15 86 v3_2.toNat) + 1))] 68 dX10_borders_90 M_X10_bordersAt q_1252 (by decide) rfl rfl sh_68 rfl (Nat.le_of_ble_eq_true rfl) (k_X10_bordersAt h) ?_
            rintro _ s_20 ⟨r_19, rfl, h⟩
            refine Ev_ior dX10_borders_93 ?_
            obtain ⟨v2_21, ev2_21⟩ : ∃ z : Int, z = ior v2_14 r_19 := ⟨_, rfl⟩
            replace h := h v2_21 ev2_21
            rw [← ev2_21]
            refine Ev_istore_n dX10_borders_94 (by decide) rfl ?_
            refine Ev_sub [1, 2, 0, 3] rfl ?_
            exact hK_8 _ _ h
        · intro K_16 hK_16 h
          refine Ev_if_le (tgt := 64) dX10_borders_47 (by decide) (fun hc => ?_) (fun hc => ?_)
          · replace h := h.1 hc
            refine Ev_sub [1, 2, 0, 3] rfl ?_
            exact hK_16 _ _ h
          · replace h := h.2 hc
            refine Ev_iload_n dX10_borders_50 0 rfl ?_
            refine Ev_aload_n dX10_borders_51 1 rfl ?_
            refine Ev_iload_n dX10_borders_52 3 rfl ?_
            refine Ev_aload_n dX10_borders_53 1 rfl ?_
            refine Ev_getr 68 (86) dX10_borders_54 f_RX10_63 rfl sh_68 rfl ?_
            refine Ev_iload_n dX10_borders_57 3 rfl ?_
            obtain ⟨hb_22, h⟩ := h
            refine Ev_iald (86) dX10_borders_58 rfl sh_86 hb_22 ?_
            refine Ev_invV (d' := 3) [(0, v3_2), (0, s_3 86 v3_2.toNat)] 68 dX10_borders_59 M_X10_bordersAt q_1252 (by decide) rfl rfl sh_68 rfl (Nat.le_of_ble_eq_true rfl) (k_X10_bordersAt h) ?_
            rintro _ s_24 ⟨r_23, rfl, h⟩
            refine Ev_ior dX10_borders_62 ?_
            obtain ⟨v2_25, ev2_25⟩ : ∃ z : Int, z = ior v2_12 r_23 := ⟨_, rfl⟩
            replace h := h v2_25 ev2_25
            rw [← ev2_25]
            refine Ev_istore_n dX10_borders_63 (by decide) rfl ?_
            refine Ev_sub [1, 2, 0, 3] rfl ?_
            exact hK_16 _ _ h
      · replace h := h.2 hc
        refine Ev_goto (tgt := 95) dX10_borders_22 (by decide) ?_
        exact hK_8 _ _ h
