/-! the constructors, by program -/
def z0 : Sg := fun _ _ => 0
def sgA : Sg := up (up (up (up z0 65 0 (-1)) 65 1 (-1)) 65 2 (-1)) 65 3 (-1)
def sgB : Sg := up (up (up (up sgA 184 0 (-1)) 184 1 (-1)) 184 2 (-1)) 184 3 (-1)
theorem z0_z (c k : Nat) (_ : 0 ≤ c) : z0 c k = 0 := rfl
theorem sgA_z (c k : Nat) (h : 66 ≤ c) : sgA c k = 0 := by unfold sgA; rw [up_ne _ _ _ (by omega), up_ne _ _ _ (by omega), up_ne _ _ _ (by omega), up_ne _ _ _ (by omega)]; rfl
theorem sgB_z (c k : Nat) (h : 185 ≤ c) : sgB c k = 0 := by unfold sgB; rw [up_ne _ _ _ (by omega), up_ne _ _ _ (by omega), up_ne _ _ _ (by omega), up_ne _ _ _ (by omega)]; exact sgA_z c k (by omega)
def ASG : List (Nat × Nat) := [(1, 1), (1, 2), (1, 3), (1, 4), (0, 0), (6, 1), (6, 2), (6, 3), (6, 4), (0, 1), (11, 1), (11, 2), (11, 3), (11, 4), (0, 2), (16, 3), (16, 4), (16, 5), (16, 6), (16, 7), (16, 8), (16, 9), (16, 10), (0, 3), (25, 3), (25, 4), (25, 5), (25, 6), (25, 7), (25, 8), (25, 9), (25, 10), (0, 4), (0, 5), (35, 1), (35, 2), (0, 6), (38, 2), (38, 3), (38, 4), (38, 5), (38, 6), (38, 7), (0, 7), (45, 1), (45, 2), (45, 3), (45, 5), (45, 6), (45, 7), (45, 8), (0, 8), (53, 1), (53, 2), (53, 3), (53, 4), (53, 5), (53, 6), (0, 9), (60, 2), (60, 3), (60, 4), (0, 10), (64, 0), (64, 1), (64, 2), (0, 11), (68, 1), (68, 2), (68, 3), (68, 4), (68, 10), (68, 11), (68, 12), (68, 13), (68, 14), (68, 16), (68, 17), (68, 18), (68, 19), (68, 21), (68, 25), (68, 26), (68, 27), (68, 28), (68, 29), (68, 30), (68, 31), (68, 32), (68, 37), (68, 38), (68, 39), (68, 40), (68, 41), (68, 44), (68, 45), (68, 46), (68, 47)]
def nulN (j : Nat) : Nat → Nat → Bool := fun c k => !((ASG.take j).contains (c, k))
theorem nulN_set {j c k : Nat} (h : ASG[j]? = some (c, k)) : nset (nulN j) c k = nulN (j + 1) := by
  funext c' k'
  have e : ASG.take (j + 1) = ASG.take j ++ [(c, k)] := by
    rw [List.take_add_one, h]; rfl
  unfold nset nulN
  rw [e]
  by_cases h1 : c' = c
  · subst h1
    by_cases h2 : k' = k
    · subst h2; simp
    · simp [h2]
  · simp [h1]
theorem nulN_new {j n : Nat} (h : (ASG.take j).all (fun q => decide (q.1 < n)) = true) : ∀ k, nulN j n k = true := by
  intro k
  unfold nulN
  rw [Bool.not_eq_true']
  refine Bool.eq_false_iff.mpr (fun q => ?_)
  have hm : (n, k) ∈ ASG.take j := List.contains_iff_mem.mp q
  have := List.all_eq_true.mp h _ hm
  simp at this
theorem dX0_init_0 : decode cX0_init 0 = .ok (.aload_n 0, 1) := by decide +kernel
theorem dX0_init_1 : decode cX0_init 1 = .ok (.invokespecial 3, 3) := by decide +kernel
theorem dX0_init_4 : decode cX0_init 4 = .ok (.aload_n 0, 1) := by decide +kernel
theorem dX0_init_5 : decode cX0_init 5 = .ok (.sipush 726, 3) := by decide +kernel
theorem dX0_init_8 : decode cX0_init 8 = .ok (.newarray .int, 2) := by decide +kernel
theorem dX0_init_10 : decode cX0_init 10 = .ok (.putfield 9, 3) := by decide +kernel
theorem dX0_init_13 : decode cX0_init 13 = .ok (.aload_n 0, 1) := by decide +kernel
theorem dX0_init_14 : decode cX0_init 14 = .ok (.sipush 726, 3) := by decide +kernel
theorem dX0_init_17 : decode cX0_init 17 = .ok (.newarray .int, 2) := by decide +kernel
theorem dX0_init_19 : decode cX0_init 19 = .ok (.putfield 15, 3) := by decide +kernel
theorem dX0_init_22 : decode cX0_init 22 = .ok (.aload_n 0, 1) := by decide +kernel
theorem dX0_init_23 : decode cX0_init 23 = .ok (.bipush 64, 2) := by decide +kernel
theorem dX0_init_25 : decode cX0_init 25 = .ok (.newarray .int, 2) := by decide +kernel
theorem dX0_init_27 : decode cX0_init 27 = .ok (.putfield 18, 3) := by decide +kernel
theorem dX0_init_30 : decode cX0_init 30 = .ok (.aload_n 0, 1) := by decide +kernel
theorem dX0_init_31 : decode cX0_init 31 = .ok (.bipush 64, 2) := by decide +kernel
theorem dX0_init_33 : decode cX0_init 33 = .ok (.newarray .int, 2) := by decide +kernel
theorem dX0_init_35 : decode cX0_init 35 = .ok (.putfield 21, 3) := by decide +kernel
theorem dX0_init_38 : decode cX0_init 38 = .ok (.aload_n 0, 1) := by decide +kernel
theorem dX0_init_39 : decode cX0_init 39 = .ok (.bipush 64, 2) := by decide +kernel
theorem dX0_init_41 : decode cX0_init 41 = .ok (.newarray .int, 2) := by decide +kernel
theorem dX0_init_43 : decode cX0_init 43 = .ok (.putfield 24, 3) := by decide +kernel
theorem dX0_init_46 : decode cX0_init 46 = .ok (.aload_n 0, 1) := by decide +kernel
theorem dX0_init_47 : decode cX0_init 47 = .ok (.bipush 64, 2) := by decide +kernel
theorem dX0_init_49 : decode cX0_init 49 = .ok (.newarray .long, 2) := by decide +kernel
theorem dX0_init_51 : decode cX0_init 51 = .ok (.putfield 27, 3) := by decide +kernel
theorem dX0_init_54 : decode cX0_init 54 = .ok (.return_, 1) := by decide +kernel
theorem dX1_init_0 : decode cX1_init 0 = .ok (.aload_n 0, 1) := by decide +kernel
theorem dX1_init_1 : decode cX1_init 1 = .ok (.invokespecial 3, 3) := by decide +kernel
theorem dX1_init_4 : decode cX1_init 4 = .ok (.aload_n 0, 1) := by decide +kernel
theorem dX1_init_5 : decode cX1_init 5 = .ok (.bipush 20, 2) := by decide +kernel
theorem dX1_init_7 : decode cX1_init 7 = .ok (.newarray .int, 2) := by decide +kernel
theorem dX1_init_9 : decode cX1_init 9 = .ok (.putfield 9, 3) := by decide +kernel
theorem dX1_init_12 : decode cX1_init 12 = .ok (.aload_n 0, 1) := by decide +kernel
theorem dX1_init_13 : decode cX1_init 13 = .ok (.bipush 20, 2) := by decide +kernel
theorem dX1_init_15 : decode cX1_init 15 = .ok (.newarray .int, 2) := by decide +kernel
theorem dX1_init_17 : decode cX1_init 17 = .ok (.putfield 15, 3) := by decide +kernel
theorem dX1_init_20 : decode cX1_init 20 = .ok (.aload_n 0, 1) := by decide +kernel
theorem dX1_init_21 : decode cX1_init 21 = .ok (.bipush 20, 2) := by decide +kernel
theorem dX1_init_23 : decode cX1_init 23 = .ok (.newarray .int, 2) := by decide +kernel
theorem dX1_init_25 : decode cX1_init 25 = .ok (.putfield 18, 3) := by decide +kernel
theorem dX1_init_28 : decode cX1_init 28 = .ok (.return_, 1) := by decide +kernel
theorem dX2_init_0 : decode cX2_init 0 = .ok (.aload_n 0, 1) := by decide +kernel
theorem dX2_init_1 : decode cX2_init 1 = .ok (.invokespecial 3, 3) := by decide +kernel
theorem dX2_init_4 : decode cX2_init 4 = .ok (.aload_n 0, 1) := by decide +kernel
theorem dX2_init_5 : decode cX2_init 5 = .ok (.bipush 10, 2) := by decide +kernel
theorem dX2_init_7 : decode cX2_init 7 = .ok (.newarray .int, 2) := by decide +kernel
theorem dX2_init_9 : decode cX2_init 9 = .ok (.putfield 9, 3) := by decide +kernel
theorem dX2_init_12 : decode cX2_init 12 = .ok (.aload_n 0, 1) := by decide +kernel
theorem dX2_init_13 : decode cX2_init 13 = .ok (.bipush 10, 2) := by decide +kernel
theorem dX2_init_15 : decode cX2_init 15 = .ok (.newarray .int, 2) := by decide +kernel
theorem dX2_init_17 : decode cX2_init 17 = .ok (.putfield 15, 3) := by decide +kernel
theorem dX2_init_20 : decode cX2_init 20 = .ok (.aload_n 0, 1) := by decide +kernel
theorem dX2_init_21 : decode cX2_init 21 = .ok (.bipush 10, 2) := by decide +kernel
theorem dX2_init_23 : decode cX2_init 23 = .ok (.newarray .int, 2) := by decide +kernel
theorem dX2_init_25 : decode cX2_init 25 = .ok (.putfield 18, 3) := by decide +kernel
theorem dX2_init_28 : decode cX2_init 28 = .ok (.aload_n 0, 1) := by decide +kernel
theorem dX2_init_29 : decode cX2_init 29 = .ok (.bipush 10, 2) := by decide +kernel
theorem dX2_init_31 : decode cX2_init 31 = .ok (.newarray .int, 2) := by decide +kernel
theorem dX2_init_33 : decode cX2_init 33 = .ok (.putfield 21, 3) := by decide +kernel
theorem dX2_init_36 : decode cX2_init 36 = .ok (.return_, 1) := by decide +kernel
theorem dX3_init_0 : decode cX3_init 0 = .ok (.aload_n 0, 1) := by decide +kernel
theorem dX3_init_1 : decode cX3_init 1 = .ok (.invokespecial 3, 3) := by decide +kernel
theorem dX3_init_4 : decode cX3_init 4 = .ok (.return_, 1) := by decide +kernel
theorem dX4_init_0 : decode cX4_init 0 = .ok (.aload_n 0, 1) := by decide +kernel
theorem dX4_init_1 : decode cX4_init 1 = .ok (.invokespecial 3, 3) := by decide +kernel
theorem dX4_init_4 : decode cX4_init 4 = .ok (.aload_n 0, 1) := by decide +kernel
theorem dX4_init_5 : decode cX4_init 5 = .ok (.bipush 65, 2) := by decide +kernel
theorem dX4_init_7 : decode cX4_init 7 = .ok (.newarray .long, 2) := by decide +kernel
theorem dX4_init_9 : decode cX4_init 9 = .ok (.putfield 9, 3) := by decide +kernel
theorem dX4_init_12 : decode cX4_init 12 = .ok (.aload_n 0, 1) := by decide +kernel
theorem dX4_init_13 : decode cX4_init 13 = .ok (.bipush 65, 2) := by decide +kernel
theorem dX4_init_15 : decode cX4_init 15 = .ok (.newarray .long, 2) := by decide +kernel
theorem dX4_init_17 : decode cX4_init 17 = .ok (.putfield 15, 3) := by decide +kernel
theorem dX4_init_20 : decode cX4_init 20 = .ok (.aload_n 0, 1) := by decide +kernel
theorem dX4_init_21 : decode cX4_init 21 = .ok (.bipush 65, 2) := by decide +kernel
theorem dX4_init_23 : decode cX4_init 23 = .ok (.newarray .long, 2) := by decide +kernel
theorem dX4_init_25 : decode cX4_init 25 = .ok (.putfield 18, 3) := by decide +kernel
theorem dX4_init_28 : decode cX4_init 28 = .ok (.aload_n 0, 1) := by decide +kernel
theorem dX4_init_29 : decode cX4_init 29 = .ok (.bipush 65, 2) := by decide +kernel
theorem dX4_init_31 : decode cX4_init 31 = .ok (.newarray .long, 2) := by decide +kernel
theorem dX4_init_33 : decode cX4_init 33 = .ok (.putfield 21, 3) := by decide +kernel
theorem dX4_init_36 : decode cX4_init 36 = .ok (.aload_n 0, 1) := by decide +kernel
theorem dX4_init_37 : decode cX4_init 37 = .ok (.bipush 65, 2) := by decide +kernel
theorem dX4_init_39 : decode cX4_init 39 = .ok (.newarray .int, 2) := by decide +kernel
theorem dX4_init_41 : decode cX4_init 41 = .ok (.putfield 24, 3) := by decide +kernel
theorem dX4_init_44 : decode cX4_init 44 = .ok (.aload_n 0, 1) := by decide +kernel
theorem dX4_init_45 : decode cX4_init 45 = .ok (.bipush 65, 2) := by decide +kernel
theorem dX4_init_47 : decode cX4_init 47 = .ok (.newarray .int, 2) := by decide +kernel
theorem dX4_init_49 : decode cX4_init 49 = .ok (.putfield 28, 3) := by decide +kernel
theorem dX4_init_52 : decode cX4_init 52 = .ok (.aload_n 0, 1) := by decide +kernel
theorem dX4_init_53 : decode cX4_init 53 = .ok (.iconst 4, 1) := by decide +kernel
theorem dX4_init_54 : decode cX4_init 54 = .ok (.newarray .int, 2) := by decide +kernel
theorem dX4_init_56 : decode cX4_init 56 = .ok (.putfield 31, 3) := by decide +kernel
theorem dX4_init_59 : decode cX4_init 59 = .ok (.aload_n 0, 1) := by decide +kernel
theorem dX4_init_60 : decode cX4_init 60 = .ok (.new 34, 3) := by decide +kernel
theorem dX4_init_63 : decode cX4_init 63 = .ok (.dup, 1) := by decide +kernel
theorem dX4_init_64 : decode cX4_init 64 = .ok (.invokespecial 36, 3) := by decide +kernel
theorem dX4_init_67 : decode cX4_init 67 = .ok (.putfield 37, 3) := by decide +kernel
theorem dX4_init_70 : decode cX4_init 70 = .ok (.return_, 1) := by decide +kernel
theorem dX5_init_0 : decode cX5_init 0 = .ok (.aload_n 0, 1) := by decide +kernel
theorem dX5_init_1 : decode cX5_init 1 = .ok (.invokespecial 3, 3) := by decide +kernel
theorem dX5_init_4 : decode cX5_init 4 = .ok (.aload_n 0, 1) := by decide +kernel
theorem dX5_init_5 : decode cX5_init 5 = .ok (.iconst 4, 1) := by decide +kernel
theorem dX5_init_6 : decode cX5_init 6 = .ok (.newarray .int, 2) := by decide +kernel
theorem dX5_init_8 : decode cX5_init 8 = .ok (.putfield 9, 3) := by decide +kernel
theorem dX5_init_11 : decode cX5_init 11 = .ok (.aload_n 0, 1) := by decide +kernel
theorem dX5_init_12 : decode cX5_init 12 = .ok (.iconst 4, 1) := by decide +kernel
theorem dX5_init_13 : decode cX5_init 13 = .ok (.newarray .int, 2) := by decide +kernel
theorem dX5_init_15 : decode cX5_init 15 = .ok (.putfield 15, 3) := by decide +kernel
theorem dX5_init_18 : decode cX5_init 18 = .ok (.aload_n 0, 1) := by decide +kernel
theorem dX5_init_19 : decode cX5_init 19 = .ok (.sipush 160, 3) := by decide +kernel
theorem dX5_init_22 : decode cX5_init 22 = .ok (.newarray .int, 2) := by decide +kernel
theorem dX5_init_24 : decode cX5_init 24 = .ok (.putfield 18, 3) := by decide +kernel
theorem dX5_init_27 : decode cX5_init 27 = .ok (.iconst 0, 1) := by decide +kernel
theorem dX5_init_28 : decode cX5_init 28 = .ok (.istore_n 1, 1) := by decide +kernel
theorem dX5_init_29 : decode cX5_init 29 = .ok (.iload_n 1, 1) := by decide +kernel
theorem dX5_init_30 : decode cX5_init 30 = .ok (.iconst 4, 1) := by decide +kernel
theorem dX5_init_31 : decode cX5_init 31 = .ok (.if_icmp .ge 16, 3) := by decide +kernel
theorem dX5_init_34 : decode cX5_init 34 = .ok (.aload_n 0, 1) := by decide +kernel
theorem dX5_init_35 : decode cX5_init 35 = .ok (.getfield 9, 3) := by decide +kernel
theorem dX5_init_38 : decode cX5_init 38 = .ok (.iload_n 1, 1) := by decide +kernel
theorem dX5_init_39 : decode cX5_init 39 = .ok (.iconst (-1), 1) := by decide +kernel
theorem dX5_init_40 : decode cX5_init 40 = .ok (.iastore, 1) := by decide +kernel
theorem dX5_init_41 : decode cX5_init 41 = .ok (.iinc 1 1, 3) := by decide +kernel
theorem dX5_init_44 : decode cX5_init 44 = .ok (.goto (-15), 3) := by decide +kernel
theorem dX5_init_47 : decode cX5_init 47 = .ok (.return_, 1) := by decide +kernel
theorem dX6_init_0 : decode cX6_init 0 = .ok (.aload_n 0, 1) := by decide +kernel
theorem dX6_init_1 : decode cX6_init 1 = .ok (.invokespecial 3, 3) := by decide +kernel
theorem dX6_init_4 : decode cX6_init 4 = .ok (.aload_n 0, 1) := by decide +kernel
theorem dX6_init_5 : decode cX6_init 5 = .ok (.bipush 65, 2) := by decide +kernel
theorem dX6_init_7 : decode cX6_init 7 = .ok (.newarray .long, 2) := by decide +kernel
theorem dX6_init_9 : decode cX6_init 9 = .ok (.putfield 9, 3) := by decide +kernel
theorem dX6_init_12 : decode cX6_init 12 = .ok (.aload_n 0, 1) := by decide +kernel
theorem dX6_init_13 : decode cX6_init 13 = .ok (.bipush 65, 2) := by decide +kernel
theorem dX6_init_15 : decode cX6_init 15 = .ok (.newarray .long, 2) := by decide +kernel
theorem dX6_init_17 : decode cX6_init 17 = .ok (.putfield 15, 3) := by decide +kernel
theorem dX6_init_20 : decode cX6_init 20 = .ok (.aload_n 0, 1) := by decide +kernel
theorem dX6_init_21 : decode cX6_init 21 = .ok (.bipush 67, 2) := by decide +kernel
theorem dX6_init_23 : decode cX6_init 23 = .ok (.newarray .int, 2) := by decide +kernel
theorem dX6_init_25 : decode cX6_init 25 = .ok (.putfield 18, 3) := by decide +kernel
theorem dX6_init_28 : decode cX6_init 28 = .ok (.aload_n 0, 1) := by decide +kernel
theorem dX6_init_29 : decode cX6_init 29 = .ok (.sipush 726, 3) := by decide +kernel
theorem dX6_init_32 : decode cX6_init 32 = .ok (.newarray .int, 2) := by decide +kernel
theorem dX6_init_34 : decode cX6_init 34 = .ok (.putfield 22, 3) := by decide +kernel
theorem dX6_init_37 : decode cX6_init 37 = .ok (.aload_n 0, 1) := by decide +kernel
theorem dX6_init_38 : decode cX6_init 38 = .ok (.sipush 726, 3) := by decide +kernel
theorem dX6_init_41 : decode cX6_init 41 = .ok (.newarray .int, 2) := by decide +kernel
theorem dX6_init_43 : decode cX6_init 43 = .ok (.putfield 25, 3) := by decide +kernel
theorem dX6_init_46 : decode cX6_init 46 = .ok (.aload_n 0, 1) := by decide +kernel
theorem dX6_init_47 : decode cX6_init 47 = .ok (.sipush 726, 3) := by decide +kernel
theorem dX6_init_50 : decode cX6_init 50 = .ok (.newarray .int, 2) := by decide +kernel
theorem dX6_init_52 : decode cX6_init 52 = .ok (.putfield 28, 3) := by decide +kernel
theorem dX6_init_55 : decode cX6_init 55 = .ok (.return_, 1) := by decide +kernel
theorem dX7_init_0 : decode cX7_init 0 = .ok (.aload_n 0, 1) := by decide +kernel
theorem dX7_init_1 : decode cX7_init 1 = .ok (.invokespecial 3, 3) := by decide +kernel
theorem dX7_init_4 : decode cX7_init 4 = .ok (.aload_n 0, 1) := by decide +kernel
theorem dX7_init_5 : decode cX7_init 5 = .ok (.bipush 10, 2) := by decide +kernel
theorem dX7_init_7 : decode cX7_init 7 = .ok (.newarray .int, 2) := by decide +kernel
theorem dX7_init_9 : decode cX7_init 9 = .ok (.putfield 9, 3) := by decide +kernel
theorem dX7_init_12 : decode cX7_init 12 = .ok (.aload_n 0, 1) := by decide +kernel
theorem dX7_init_13 : decode cX7_init 13 = .ok (.bipush 10, 2) := by decide +kernel
theorem dX7_init_15 : decode cX7_init 15 = .ok (.newarray .long, 2) := by decide +kernel
theorem dX7_init_17 : decode cX7_init 17 = .ok (.putfield 15, 3) := by decide +kernel
theorem dX7_init_20 : decode cX7_init 20 = .ok (.return_, 1) := by decide +kernel
theorem dX8_init_0 : decode cX8_init 0 = .ok (.aload_n 0, 1) := by decide +kernel
theorem dX8_init_1 : decode cX8_init 1 = .ok (.invokespecial 3, 3) := by decide +kernel
theorem dX8_init_4 : decode cX8_init 4 = .ok (.aload_n 0, 1) := by decide +kernel
theorem dX8_init_5 : decode cX8_init 5 = .ok (.sipush 725, 3) := by decide +kernel
theorem dX8_init_8 : decode cX8_init 8 = .ok (.newarray .int, 2) := by decide +kernel
theorem dX8_init_10 : decode cX8_init 10 = .ok (.putfield 9, 3) := by decide +kernel
theorem dX8_init_13 : decode cX8_init 13 = .ok (.aload_n 0, 1) := by decide +kernel
theorem dX8_init_14 : decode cX8_init 14 = .ok (.sipush 725, 3) := by decide +kernel
theorem dX8_init_17 : decode cX8_init 17 = .ok (.newarray .int, 2) := by decide +kernel
theorem dX8_init_19 : decode cX8_init 19 = .ok (.putfield 15, 3) := by decide +kernel
theorem dX8_init_22 : decode cX8_init 22 = .ok (.aload_n 0, 1) := by decide +kernel
theorem dX8_init_23 : decode cX8_init 23 = .ok (.sipush 725, 3) := by decide +kernel
theorem dX8_init_26 : decode cX8_init 26 = .ok (.newarray .int, 2) := by decide +kernel
theorem dX8_init_28 : decode cX8_init 28 = .ok (.putfield 18, 3) := by decide +kernel
theorem dX8_init_31 : decode cX8_init 31 = .ok (.aload_n 0, 1) := by decide +kernel
theorem dX8_init_32 : decode cX8_init 32 = .ok (.bipush 20, 2) := by decide +kernel
theorem dX8_init_34 : decode cX8_init 34 = .ok (.newarray .long, 2) := by decide +kernel
theorem dX8_init_36 : decode cX8_init 36 = .ok (.putfield 21, 3) := by decide +kernel
theorem dX8_init_39 : decode cX8_init 39 = .ok (.aload_n 0, 1) := by decide +kernel
theorem dX8_init_40 : decode cX8_init 40 = .ok (.bipush 20, 2) := by decide +kernel
theorem dX8_init_42 : decode cX8_init 42 = .ok (.newarray .long, 2) := by decide +kernel
theorem dX8_init_44 : decode cX8_init 44 = .ok (.putfield 25, 3) := by decide +kernel
theorem dX8_init_47 : decode cX8_init 47 = .ok (.aload_n 0, 1) := by decide +kernel
theorem dX8_init_48 : decode cX8_init 48 = .ok (.bipush 10, 2) := by decide +kernel
theorem dX8_init_50 : decode cX8_init 50 = .ok (.newarray .int, 2) := by decide +kernel
theorem dX8_init_52 : decode cX8_init 52 = .ok (.putfield 28, 3) := by decide +kernel
theorem dX8_init_55 : decode cX8_init 55 = .ok (.aload_n 0, 1) := by decide +kernel
theorem dX8_init_56 : decode cX8_init 56 = .ok (.bipush 10, 2) := by decide +kernel
theorem dX8_init_58 : decode cX8_init 58 = .ok (.newarray .int, 2) := by decide +kernel
theorem dX8_init_60 : decode cX8_init 60 = .ok (.putfield 31, 3) := by decide +kernel
theorem dX8_init_63 : decode cX8_init 63 = .ok (.return_, 1) := by decide +kernel
theorem dX9_init_0 : decode cX9_init 0 = .ok (.aload_n 0, 1) := by decide +kernel
theorem dX9_init_1 : decode cX9_init 1 = .ok (.invokespecial 3, 3) := by decide +kernel
theorem dX9_init_4 : decode cX9_init 4 = .ok (.aload_n 0, 1) := by decide +kernel
theorem dX9_init_5 : decode cX9_init 5 = .ok (.new 9, 3) := by decide +kernel
theorem dX9_init_8 : decode cX9_init 8 = .ok (.dup, 1) := by decide +kernel
theorem dX9_init_9 : decode cX9_init 9 = .ok (.invokespecial 11, 3) := by decide +kernel
theorem dX9_init_12 : decode cX9_init 12 = .ok (.putfield 12, 3) := by decide +kernel
theorem dX9_init_15 : decode cX9_init 15 = .ok (.aload_n 0, 1) := by decide +kernel
theorem dX9_init_16 : decode cX9_init 16 = .ok (.new 9, 3) := by decide +kernel
theorem dX9_init_19 : decode cX9_init 19 = .ok (.dup, 1) := by decide +kernel
theorem dX9_init_20 : decode cX9_init 20 = .ok (.invokespecial 11, 3) := by decide +kernel
theorem dX9_init_23 : decode cX9_init 23 = .ok (.putfield 16, 3) := by decide +kernel
theorem dX9_init_26 : decode cX9_init 26 = .ok (.aload_n 0, 1) := by decide +kernel
theorem dX9_init_27 : decode cX9_init 27 = .ok (.new 9, 3) := by decide +kernel
theorem dX9_init_30 : decode cX9_init 30 = .ok (.dup, 1) := by decide +kernel
theorem dX9_init_31 : decode cX9_init 31 = .ok (.invokespecial 11, 3) := by decide +kernel
theorem dX9_init_34 : decode cX9_init 34 = .ok (.putfield 19, 3) := by decide +kernel
theorem dX9_init_37 : decode cX9_init 37 = .ok (.aload_n 0, 1) := by decide +kernel
theorem dX9_init_38 : decode cX9_init 38 = .ok (.new 22, 3) := by decide +kernel
theorem dX9_init_41 : decode cX9_init 41 = .ok (.dup, 1) := by decide +kernel
theorem dX9_init_42 : decode cX9_init 42 = .ok (.invokespecial 24, 3) := by decide +kernel
theorem dX9_init_45 : decode cX9_init 45 = .ok (.putfield 25, 3) := by decide +kernel
theorem dX9_init_48 : decode cX9_init 48 = .ok (.aload_n 0, 1) := by decide +kernel
theorem dX9_init_49 : decode cX9_init 49 = .ok (.new 22, 3) := by decide +kernel
theorem dX9_init_52 : decode cX9_init 52 = .ok (.dup, 1) := by decide +kernel
theorem dX9_init_53 : decode cX9_init 53 = .ok (.invokespecial 24, 3) := by decide +kernel
theorem dX9_init_56 : decode cX9_init 56 = .ok (.putfield 29, 3) := by decide +kernel
theorem dX9_init_59 : decode cX9_init 59 = .ok (.aload_n 0, 1) := by decide +kernel
theorem dX9_init_60 : decode cX9_init 60 = .ok (.new 32, 3) := by decide +kernel
theorem dX9_init_63 : decode cX9_init 63 = .ok (.dup, 1) := by decide +kernel
theorem dX9_init_64 : decode cX9_init 64 = .ok (.invokespecial 34, 3) := by decide +kernel
theorem dX9_init_67 : decode cX9_init 67 = .ok (.putfield 35, 3) := by decide +kernel
theorem dX9_init_70 : decode cX9_init 70 = .ok (.aload_n 0, 1) := by decide +kernel
theorem dX9_init_71 : decode cX9_init 71 = .ok (.new 39, 3) := by decide +kernel
theorem dX9_init_74 : decode cX9_init 74 = .ok (.dup, 1) := by decide +kernel
theorem dX9_init_75 : decode cX9_init 75 = .ok (.invokespecial 41, 3) := by decide +kernel
theorem dX9_init_78 : decode cX9_init 78 = .ok (.putfield 42, 3) := by decide +kernel
theorem dX9_init_81 : decode cX9_init 81 = .ok (.aload_n 0, 1) := by decide +kernel
theorem dX9_init_82 : decode cX9_init 82 = .ok (.new 46, 3) := by decide +kernel
theorem dX9_init_85 : decode cX9_init 85 = .ok (.dup, 1) := by decide +kernel
theorem dX9_init_86 : decode cX9_init 86 = .ok (.invokespecial 48, 3) := by decide +kernel
theorem dX9_init_89 : decode cX9_init 89 = .ok (.putfield 49, 3) := by decide +kernel
theorem dX9_init_92 : decode cX9_init 92 = .ok (.aload_n 0, 1) := by decide +kernel
theorem dX9_init_93 : decode cX9_init 93 = .ok (.new 53, 3) := by decide +kernel
theorem dX9_init_96 : decode cX9_init 96 = .ok (.dup, 1) := by decide +kernel
theorem dX9_init_97 : decode cX9_init 97 = .ok (.invokespecial 55, 3) := by decide +kernel
theorem dX9_init_100 : decode cX9_init 100 = .ok (.putfield 56, 3) := by decide +kernel
theorem dX9_init_103 : decode cX9_init 103 = .ok (.aload_n 0, 1) := by decide +kernel
theorem dX9_init_104 : decode cX9_init 104 = .ok (.new 60, 3) := by decide +kernel
theorem dX9_init_107 : decode cX9_init 107 = .ok (.dup, 1) := by decide +kernel
theorem dX9_init_108 : decode cX9_init 108 = .ok (.invokespecial 62, 3) := by decide +kernel
theorem dX9_init_111 : decode cX9_init 111 = .ok (.putfield 63, 3) := by decide +kernel
theorem dX9_init_114 : decode cX9_init 114 = .ok (.aload_n 0, 1) := by decide +kernel
theorem dX9_init_115 : decode cX9_init 115 = .ok (.new 67, 3) := by decide +kernel
theorem dX9_init_118 : decode cX9_init 118 = .ok (.dup, 1) := by decide +kernel
theorem dX9_init_119 : decode cX9_init 119 = .ok (.invokespecial 69, 3) := by decide +kernel
theorem dX9_init_122 : decode cX9_init 122 = .ok (.putfield 70, 3) := by decide +kernel
theorem dX9_init_125 : decode cX9_init 125 = .ok (.aload_n 0, 1) := by decide +kernel
theorem dX9_init_126 : decode cX9_init 126 = .ok (.new 74, 3) := by decide +kernel
theorem dX9_init_129 : decode cX9_init 129 = .ok (.dup, 1) := by decide +kernel
theorem dX9_init_130 : decode cX9_init 130 = .ok (.invokespecial 76, 3) := by decide +kernel
theorem dX9_init_133 : decode cX9_init 133 = .ok (.putfield 77, 3) := by decide +kernel
theorem dX9_init_136 : decode cX9_init 136 = .ok (.return_, 1) := by decide +kernel
theorem dX10_init_0 : decode cX10_init 0 = .ok (.aload_n 0, 1) := by decide +kernel
theorem dX10_init_1 : decode cX10_init 1 = .ok (.invokespecial 1, 3) := by decide +kernel
theorem dX10_init_4 : decode cX10_init 4 = .ok (.aload_n 0, 1) := by decide +kernel
theorem dX10_init_5 : decode cX10_init 5 = .ok (.bipush 10, 2) := by decide +kernel
theorem dX10_init_7 : decode cX10_init 7 = .ok (.newarray .int, 2) := by decide +kernel
theorem dX10_init_9 : decode cX10_init 9 = .ok (.putfield 9, 3) := by decide +kernel
theorem dX10_init_12 : decode cX10_init 12 = .ok (.aload_n 0, 1) := by decide +kernel
theorem dX10_init_13 : decode cX10_init 13 = .ok (.bipush 10, 2) := by decide +kernel
theorem dX10_init_15 : decode cX10_init 15 = .ok (.newarray .int, 2) := by decide +kernel
theorem dX10_init_17 : decode cX10_init 17 = .ok (.putfield 13, 3) := by decide +kernel
theorem dX10_init_20 : decode cX10_init 20 = .ok (.aload_n 0, 1) := by decide +kernel
theorem dX10_init_21 : decode cX10_init 21 = .ok (.bipush 10, 2) := by decide +kernel
theorem dX10_init_23 : decode cX10_init 23 = .ok (.newarray .int, 2) := by decide +kernel
theorem dX10_init_25 : decode cX10_init 25 = .ok (.putfield 16, 3) := by decide +kernel
theorem dX10_init_28 : decode cX10_init 28 = .ok (.aload_n 0, 1) := by decide +kernel
theorem dX10_init_29 : decode cX10_init 29 = .ok (.bipush 10, 2) := by decide +kernel
theorem dX10_init_31 : decode cX10_init 31 = .ok (.newarray .int, 2) := by decide +kernel
theorem dX10_init_33 : decode cX10_init 33 = .ok (.putfield 19, 3) := by decide +kernel
theorem dX10_init_36 : decode cX10_init 36 = .ok (.aload_n 0, 1) := by decide +kernel
theorem dX10_init_37 : decode cX10_init 37 = .ok (.bipush 80, 2) := by decide +kernel
theorem dX10_init_39 : decode cX10_init 39 = .ok (.newarray .long, 2) := by decide +kernel
theorem dX10_init_41 : decode cX10_init 41 = .ok (.putfield 22, 3) := by decide +kernel
theorem dX10_init_44 : decode cX10_init 44 = .ok (.aload_n 0, 1) := by decide +kernel
theorem dX10_init_45 : decode cX10_init 45 = .ok (.bipush 80, 2) := by decide +kernel
theorem dX10_init_47 : decode cX10_init 47 = .ok (.newarray .long, 2) := by decide +kernel
theorem dX10_init_49 : decode cX10_init 49 = .ok (.putfield 26, 3) := by decide +kernel
theorem dX10_init_52 : decode cX10_init 52 = .ok (.aload_n 0, 1) := by decide +kernel
theorem dX10_init_53 : decode cX10_init 53 = .ok (.bipush 80, 2) := by decide +kernel
theorem dX10_init_55 : decode cX10_init 55 = .ok (.newarray .long, 2) := by decide +kernel
theorem dX10_init_57 : decode cX10_init 57 = .ok (.putfield 29, 3) := by decide +kernel
theorem dX10_init_60 : decode cX10_init 60 = .ok (.aload_n 0, 1) := by decide +kernel
theorem dX10_init_61 : decode cX10_init 61 = .ok (.bipush 80, 2) := by decide +kernel
theorem dX10_init_63 : decode cX10_init 63 = .ok (.newarray .long, 2) := by decide +kernel
theorem dX10_init_65 : decode cX10_init 65 = .ok (.putfield 32, 3) := by decide +kernel
theorem dX10_init_68 : decode cX10_init 68 = .ok (.aload_n 0, 1) := by decide +kernel
theorem dX10_init_69 : decode cX10_init 69 = .ok (.bipush 80, 2) := by decide +kernel
theorem dX10_init_71 : decode cX10_init 71 = .ok (.newarray .int, 2) := by decide +kernel
theorem dX10_init_73 : decode cX10_init 73 = .ok (.putfield 35, 3) := by decide +kernel
theorem dX10_init_76 : decode cX10_init 76 = .ok (.aload_n 0, 1) := by decide +kernel
theorem dX10_init_77 : decode cX10_init 77 = .ok (.bipush 20, 2) := by decide +kernel
theorem dX10_init_79 : decode cX10_init 79 = .ok (.newarray .int, 2) := by decide +kernel
theorem dX10_init_81 : decode cX10_init 81 = .ok (.putfield 38, 3) := by decide +kernel
theorem dX10_init_84 : decode cX10_init 84 = .ok (.aload_n 0, 1) := by decide +kernel
theorem dX10_init_85 : decode cX10_init 85 = .ok (.bipush 20, 2) := by decide +kernel
theorem dX10_init_87 : decode cX10_init 87 = .ok (.newarray .int, 2) := by decide +kernel
theorem dX10_init_89 : decode cX10_init 89 = .ok (.putfield 41, 3) := by decide +kernel
theorem dX10_init_92 : decode cX10_init 92 = .ok (.aload_n 0, 1) := by decide +kernel
theorem dX10_init_93 : decode cX10_init 93 = .ok (.bipush 20, 2) := by decide +kernel
theorem dX10_init_95 : decode cX10_init 95 = .ok (.newarray .int, 2) := by decide +kernel
theorem dX10_init_97 : decode cX10_init 97 = .ok (.putfield 44, 3) := by decide +kernel
theorem dX10_init_100 : decode cX10_init 100 = .ok (.aload_n 0, 1) := by decide +kernel
theorem dX10_init_101 : decode cX10_init 101 = .ok (.bipush 20, 2) := by decide +kernel
theorem dX10_init_103 : decode cX10_init 103 = .ok (.newarray .boolean, 2) := by decide +kernel
theorem dX10_init_105 : decode cX10_init 105 = .ok (.putfield 47, 3) := by decide +kernel
theorem dX10_init_108 : decode cX10_init 108 = .ok (.aload_n 0, 1) := by decide +kernel
theorem dX10_init_109 : decode cX10_init 109 = .ok (.bipush 10, 2) := by decide +kernel
theorem dX10_init_111 : decode cX10_init 111 = .ok (.newarray .int, 2) := by decide +kernel
theorem dX10_init_113 : decode cX10_init 113 = .ok (.putfield 51, 3) := by decide +kernel
theorem dX10_init_116 : decode cX10_init 116 = .ok (.aload_n 0, 1) := by decide +kernel
theorem dX10_init_117 : decode cX10_init 117 = .ok (.bipush 81, 2) := by decide +kernel
theorem dX10_init_119 : decode cX10_init 119 = .ok (.newarray .long, 2) := by decide +kernel
theorem dX10_init_121 : decode cX10_init 121 = .ok (.putfield 54, 3) := by decide +kernel
theorem dX10_init_124 : decode cX10_init 124 = .ok (.aload_n 0, 1) := by decide +kernel
theorem dX10_init_125 : decode cX10_init 125 = .ok (.bipush 81, 2) := by decide +kernel
theorem dX10_init_127 : decode cX10_init 127 = .ok (.newarray .long, 2) := by decide +kernel
theorem dX10_init_129 : decode cX10_init 129 = .ok (.putfield 57, 3) := by decide +kernel
theorem dX10_init_132 : decode cX10_init 132 = .ok (.aload_n 0, 1) := by decide +kernel
theorem dX10_init_133 : decode cX10_init 133 = .ok (.bipush 82, 2) := by decide +kernel
theorem dX10_init_135 : decode cX10_init 135 = .ok (.newarray .int, 2) := by decide +kernel
theorem dX10_init_137 : decode cX10_init 137 = .ok (.putfield 60, 3) := by decide +kernel
theorem dX10_init_140 : decode cX10_init 140 = .ok (.aload_n 0, 1) := by decide +kernel
theorem dX10_init_141 : decode cX10_init 141 = .ok (.sipush 900, 3) := by decide +kernel
theorem dX10_init_144 : decode cX10_init 144 = .ok (.newarray .int, 2) := by decide +kernel
theorem dX10_init_146 : decode cX10_init 146 = .ok (.putfield 63, 3) := by decide +kernel
theorem dX10_init_149 : decode cX10_init 149 = .ok (.aload_n 0, 1) := by decide +kernel
theorem dX10_init_150 : decode cX10_init 150 = .ok (.sipush 900, 3) := by decide +kernel
theorem dX10_init_153 : decode cX10_init 153 = .ok (.newarray .int, 2) := by decide +kernel
theorem dX10_init_155 : decode cX10_init 155 = .ok (.putfield 66, 3) := by decide +kernel
theorem dX10_init_158 : decode cX10_init 158 = .ok (.aload_n 0, 1) := by decide +kernel
theorem dX10_init_159 : decode cX10_init 159 = .ok (.sipush 900, 3) := by decide +kernel
theorem dX10_init_162 : decode cX10_init 162 = .ok (.newarray .int, 2) := by decide +kernel
theorem dX10_init_164 : decode cX10_init 164 = .ok (.putfield 69, 3) := by decide +kernel
theorem dX10_init_167 : decode cX10_init 167 = .ok (.aload_n 0, 1) := by decide +kernel
theorem dX10_init_168 : decode cX10_init 168 = .ok (.sipush 900, 3) := by decide +kernel
theorem dX10_init_171 : decode cX10_init 171 = .ok (.newarray .int, 2) := by decide +kernel
theorem dX10_init_173 : decode cX10_init 173 = .ok (.putfield 72, 3) := by decide +kernel
theorem dX10_init_176 : decode cX10_init 176 = .ok (.aload_n 0, 1) := by decide +kernel
theorem dX10_init_177 : decode cX10_init 177 = .ok (.bipush 10, 2) := by decide +kernel
theorem dX10_init_179 : decode cX10_init 179 = .ok (.newarray .int, 2) := by decide +kernel
theorem dX10_init_181 : decode cX10_init 181 = .ok (.putfield 75, 3) := by decide +kernel
theorem dX10_init_184 : decode cX10_init 184 = .ok (.aload_n 0, 1) := by decide +kernel
theorem dX10_init_185 : decode cX10_init 185 = .ok (.sipush 900, 3) := by decide +kernel
theorem dX10_init_188 : decode cX10_init 188 = .ok (.newarray .int, 2) := by decide +kernel
theorem dX10_init_190 : decode cX10_init 190 = .ok (.putfield 78, 3) := by decide +kernel
theorem dX10_init_193 : decode cX10_init 193 = .ok (.aload_n 0, 1) := by decide +kernel
theorem dX10_init_194 : decode cX10_init 194 = .ok (.bipush 80, 2) := by decide +kernel
theorem dX10_init_196 : decode cX10_init 196 = .ok (.bipush 80, 2) := by decide +kernel
theorem dX10_init_198 : decode cX10_init 198 = .ok (.multianewarray 81 2, 4) := by decide +kernel
theorem dX10_init_202 : decode cX10_init 202 = .ok (.putfield 83, 3) := by decide +kernel
theorem dX10_init_205 : decode cX10_init 205 = .ok (.aload_n 0, 1) := by decide +kernel
theorem dX10_init_206 : decode cX10_init 206 = .ok (.sipush 900, 3) := by decide +kernel
theorem dX10_init_209 : decode cX10_init 209 = .ok (.newarray .int, 2) := by decide +kernel
theorem dX10_init_211 : decode cX10_init 211 = .ok (.putfield 86, 3) := by decide +kernel
theorem dX10_init_214 : decode cX10_init 214 = .ok (.aload_n 0, 1) := by decide +kernel
theorem dX10_init_215 : decode cX10_init 215 = .ok (.iconst 2, 1) := by decide +kernel
theorem dX10_init_216 : decode cX10_init 216 = .ok (.newarray .int, 2) := by decide +kernel
theorem dX10_init_218 : decode cX10_init 218 = .ok (.putfield 89, 3) := by decide +kernel
theorem dX10_init_221 : decode cX10_init 221 = .ok (.aload_n 0, 1) := by decide +kernel
theorem dX10_init_222 : decode cX10_init 222 = .ok (.bipush 8, 2) := by decide +kernel
theorem dX10_init_224 : decode cX10_init 224 = .ok (.bipush 10, 2) := by decide +kernel
theorem dX10_init_226 : decode cX10_init 226 = .ok (.multianewarray 92 2, 4) := by decide +kernel
theorem dX10_init_230 : decode cX10_init 230 = .ok (.putfield 94, 3) := by decide +kernel
theorem dX10_init_233 : decode cX10_init 233 = .ok (.aload_n 0, 1) := by decide +kernel
theorem dX10_init_234 : decode cX10_init 234 = .ok (.iconst 4, 1) := by decide +kernel
theorem dX10_init_235 : decode cX10_init 235 = .ok (.newarray .int, 2) := by decide +kernel
theorem dX10_init_237 : decode cX10_init 237 = .ok (.dup, 1) := by decide +kernel
theorem dX10_init_238 : decode cX10_init 238 = .ok (.iconst 0, 1) := by decide +kernel
theorem dX10_init_239 : decode cX10_init 239 = .ok (.iconst (-1), 1) := by decide +kernel
theorem dX10_init_240 : decode cX10_init 240 = .ok (.iastore, 1) := by decide +kernel
theorem dX10_init_241 : decode cX10_init 241 = .ok (.dup, 1) := by decide +kernel
theorem dX10_init_242 : decode cX10_init 242 = .ok (.iconst 1, 1) := by decide +kernel
theorem dX10_init_243 : decode cX10_init 243 = .ok (.iconst (-1), 1) := by decide +kernel
theorem dX10_init_244 : decode cX10_init 244 = .ok (.iastore, 1) := by decide +kernel
theorem dX10_init_245 : decode cX10_init 245 = .ok (.dup, 1) := by decide +kernel
theorem dX10_init_246 : decode cX10_init 246 = .ok (.iconst 2, 1) := by decide +kernel
theorem dX10_init_247 : decode cX10_init 247 = .ok (.iconst (-1), 1) := by decide +kernel
theorem dX10_init_248 : decode cX10_init 248 = .ok (.iastore, 1) := by decide +kernel
theorem dX10_init_249 : decode cX10_init 249 = .ok (.dup, 1) := by decide +kernel
theorem dX10_init_250 : decode cX10_init 250 = .ok (.iconst 3, 1) := by decide +kernel
theorem dX10_init_251 : decode cX10_init 251 = .ok (.iconst (-1), 1) := by decide +kernel
theorem dX10_init_252 : decode cX10_init 252 = .ok (.iastore, 1) := by decide +kernel
theorem dX10_init_253 : decode cX10_init 253 = .ok (.putfield 97, 3) := by decide +kernel
theorem dX10_init_256 : decode cX10_init 256 = .ok (.aload_n 0, 1) := by decide +kernel
theorem dX10_init_257 : decode cX10_init 257 = .ok (.iconst 4, 1) := by decide +kernel
theorem dX10_init_258 : decode cX10_init 258 = .ok (.newarray .int, 2) := by decide +kernel
theorem dX10_init_260 : decode cX10_init 260 = .ok (.putfield 100, 3) := by decide +kernel
theorem dX10_init_263 : decode cX10_init 263 = .ok (.aload_n 0, 1) := by decide +kernel
theorem dX10_init_264 : decode cX10_init 264 = .ok (.iconst 4, 1) := by decide +kernel
theorem dX10_init_265 : decode cX10_init 265 = .ok (.bipush 40, 2) := by decide +kernel
theorem dX10_init_267 : decode cX10_init 267 = .ok (.multianewarray 92 2, 4) := by decide +kernel
theorem dX10_init_271 : decode cX10_init 271 = .ok (.putfield 103, 3) := by decide +kernel
theorem dX10_init_274 : decode cX10_init 274 = .ok (.aload_n 0, 1) := by decide +kernel
theorem dX10_init_275 : decode cX10_init 275 = .ok (.bipush 40, 2) := by decide +kernel
theorem dX10_init_277 : decode cX10_init 277 = .ok (.newarray .int, 2) := by decide +kernel
theorem dX10_init_279 : decode cX10_init 279 = .ok (.putfield 106, 3) := by decide +kernel
theorem dX10_init_282 : decode cX10_init 282 = .ok (.return_, 1) := by decide +kernel
theorem q_16 : (Jvm.Cond.classLink "FacesOfLinesLaw" (7 : Nat) "FacesOfLines") ∈ tbG := tbG_of (in_t1 (List.mem_of_getElem? (i := 16) (by decide +kernel))) rfl
theorem q_17 : (Jvm.Cond.instantiable "FacesOfLines" (16 : Nat)) ∈ tbG := tbG_of (in_t1 (List.mem_of_getElem? (i := 17) (by decide +kernel))) rfl
theorem q_18 : (Jvm.Cond.methodLink "FacesOfLinesLaw" (9 : Nat) ({ cls := "FacesOfLines", name := "<init>", desc := "()V" } : Jvm.MethodName)) ∈ tbG := tbG_of (in_t1 (List.mem_of_getElem? (i := 18) (by decide +kernel))) rfl
theorem q_19 : (Jvm.Cond.instanceMethod ({ cls := "FacesOfLines", name := "<init>", desc := "()V" } : Jvm.MethodName)) ∈ tbG := tbG_of (in_t1 (List.mem_of_getElem? (i := 19) (by decide +kernel))) rfl
theorem q_20 : (Jvm.Cond.code ({ cls := "FacesOfLines", name := "<init>", desc := "()V" } : Jvm.MethodName) prog_1_method_1_code (1 : Nat) (Option.none : Option Jvm.ClassFile.FieldType)) ∈ tbG := tbG_of (in_t1 (List.mem_of_getElem? (i := 20) (by decide +kernel))) rfl
theorem q_21 : (Jvm.Cond.methodLink "FacesOfLines" (3 : Nat) ({ cls := "java/lang/Object", name := "<init>", desc := "()V" } : Jvm.MethodName)) ∈ tbG := tbG_of (in_t1 (List.mem_of_getElem? (i := 21) (by decide +kernel))) rfl
theorem q_22 : (Jvm.Cond.instanceMethod ({ cls := "java/lang/Object", name := "<init>", desc := "()V" } : Jvm.MethodName)) ∈ tbG := tbG_of (in_t1 (List.mem_of_getElem? (i := 22) (by decide +kernel))) rfl
theorem q_23 : (Jvm.Cond.code ({ cls := "java/lang/Object", name := "<init>", desc := "()V" } : Jvm.MethodName) object_method_1_code (1 : Nat) (Option.none : Option Jvm.ClassFile.FieldType)) ∈ tbG := tbG_of (in_t1 (List.mem_of_getElem? (i := 23) (by decide +kernel))) rfl
theorem q_24 : (Jvm.Cond.classLink "FacesOfLines" (9 : Nat) "FacesOfLines$Lines") ∈ tbG := tbG_of (in_t1 (List.mem_of_getElem? (i := 24) (by decide +kernel))) rfl
theorem q_25 : (Jvm.Cond.instantiable "FacesOfLines$Lines" (5 : Nat)) ∈ tbG := tbG_of (in_t1 (List.mem_of_getElem? (i := 25) (by decide +kernel))) rfl
theorem q_26 : (Jvm.Cond.methodLinkNest "FacesOfLines" (11 : Nat) ({ cls := "FacesOfLines$Lines", name := "<init>", desc := "()V" } : Jvm.MethodName) "FacesOfLines") ∈ tbG := tbG_of (in_t1 (List.mem_of_getElem? (i := 26) (by decide +kernel))) rfl
theorem q_27 : (Jvm.Cond.instanceMethod ({ cls := "FacesOfLines$Lines", name := "<init>", desc := "()V" } : Jvm.MethodName)) ∈ tbG := tbG_of (in_t1 (List.mem_of_getElem? (i := 27) (by decide +kernel))) rfl
theorem q_28 : (Jvm.Cond.code ({ cls := "FacesOfLines$Lines", name := "<init>", desc := "()V" } : Jvm.MethodName) prog_4_method_1_code (1 : Nat) (Option.none : Option Jvm.ClassFile.FieldType)) ∈ tbG := tbG_of (in_t1 (List.mem_of_getElem? (i := 28) (by decide +kernel))) rfl
theorem q_29 : (Jvm.Cond.methodLink "FacesOfLines$Lines" (3 : Nat) ({ cls := "java/lang/Object", name := "<init>", desc := "()V" } : Jvm.MethodName)) ∈ tbG := tbG_of (in_t1 (List.mem_of_getElem? (i := 29) (by decide +kernel))) rfl
theorem q_69 : (Jvm.Cond.arrayClass Jvm.ClassFile.FieldType.int) ∈ tbG := tbG_of (in_t1 (List.mem_of_getElem? (i := 69) (by decide +kernel))) rfl
theorem q_70 : (Jvm.Cond.classLink "FacesOfLines" (22 : Nat) "FacesOfLines$Points") ∈ tbG := tbG_of (in_t1 (List.mem_of_getElem? (i := 70) (by decide +kernel))) rfl
theorem q_71 : (Jvm.Cond.instantiable "FacesOfLines$Points" (11 : Nat)) ∈ tbG := tbG_of (in_t1 (List.mem_of_getElem? (i := 71) (by decide +kernel))) rfl
theorem q_72 : (Jvm.Cond.methodLinkNest "FacesOfLines" (24 : Nat) ({ cls := "FacesOfLines$Points", name := "<init>", desc := "()V" } : Jvm.MethodName) "FacesOfLines") ∈ tbG := tbG_of (in_t1 (List.mem_of_getElem? (i := 72) (by decide +kernel))) rfl
theorem q_73 : (Jvm.Cond.instanceMethod ({ cls := "FacesOfLines$Points", name := "<init>", desc := "()V" } : Jvm.MethodName)) ∈ tbG := tbG_of (in_t1 (List.mem_of_getElem? (i := 73) (by decide +kernel))) rfl
theorem q_74 : (Jvm.Cond.code ({ cls := "FacesOfLines$Points", name := "<init>", desc := "()V" } : Jvm.MethodName) prog_6_method_1_code (1 : Nat) (Option.none : Option Jvm.ClassFile.FieldType)) ∈ tbG := tbG_of (in_t1 (List.mem_of_getElem? (i := 74) (by decide +kernel))) rfl
theorem q_75 : (Jvm.Cond.methodLink "FacesOfLines$Points" (3 : Nat) ({ cls := "java/lang/Object", name := "<init>", desc := "()V" } : Jvm.MethodName)) ∈ tbG := tbG_of (in_t1 (List.mem_of_getElem? (i := 75) (by decide +kernel))) rfl
theorem q_76 : (Jvm.Cond.classLink "FacesOfLines$Points" (34 : Nat) "FacesOfLines$Meeting") ∈ tbG := tbG_of (in_t1 (List.mem_of_getElem? (i := 76) (by decide +kernel))) rfl
theorem q_77 : (Jvm.Cond.instantiable "FacesOfLines$Meeting" (5 : Nat)) ∈ tbG := tbG_of (in_t1 (List.mem_of_getElem? (i := 77) (by decide +kernel))) rfl
theorem q_78 : (Jvm.Cond.methodLinkNest "FacesOfLines$Points" (36 : Nat) ({ cls := "FacesOfLines$Meeting", name := "<init>", desc := "()V" } : Jvm.MethodName) "FacesOfLines") ∈ tbG := tbG_of (in_t1 (List.mem_of_getElem? (i := 78) (by decide +kernel))) rfl
theorem q_79 : (Jvm.Cond.instanceMethod ({ cls := "FacesOfLines$Meeting", name := "<init>", desc := "()V" } : Jvm.MethodName)) ∈ tbG := tbG_of (in_t1 (List.mem_of_getElem? (i := 79) (by decide +kernel))) rfl
theorem q_80 : (Jvm.Cond.code ({ cls := "FacesOfLines$Meeting", name := "<init>", desc := "()V" } : Jvm.MethodName) prog_5_method_1_code (1 : Nat) (Option.none : Option Jvm.ClassFile.FieldType)) ∈ tbG := tbG_of (in_t1 (List.mem_of_getElem? (i := 80) (by decide +kernel))) rfl
theorem q_81 : (Jvm.Cond.methodLink "FacesOfLines$Meeting" (3 : Nat) ({ cls := "java/lang/Object", name := "<init>", desc := "()V" } : Jvm.MethodName)) ∈ tbG := tbG_of (in_t1 (List.mem_of_getElem? (i := 81) (by decide +kernel))) rfl
theorem q_108 : (Jvm.Cond.arrayClass Jvm.ClassFile.FieldType.long) ∈ tbG := tbG_of (in_t1 (List.mem_of_getElem? (i := 108) (by decide +kernel))) rfl
theorem q_156 : (Jvm.Cond.classLink "FacesOfLines" (32 : Nat) "FacesOfLines$Meeting") ∈ tbG := tbG_of (in_t1 (List.mem_of_getElem? (i := 156) (by decide +kernel))) rfl
theorem q_157 : (Jvm.Cond.methodLinkNest "FacesOfLines" (34 : Nat) ({ cls := "FacesOfLines$Meeting", name := "<init>", desc := "()V" } : Jvm.MethodName) "FacesOfLines") ∈ tbG := tbG_of (in_t1 (List.mem_of_getElem? (i := 157) (by decide +kernel))) rfl
theorem q_158 : (Jvm.Cond.classLink "FacesOfLines" (39 : Nat) "FacesOfLines$Standing") ∈ tbG := tbG_of (in_t1 (List.mem_of_getElem? (i := 158) (by decide +kernel))) rfl
theorem q_159 : (Jvm.Cond.instantiable "FacesOfLines$Standing" (3 : Nat)) ∈ tbG := tbG_of (in_t1 (List.mem_of_getElem? (i := 159) (by decide +kernel))) rfl
theorem q_160 : (Jvm.Cond.methodLinkNest "FacesOfLines" (41 : Nat) ({ cls := "FacesOfLines$Standing", name := "<init>", desc := "()V" } : Jvm.MethodName) "FacesOfLines") ∈ tbG := tbG_of (in_t1 (List.mem_of_getElem? (i := 160) (by decide +kernel))) rfl
theorem q_161 : (Jvm.Cond.instanceMethod ({ cls := "FacesOfLines$Standing", name := "<init>", desc := "()V" } : Jvm.MethodName)) ∈ tbG := tbG_of (in_t1 (List.mem_of_getElem? (i := 161) (by decide +kernel))) rfl
theorem q_162 : (Jvm.Cond.code ({ cls := "FacesOfLines$Standing", name := "<init>", desc := "()V" } : Jvm.MethodName) prog_9_method_1_code (1 : Nat) (Option.none : Option Jvm.ClassFile.FieldType)) ∈ tbG := tbG_of (in_t1 (List.mem_of_getElem? (i := 162) (by decide +kernel))) rfl
theorem q_163 : (Jvm.Cond.methodLink "FacesOfLines$Standing" (3 : Nat) ({ cls := "java/lang/Object", name := "<init>", desc := "()V" } : Jvm.MethodName)) ∈ tbG := tbG_of (in_t1 (List.mem_of_getElem? (i := 163) (by decide +kernel))) rfl
theorem q_180 : (Jvm.Cond.classLink "FacesOfLines" (46 : Nat) "FacesOfLines$Slabs") ∈ tbG := tbG_of (in_t1 (List.mem_of_getElem? (i := 180) (by decide +kernel))) rfl
theorem q_181 : (Jvm.Cond.instantiable "FacesOfLines$Slabs" (8 : Nat)) ∈ tbG := tbG_of (in_t1 (List.mem_of_getElem? (i := 181) (by decide +kernel))) rfl
theorem q_182 : (Jvm.Cond.methodLinkNest "FacesOfLines" (48 : Nat) ({ cls := "FacesOfLines$Slabs", name := "<init>", desc := "()V" } : Jvm.MethodName) "FacesOfLines") ∈ tbG := tbG_of (in_t1 (List.mem_of_getElem? (i := 182) (by decide +kernel))) rfl
theorem q_183 : (Jvm.Cond.instanceMethod ({ cls := "FacesOfLines$Slabs", name := "<init>", desc := "()V" } : Jvm.MethodName)) ∈ tbG := tbG_of (in_t1 (List.mem_of_getElem? (i := 183) (by decide +kernel))) rfl
theorem q_184 : (Jvm.Cond.code ({ cls := "FacesOfLines$Slabs", name := "<init>", desc := "()V" } : Jvm.MethodName) prog_8_method_1_code (1 : Nat) (Option.none : Option Jvm.ClassFile.FieldType)) ∈ tbG := tbG_of (in_t1 (List.mem_of_getElem? (i := 184) (by decide +kernel))) rfl
theorem q_185 : (Jvm.Cond.methodLink "FacesOfLines$Slabs" (3 : Nat) ({ cls := "java/lang/Object", name := "<init>", desc := "()V" } : Jvm.MethodName)) ∈ tbG := tbG_of (in_t1 (List.mem_of_getElem? (i := 185) (by decide +kernel))) rfl
theorem q_227 : (Jvm.Cond.classLink "FacesOfLines" (53 : Nat) "FacesOfLines$Stretches") ∈ tbG := tbG_of (in_t1 (List.mem_of_getElem? (i := 227) (by decide +kernel))) rfl
theorem q_228 : (Jvm.Cond.instantiable "FacesOfLines$Stretches" (9 : Nat)) ∈ tbG := tbG_of (in_t1 (List.mem_of_getElem? (i := 228) (by decide +kernel))) rfl
theorem q_229 : (Jvm.Cond.methodLinkNest "FacesOfLines" (55 : Nat) ({ cls := "FacesOfLines$Stretches", name := "<init>", desc := "()V" } : Jvm.MethodName) "FacesOfLines") ∈ tbG := tbG_of (in_t1 (List.mem_of_getElem? (i := 229) (by decide +kernel))) rfl
theorem q_230 : (Jvm.Cond.instanceMethod ({ cls := "FacesOfLines$Stretches", name := "<init>", desc := "()V" } : Jvm.MethodName)) ∈ tbG := tbG_of (in_t1 (List.mem_of_getElem? (i := 230) (by decide +kernel))) rfl
theorem q_231 : (Jvm.Cond.code ({ cls := "FacesOfLines$Stretches", name := "<init>", desc := "()V" } : Jvm.MethodName) prog_10_method_1_code (1 : Nat) (Option.none : Option Jvm.ClassFile.FieldType)) ∈ tbG := tbG_of (in_t1 (List.mem_of_getElem? (i := 231) (by decide +kernel))) rfl
theorem q_232 : (Jvm.Cond.methodLink "FacesOfLines$Stretches" (3 : Nat) ({ cls := "java/lang/Object", name := "<init>", desc := "()V" } : Jvm.MethodName)) ∈ tbG := tbG_of (in_t1 (List.mem_of_getElem? (i := 232) (by decide +kernel))) rfl
theorem q_265 : (Jvm.Cond.classLink "FacesOfLines" (60 : Nat) "FacesOfLines$Faces") ∈ tbG := tbG_of (in_t2 (List.mem_of_getElem? (i := 25) (by decide +kernel))) rfl
theorem q_266 : (Jvm.Cond.instantiable "FacesOfLines$Faces" (7 : Nat)) ∈ tbG := tbG_of (in_t2 (List.mem_of_getElem? (i := 26) (by decide +kernel))) rfl
theorem q_267 : (Jvm.Cond.methodLinkNest "FacesOfLines" (62 : Nat) ({ cls := "FacesOfLines$Faces", name := "<init>", desc := "()V" } : Jvm.MethodName) "FacesOfLines") ∈ tbG := tbG_of (in_t2 (List.mem_of_getElem? (i := 27) (by decide +kernel))) rfl
theorem q_268 : (Jvm.Cond.instanceMethod ({ cls := "FacesOfLines$Faces", name := "<init>", desc := "()V" } : Jvm.MethodName)) ∈ tbG := tbG_of (in_t2 (List.mem_of_getElem? (i := 28) (by decide +kernel))) rfl
theorem q_269 : (Jvm.Cond.code ({ cls := "FacesOfLines$Faces", name := "<init>", desc := "()V" } : Jvm.MethodName) prog_2_method_1_code (1 : Nat) (Option.none : Option Jvm.ClassFile.FieldType)) ∈ tbG := tbG_of (in_t2 (List.mem_of_getElem? (i := 29) (by decide +kernel))) rfl
theorem q_270 : (Jvm.Cond.methodLink "FacesOfLines$Faces" (3 : Nat) ({ cls := "java/lang/Object", name := "<init>", desc := "()V" } : Jvm.MethodName)) ∈ tbG := tbG_of (in_t2 (List.mem_of_getElem? (i := 30) (by decide +kernel))) rfl
theorem q_299 : (Jvm.Cond.classLink "FacesOfLines" (67 : Nat) "FacesOfLines$Hulls") ∈ tbG := tbG_of (in_t2 (List.mem_of_getElem? (i := 59) (by decide +kernel))) rfl
theorem q_300 : (Jvm.Cond.instantiable "FacesOfLines$Hulls" (5 : Nat)) ∈ tbG := tbG_of (in_t2 (List.mem_of_getElem? (i := 60) (by decide +kernel))) rfl
theorem q_301 : (Jvm.Cond.methodLinkNest "FacesOfLines" (69 : Nat) ({ cls := "FacesOfLines$Hulls", name := "<init>", desc := "()V" } : Jvm.MethodName) "FacesOfLines") ∈ tbG := tbG_of (in_t2 (List.mem_of_getElem? (i := 61) (by decide +kernel))) rfl
theorem q_302 : (Jvm.Cond.instanceMethod ({ cls := "FacesOfLines$Hulls", name := "<init>", desc := "()V" } : Jvm.MethodName)) ∈ tbG := tbG_of (in_t2 (List.mem_of_getElem? (i := 62) (by decide +kernel))) rfl
theorem q_303 : (Jvm.Cond.code ({ cls := "FacesOfLines$Hulls", name := "<init>", desc := "()V" } : Jvm.MethodName) prog_3_method_1_code (1 : Nat) (Option.none : Option Jvm.ClassFile.FieldType)) ∈ tbG := tbG_of (in_t2 (List.mem_of_getElem? (i := 63) (by decide +kernel))) rfl
theorem q_304 : (Jvm.Cond.methodLink "FacesOfLines$Hulls" (3 : Nat) ({ cls := "java/lang/Object", name := "<init>", desc := "()V" } : Jvm.MethodName)) ∈ tbG := tbG_of (in_t2 (List.mem_of_getElem? (i := 64) (by decide +kernel))) rfl
theorem q_322 : (Jvm.Cond.classLink "FacesOfLines" (74 : Nat) "FacesOfLines$Sheets") ∈ tbG := tbG_of (in_t2 (List.mem_of_getElem? (i := 82) (by decide +kernel))) rfl
theorem q_323 : (Jvm.Cond.instantiable "FacesOfLines$Sheets" (3 : Nat)) ∈ tbG := tbG_of (in_t2 (List.mem_of_getElem? (i := 83) (by decide +kernel))) rfl
theorem q_324 : (Jvm.Cond.methodLink "FacesOfLines" (76 : Nat) ({ cls := "FacesOfLines$Sheets", name := "<init>", desc := "()V" } : Jvm.MethodName)) ∈ tbG := tbG_of (in_t2 (List.mem_of_getElem? (i := 84) (by decide +kernel))) rfl
theorem q_325 : (Jvm.Cond.instanceMethod ({ cls := "FacesOfLines$Sheets", name := "<init>", desc := "()V" } : Jvm.MethodName)) ∈ tbG := tbG_of (in_t2 (List.mem_of_getElem? (i := 85) (by decide +kernel))) rfl
theorem q_326 : (Jvm.Cond.code ({ cls := "FacesOfLines$Sheets", name := "<init>", desc := "()V" } : Jvm.MethodName) prog_7_method_1_code (2 : Nat) (Option.none : Option Jvm.ClassFile.FieldType)) ∈ tbG := tbG_of (in_t2 (List.mem_of_getElem? (i := 86) (by decide +kernel))) rfl
theorem q_327 : (Jvm.Cond.methodLink "FacesOfLines$Sheets" (3 : Nat) ({ cls := "java/lang/Object", name := "<init>", desc := "()V" } : Jvm.MethodName)) ∈ tbG := tbG_of (in_t2 (List.mem_of_getElem? (i := 87) (by decide +kernel))) rfl
theorem q_876 : (Jvm.Cond.classLink "FacesOfLinesLaw" (10 : Nat) "FacesOfLinesModel") ∈ tbG := tbG_of (in_t4 (List.mem_of_getElem? (i := 156) (by decide +kernel))) rfl
theorem q_877 : (Jvm.Cond.instantiable "FacesOfLinesModel" (48 : Nat)) ∈ tbG := tbG_of (in_t4 (List.mem_of_getElem? (i := 157) (by decide +kernel))) rfl
theorem q_878 : (Jvm.Cond.methodLink "FacesOfLinesLaw" (12 : Nat) ({ cls := "FacesOfLinesModel", name := "<init>", desc := "()V" } : Jvm.MethodName)) ∈ tbG := tbG_of (in_t4 (List.mem_of_getElem? (i := 158) (by decide +kernel))) rfl
theorem q_879 : (Jvm.Cond.instanceMethod ({ cls := "FacesOfLinesModel", name := "<init>", desc := "()V" } : Jvm.MethodName)) ∈ tbG := tbG_of (in_t4 (List.mem_of_getElem? (i := 159) (by decide +kernel))) rfl
theorem q_880 : (Jvm.Cond.code ({ cls := "FacesOfLinesModel", name := "<init>", desc := "()V" } : Jvm.MethodName) prog_12_method_1_code (1 : Nat) (Option.none : Option Jvm.ClassFile.FieldType)) ∈ tbG := tbG_of (in_t4 (List.mem_of_getElem? (i := 160) (by decide +kernel))) rfl
theorem q_881 : (Jvm.Cond.methodLink "FacesOfLinesModel" (1 : Nat) ({ cls := "java/lang/Object", name := "<init>", desc := "()V" } : Jvm.MethodName)) ∈ tbG := tbG_of (in_t4 (List.mem_of_getElem? (i := 161) (by decide +kernel))) rfl
theorem q_882 : (Jvm.Cond.classLink "FacesOfLinesModel" (81 : Nat) "[[Z") ∈ tbG := tbG_of (in_t4 (List.mem_of_getElem? (i := 162) (by decide +kernel))) rfl
theorem q_884 : (Jvm.Cond.classLink "FacesOfLinesModel" (92 : Nat) "[[I") ∈ tbG := tbG_of (in_t4 (List.mem_of_getElem? (i := 164) (by decide +kernel))) rfl
theorem q_1031 : (Jvm.Cond.arrayClass Jvm.ClassFile.FieldType.boolean) ∈ tbG := tbG_of (in_t5 (List.mem_of_getElem? (i := 71) (by decide +kernel))) rfl
theorem df_0 : ∀ j, j < 7 → defaultValue (tyX0 j) = (if fty 0 j = 2 then .null else if fty 0 j = 1 then .long 0 else .int 0) := by decide +kernel
theorem df_1 : ∀ j, j < 5 → defaultValue (tyX1 j) = (if fty 1 j = 2 then .null else if fty 1 j = 1 then .long 0 else .int 0) := by decide +kernel
theorem df_10 : ∀ j, j < 48 → defaultValue (tyX10 j) = (if fty 10 j = 2 then .null else if fty 10 j = 1 then .long 0 else .int 0) := by decide +kernel
theorem df_2 : ∀ j, j < 5 → defaultValue (tyX2 j) = (if fty 2 j = 2 then .null else if fty 2 j = 1 then .long 0 else .int 0) := by decide +kernel
theorem df_3 : ∀ j, j < 5 → defaultValue (tyX3 j) = (if fty 3 j = 2 then .null else if fty 3 j = 1 then .long 0 else .int 0) := by decide +kernel
theorem df_4 : ∀ j, j < 11 → defaultValue (tyX4 j) = (if fty 4 j = 2 then .null else if fty 4 j = 1 then .long 0 else .int 0) := by decide +kernel
theorem df_5 : ∀ j, j < 3 → defaultValue (tyX5 j) = (if fty 5 j = 2 then .null else if fty 5 j = 1 then .long 0 else .int 0) := by decide +kernel
theorem df_6 : ∀ j, j < 8 → defaultValue (tyX6 j) = (if fty 6 j = 2 then .null else if fty 6 j = 1 then .long 0 else .int 0) := by decide +kernel
theorem df_7 : ∀ j, j < 3 → defaultValue (tyX7 j) = (if fty 7 j = 2 then .null else if fty 7 j = 1 then .long 0 else .int 0) := by decide +kernel
theorem df_8 : ∀ j, j < 9 → defaultValue (tyX8 j) = (if fty 8 j = 2 then .null else if fty 8 j = 1 then .long 0 else .int 0) := by decide +kernel
theorem df_9 : ∀ j, j < 16 → defaultValue (tyX9 j) = (if fty 9 j = 2 then .null else if fty 9 j = 1 then .long 0 else .int 0) := by decide +kernel
abbrev mX0_init : Mth := (yX0_init, cX0_init, 1, none, none)
abbrev mX10_init : Mth := (yX10_init, cX10_init, 1, none, none)
abbrev mX1_init : Mth := (yX1_init, cX1_init, 1, none, none)
abbrev mX2_init : Mth := (yX2_init, cX2_init, 1, none, none)
abbrev mX3_init : Mth := (yX3_init, cX3_init, 1, none, none)
abbrev mX4_init : Mth := (yX4_init, cX4_init, 1, none, none)
abbrev mX5_init : Mth := (yX5_init, cX5_init, 2, none, none)
abbrev mX6_init : Mth := (yX6_init, cX6_init, 1, none, none)
abbrev mX7_init : Mth := (yX7_init, cX7_init, 1, none, none)
abbrev mX8_init : Mth := (yX8_init, cX8_init, 1, none, none)
abbrev mX9_init : Mth := (yX9_init, cX9_init, 1, none, none)
theorem MI_X0 : MI mX0_init := ⟨q_269, q_8, ⟨by decide +kernel, by decide +kernel⟩, by decide +kernel, q_268, by decide, rfl, rfl⟩
theorem MI_X1 : MI mX1_init := ⟨q_303, q_9, ⟨by decide +kernel, by decide +kernel⟩, by decide +kernel, q_302, by decide, rfl, rfl⟩
theorem MI_X10 : MI mX10_init := ⟨q_880, q_11, ⟨by decide +kernel, by decide +kernel⟩, by decide +kernel, q_879, by decide, rfl, rfl⟩
theorem MI_X2 : MI mX2_init := ⟨q_28, q_2, ⟨by decide +kernel, by decide +kernel⟩, by decide +kernel, q_27, by decide, rfl, rfl⟩
theorem MI_X3 : MI mX3_init := ⟨q_80, q_4, ⟨by decide +kernel, by decide +kernel⟩, by decide +kernel, q_79, by decide, rfl, rfl⟩
theorem MI_X4 : MI mX4_init := ⟨q_74, q_3, ⟨by decide +kernel, by decide +kernel⟩, by decide +kernel, q_73, by decide, rfl, rfl⟩
theorem MI_X5 : MI mX5_init := ⟨q_326, q_10, ⟨by decide +kernel, by decide +kernel⟩, by decide +kernel, q_325, by decide, rfl, rfl⟩
theorem MI_X6 : MI mX6_init := ⟨q_184, q_6, ⟨by decide +kernel, by decide +kernel⟩, by decide +kernel, q_183, by decide, rfl, rfl⟩
theorem MI_X7 : MI mX7_init := ⟨q_162, q_5, ⟨by decide +kernel, by decide +kernel⟩, by decide +kernel, q_161, by decide, rfl, rfl⟩
theorem MI_X8 : MI mX8_init := ⟨q_231, q_7, ⟨by decide +kernel, by decide +kernel⟩, by decide +kernel, q_230, by decide, rfl, rfl⟩
theorem MI_X9 : MI mX9_init := ⟨q_20, q_1, ⟨by decide +kernel, by decide +kernel⟩, by decide +kernel, q_19, by decide, rfl, rfl⟩
theorem fr_RX0_15 : FR RX0 15 0 2 := ⟨RX0, TX0, 7, tyX0, tyX0 2, rfl, by decide, wf_0, rfl, q_274, tyX0_ok, nmX0, rfl, rfl, by decide +kernel, fun _ => rfl, fun _ => rfl, by decide, by decide⟩
theorem fr_RX0_18 : FR RX0 18 0 3 := ⟨RX0, TX0, 7, tyX0, tyX0 3, rfl, by decide, wf_0, rfl, q_276, tyX0_ok, nmX0, rfl, rfl, by decide +kernel, fun _ => rfl, fun _ => rfl, by decide, by decide⟩
theorem fr_RX0_21 : FR RX0 21 0 4 := ⟨RX0, TX0, 7, tyX0, tyX0 4, rfl, by decide, wf_0, rfl, q_278, tyX0_ok, nmX0, rfl, rfl, by decide +kernel, fun _ => rfl, fun _ => rfl, by decide, by decide⟩
theorem fr_RX0_24 : FR RX0 24 0 5 := ⟨RX0, TX0, 7, tyX0, tyX0 5, rfl, by decide, wf_0, rfl, q_280, tyX0_ok, nmX0, rfl, rfl, by decide +kernel, fun _ => rfl, fun _ => rfl, by decide, by decide⟩
theorem fr_RX0_27 : FR RX0 27 0 6 := ⟨RX0, TX0, 7, tyX0, tyX0 6, rfl, by decide, wf_0, rfl, q_282, tyX0_ok, nmX0, rfl, rfl, by decide +kernel, fun _ => rfl, fun _ => rfl, by decide, by decide⟩
theorem fr_RX0_9 : FR RX0 9 0 1 := ⟨RX0, TX0, 7, tyX0, tyX0 1, rfl, by decide, wf_0, rfl, q_273, tyX0_ok, nmX0, rfl, rfl, by decide +kernel, fun _ => rfl, fun _ => rfl, by decide, by decide⟩
theorem fr_RX10_100 : FR RX10 100 10 45 := ⟨RX10, TX10, 48, tyX10, tyX10 45, rfl, by decide, wf_10, rfl, q_931, tyX10_ok, nmX10, rfl, rfl, by decide +kernel, fun _ => rfl, fun _ => rfl, by decide, by decide⟩
theorem fr_RX10_103 : FR RX10 103 10 46 := ⟨RX10, TX10, 48, tyX10, tyX10 46, rfl, by decide, wf_10, rfl, q_932, tyX10_ok, nmX10, rfl, rfl, by decide +kernel, fun _ => rfl, fun _ => rfl, by decide, by decide⟩
theorem fr_RX10_106 : FR RX10 106 10 47 := ⟨RX10, TX10, 48, tyX10, tyX10 47, rfl, by decide, wf_10, rfl, q_933, tyX10_ok, nmX10, rfl, rfl, by decide +kernel, fun _ => rfl, fun _ => rfl, by decide, by decide⟩
theorem fr_RX10_13 : FR RX10 13 10 2 := ⟨RX10, TX10, 48, tyX10, tyX10 2, rfl, by decide, wf_10, rfl, q_888, tyX10_ok, nmX10, rfl, rfl, by decide +kernel, fun _ => rfl, fun _ => rfl, by decide, by decide⟩
theorem fr_RX10_16 : FR RX10 16 10 3 := ⟨RX10, TX10, 48, tyX10, tyX10 3, rfl, by decide, wf_10, rfl, q_889, tyX10_ok, nmX10, rfl, rfl, by decide +kernel, fun _ => rfl, fun _ => rfl, by decide, by decide⟩
theorem fr_RX10_19 : FR RX10 19 10 4 := ⟨RX10, TX10, 48, tyX10, tyX10 4, rfl, by decide, wf_10, rfl, q_890, tyX10_ok, nmX10, rfl, rfl, by decide +kernel, fun _ => rfl, fun _ => rfl, by decide, by decide⟩
theorem fr_RX10_22 : FR RX10 22 10 10 := ⟨RX10, TX10, 48, tyX10, tyX10 10, rfl, by decide, wf_10, rfl, q_896, tyX10_ok, nmX10, rfl, rfl, by decide +kernel, fun _ => rfl, fun _ => rfl, by decide, by decide⟩
theorem fr_RX10_26 : FR RX10 26 10 11 := ⟨RX10, TX10, 48, tyX10, tyX10 11, rfl, by decide, wf_10, rfl, q_897, tyX10_ok, nmX10, rfl, rfl, by decide +kernel, fun _ => rfl, fun _ => rfl, by decide, by decide⟩
theorem fr_RX10_29 : FR RX10 29 10 12 := ⟨RX10, TX10, 48, tyX10, tyX10 12, rfl, by decide, wf_10, rfl, q_898, tyX10_ok, nmX10, rfl, rfl, by decide +kernel, fun _ => rfl, fun _ => rfl, by decide, by decide⟩
theorem fr_RX10_32 : FR RX10 32 10 13 := ⟨RX10, TX10, 48, tyX10, tyX10 13, rfl, by decide, wf_10, rfl, q_899, tyX10_ok, nmX10, rfl, rfl, by decide +kernel, fun _ => rfl, fun _ => rfl, by decide, by decide⟩
theorem fr_RX10_35 : FR RX10 35 10 14 := ⟨RX10, TX10, 48, tyX10, tyX10 14, rfl, by decide, wf_10, rfl, q_900, tyX10_ok, nmX10, rfl, rfl, by decide +kernel, fun _ => rfl, fun _ => rfl, by decide, by decide⟩
theorem fr_RX10_38 : FR RX10 38 10 16 := ⟨RX10, TX10, 48, tyX10, tyX10 16, rfl, by decide, wf_10, rfl, q_902, tyX10_ok, nmX10, rfl, rfl, by decide +kernel, fun _ => rfl, fun _ => rfl, by decide, by decide⟩
theorem fr_RX10_41 : FR RX10 41 10 17 := ⟨RX10, TX10, 48, tyX10, tyX10 17, rfl, by decide, wf_10, rfl, q_903, tyX10_ok, nmX10, rfl, rfl, by decide +kernel, fun _ => rfl, fun _ => rfl, by decide, by decide⟩
theorem fr_RX10_44 : FR RX10 44 10 18 := ⟨RX10, TX10, 48, tyX10, tyX10 18, rfl, by decide, wf_10, rfl, q_904, tyX10_ok, nmX10, rfl, rfl, by decide +kernel, fun _ => rfl, fun _ => rfl, by decide, by decide⟩
theorem fr_RX10_47 : FR RX10 47 10 19 := ⟨RX10, TX10, 48, tyX10, tyX10 19, rfl, by decide, wf_10, rfl, q_905, tyX10_ok, nmX10, rfl, rfl, by decide +kernel, fun _ => rfl, fun _ => rfl, by decide, by decide⟩
theorem fr_RX10_51 : FR RX10 51 10 21 := ⟨RX10, TX10, 48, tyX10, tyX10 21, rfl, by decide, wf_10, rfl, q_907, tyX10_ok, nmX10, rfl, rfl, by decide +kernel, fun _ => rfl, fun _ => rfl, by decide, by decide⟩
theorem fr_RX10_54 : FR RX10 54 10 25 := ⟨RX10, TX10, 48, tyX10, tyX10 25, rfl, by decide, wf_10, rfl, q_911, tyX10_ok, nmX10, rfl, rfl, by decide +kernel, fun _ => rfl, fun _ => rfl, by decide, by decide⟩
theorem fr_RX10_57 : FR RX10 57 10 26 := ⟨RX10, TX10, 48, tyX10, tyX10 26, rfl, by decide, wf_10, rfl, q_912, tyX10_ok, nmX10, rfl, rfl, by decide +kernel, fun _ => rfl, fun _ => rfl, by decide, by decide⟩
theorem fr_RX10_60 : FR RX10 60 10 27 := ⟨RX10, TX10, 48, tyX10, tyX10 27, rfl, by decide, wf_10, rfl, q_913, tyX10_ok, nmX10, rfl, rfl, by decide +kernel, fun _ => rfl, fun _ => rfl, by decide, by decide⟩
theorem fr_RX10_63 : FR RX10 63 10 28 := ⟨RX10, TX10, 48, tyX10, tyX10 28, rfl, by decide, wf_10, rfl, q_914, tyX10_ok, nmX10, rfl, rfl, by decide +kernel, fun _ => rfl, fun _ => rfl, by decide, by decide⟩
theorem fr_RX10_66 : FR RX10 66 10 29 := ⟨RX10, TX10, 48, tyX10, tyX10 29, rfl, by decide, wf_10, rfl, q_915, tyX10_ok, nmX10, rfl, rfl, by decide +kernel, fun _ => rfl, fun _ => rfl, by decide, by decide⟩
theorem fr_RX10_69 : FR RX10 69 10 30 := ⟨RX10, TX10, 48, tyX10, tyX10 30, rfl, by decide, wf_10, rfl, q_916, tyX10_ok, nmX10, rfl, rfl, by decide +kernel, fun _ => rfl, fun _ => rfl, by decide, by decide⟩
theorem fr_RX10_72 : FR RX10 72 10 31 := ⟨RX10, TX10, 48, tyX10, tyX10 31, rfl, by decide, wf_10, rfl, q_917, tyX10_ok, nmX10, rfl, rfl, by decide +kernel, fun _ => rfl, fun _ => rfl, by decide, by decide⟩
theorem fr_RX10_75 : FR RX10 75 10 32 := ⟨RX10, TX10, 48, tyX10, tyX10 32, rfl, by decide, wf_10, rfl, q_918, tyX10_ok, nmX10, rfl, rfl, by decide +kernel, fun _ => rfl, fun _ => rfl, by decide, by decide⟩
theorem fr_RX10_78 : FR RX10 78 10 37 := ⟨RX10, TX10, 48, tyX10, tyX10 37, rfl, by decide, wf_10, rfl, q_923, tyX10_ok, nmX10, rfl, rfl, by decide +kernel, fun _ => rfl, fun _ => rfl, by decide, by decide⟩
theorem fr_RX10_83 : FR RX10 83 10 38 := ⟨RX10, TX10, 48, tyX10, tyX10 38, rfl, by decide, wf_10, rfl, q_924, tyX10_ok, nmX10, rfl, rfl, by decide +kernel, fun _ => rfl, fun _ => rfl, by decide, by decide⟩
theorem fr_RX10_86 : FR RX10 86 10 39 := ⟨RX10, TX10, 48, tyX10, tyX10 39, rfl, by decide, wf_10, rfl, q_925, tyX10_ok, nmX10, rfl, rfl, by decide +kernel, fun _ => rfl, fun _ => rfl, by decide, by decide⟩
theorem fr_RX10_89 : FR RX10 89 10 40 := ⟨RX10, TX10, 48, tyX10, tyX10 40, rfl, by decide, wf_10, rfl, q_926, tyX10_ok, nmX10, rfl, rfl, by decide +kernel, fun _ => rfl, fun _ => rfl, by decide, by decide⟩
theorem fr_RX10_9 : FR RX10 9 10 1 := ⟨RX10, TX10, 48, tyX10, tyX10 1, rfl, by decide, wf_10, rfl, q_887, tyX10_ok, nmX10, rfl, rfl, by decide +kernel, fun _ => rfl, fun _ => rfl, by decide, by decide⟩
theorem fr_RX10_94 : FR RX10 94 10 41 := ⟨RX10, TX10, 48, tyX10, tyX10 41, rfl, by decide, wf_10, rfl, q_927, tyX10_ok, nmX10, rfl, rfl, by decide +kernel, fun _ => rfl, fun _ => rfl, by decide, by decide⟩
theorem fr_RX10_97 : FR RX10 97 10 44 := ⟨RX10, TX10, 48, tyX10, tyX10 44, rfl, by decide, wf_10, rfl, q_930, tyX10_ok, nmX10, rfl, rfl, by decide +kernel, fun _ => rfl, fun _ => rfl, by decide, by decide⟩
theorem fr_RX1_15 : FR RX1 15 1 3 := ⟨RX1, TX1, 5, tyX1, tyX1 3, rfl, by decide, wf_1, rfl, q_309, tyX1_ok, nmX1, rfl, rfl, by decide +kernel, fun _ => rfl, fun _ => rfl, by decide, by decide⟩
theorem fr_RX1_18 : FR RX1 18 1 4 := ⟨RX1, TX1, 5, tyX1, tyX1 4, rfl, by decide, wf_1, rfl, q_310, tyX1_ok, nmX1, rfl, rfl, by decide +kernel, fun _ => rfl, fun _ => rfl, by decide, by decide⟩
theorem fr_RX1_9 : FR RX1 9 1 2 := ⟨RX1, TX1, 5, tyX1, tyX1 2, rfl, by decide, wf_1, rfl, q_308, tyX1_ok, nmX1, rfl, rfl, by decide +kernel, fun _ => rfl, fun _ => rfl, by decide, by decide⟩
theorem fr_RX2_15 : FR RX2 15 2 2 := ⟨RX2, TX2, 5, tyX2, tyX2 2, rfl, by decide, wf_2, rfl, q_41, tyX2_ok, nmX2, rfl, rfl, by decide +kernel, fun _ => rfl, fun _ => rfl, by decide, by decide⟩
theorem fr_RX2_18 : FR RX2 18 2 3 := ⟨RX2, TX2, 5, tyX2, tyX2 3, rfl, by decide, wf_2, rfl, q_47, tyX2_ok, nmX2, rfl, rfl, by decide +kernel, fun _ => rfl, fun _ => rfl, by decide, by decide⟩
theorem fr_RX2_21 : FR RX2 21 2 4 := ⟨RX2, TX2, 5, tyX2, tyX2 4, rfl, by decide, wf_2, rfl, q_52, tyX2_ok, nmX2, rfl, rfl, by decide +kernel, fun _ => rfl, fun _ => rfl, by decide, by decide⟩
theorem fr_RX2_9 : FR RX2 9 2 1 := ⟨RX2, TX2, 5, tyX2, tyX2 1, rfl, by decide, wf_2, rfl, q_36, tyX2_ok, nmX2, rfl, rfl, by decide +kernel, fun _ => rfl, fun _ => rfl, by decide, by decide⟩
theorem fr_RX4_15 : FR RX4 15 4 4 := ⟨RX4, TX4, 11, tyX4, tyX4 4, rfl, by decide, wf_4, rfl, q_119, tyX4_ok, nmX4, rfl, rfl, by decide +kernel, fun _ => rfl, fun _ => rfl, by decide, by decide⟩
theorem fr_RX4_18 : FR RX4 18 4 5 := ⟨RX4, TX4, 11, tyX4, tyX4 5, rfl, by decide, wf_4, rfl, q_122, tyX4_ok, nmX4, rfl, rfl, by decide +kernel, fun _ => rfl, fun _ => rfl, by decide, by decide⟩
theorem fr_RX4_21 : FR RX4 21 4 6 := ⟨RX4, TX4, 11, tyX4, tyX4 6, rfl, by decide, wf_4, rfl, q_124, tyX4_ok, nmX4, rfl, rfl, by decide +kernel, fun _ => rfl, fun _ => rfl, by decide, by decide⟩
theorem fr_RX4_24 : FR RX4 24 4 7 := ⟨RX4, TX4, 11, tyX4, tyX4 7, rfl, by decide, wf_4, rfl, q_126, tyX4_ok, nmX4, rfl, rfl, by decide +kernel, fun _ => rfl, fun _ => rfl, by decide, by decide⟩
theorem fr_RX4_28 : FR RX4 28 4 8 := ⟨RX4, TX4, 11, tyX4, tyX4 8, rfl, by decide, wf_4, rfl, q_128, tyX4_ok, nmX4, rfl, rfl, by decide +kernel, fun _ => rfl, fun _ => rfl, by decide, by decide⟩
theorem fr_RX4_31 : FR RX4 31 4 9 := ⟨RX4, TX4, 11, tyX4, tyX4 9, rfl, by decide, wf_4, rfl, q_130, tyX4_ok, nmX4, rfl, rfl, by decide +kernel, fun _ => rfl, fun _ => rfl, by decide, by decide⟩
theorem fr_RX4_37 : FR RX4 37 4 10 := ⟨RX4, TX4, 11, tyX4, tyX4 10, rfl, by decide, wf_4, rfl, q_132, tyX4_ok, nmX4, rfl, rfl, by decide +kernel, fun _ => rfl, fun _ => rfl, by decide, by decide⟩
theorem fr_RX4_9 : FR RX4 9 4 3 := ⟨RX4, TX4, 11, tyX4, tyX4 3, rfl, by decide, wf_4, rfl, q_116, tyX4_ok, nmX4, rfl, rfl, by decide +kernel, fun _ => rfl, fun _ => rfl, by decide, by decide⟩
theorem fr_RX5_15 : FR RX5 15 5 1 := ⟨RX5, TX5, 3, tyX5, tyX5 1, rfl, by decide, wf_5, rfl, q_330, tyX5_ok, nmX5, rfl, rfl, by decide +kernel, fun _ => rfl, fun _ => rfl, by decide, by decide⟩
theorem fr_RX5_18 : FR RX5 18 5 2 := ⟨RX5, TX5, 3, tyX5, tyX5 2, rfl, by decide, wf_5, rfl, q_332, tyX5_ok, nmX5, rfl, rfl, by decide +kernel, fun _ => rfl, fun _ => rfl, by decide, by decide⟩
theorem fr_RX5_9 : FR RX5 9 5 0 := ⟨RX5, TX5, 3, tyX5, tyX5 0, rfl, by decide, wf_5, rfl, q_328, tyX5_ok, nmX5, rfl, rfl, by decide +kernel, fun _ => rfl, fun _ => rfl, by decide, by decide⟩
theorem fr_RX6_15 : FR RX6 15 6 3 := ⟨RX6, TX6, 8, tyX6, tyX6 3, rfl, by decide, wf_6, rfl, q_195, tyX6_ok, nmX6, rfl, rfl, by decide +kernel, fun _ => rfl, fun _ => rfl, by decide, by decide⟩
theorem fr_RX6_18 : FR RX6 18 6 4 := ⟨RX6, TX6, 8, tyX6, tyX6 4, rfl, by decide, wf_6, rfl, q_198, tyX6_ok, nmX6, rfl, rfl, by decide +kernel, fun _ => rfl, fun _ => rfl, by decide, by decide⟩
theorem fr_RX6_22 : FR RX6 22 6 5 := ⟨RX6, TX6, 8, tyX6, tyX6 5, rfl, by decide, wf_6, rfl, q_201, tyX6_ok, nmX6, rfl, rfl, by decide +kernel, fun _ => rfl, fun _ => rfl, by decide, by decide⟩
theorem fr_RX6_25 : FR RX6 25 6 6 := ⟨RX6, TX6, 8, tyX6, tyX6 6, rfl, by decide, wf_6, rfl, q_203, tyX6_ok, nmX6, rfl, rfl, by decide +kernel, fun _ => rfl, fun _ => rfl, by decide, by decide⟩
theorem fr_RX6_28 : FR RX6 28 6 7 := ⟨RX6, TX6, 8, tyX6, tyX6 7, rfl, by decide, wf_6, rfl, q_206, tyX6_ok, nmX6, rfl, rfl, by decide +kernel, fun _ => rfl, fun _ => rfl, by decide, by decide⟩
theorem fr_RX6_9 : FR RX6 9 6 2 := ⟨RX6, TX6, 8, tyX6, tyX6 2, rfl, by decide, wf_6, rfl, q_192, tyX6_ok, nmX6, rfl, rfl, by decide +kernel, fun _ => rfl, fun _ => rfl, by decide, by decide⟩
theorem fr_RX7_15 : FR RX7 15 7 2 := ⟨RX7, TX7, 3, tyX7, tyX7 2, rfl, by decide, wf_7, rfl, q_172, tyX7_ok, nmX7, rfl, rfl, by decide +kernel, fun _ => rfl, fun _ => rfl, by decide, by decide⟩
theorem fr_RX7_9 : FR RX7 9 7 1 := ⟨RX7, TX7, 3, tyX7, tyX7 1, rfl, by decide, wf_7, rfl, q_168, tyX7_ok, nmX7, rfl, rfl, by decide +kernel, fun _ => rfl, fun _ => rfl, by decide, by decide⟩
theorem fr_RX8_15 : FR RX8 15 8 2 := ⟨RX8, TX8, 9, tyX8, tyX8 2, rfl, by decide, wf_8, rfl, q_237, tyX8_ok, nmX8, rfl, rfl, by decide +kernel, fun _ => rfl, fun _ => rfl, by decide, by decide⟩
theorem fr_RX8_18 : FR RX8 18 8 3 := ⟨RX8, TX8, 9, tyX8, tyX8 3, rfl, by decide, wf_8, rfl, q_239, tyX8_ok, nmX8, rfl, rfl, by decide +kernel, fun _ => rfl, fun _ => rfl, by decide, by decide⟩
theorem fr_RX8_21 : FR RX8 21 8 5 := ⟨RX8, TX8, 9, tyX8, tyX8 5, rfl, by decide, wf_8, rfl, q_242, tyX8_ok, nmX8, rfl, rfl, by decide +kernel, fun _ => rfl, fun _ => rfl, by decide, by decide⟩
theorem fr_RX8_25 : FR RX8 25 8 6 := ⟨RX8, TX8, 9, tyX8, tyX8 6, rfl, by decide, wf_8, rfl, q_243, tyX8_ok, nmX8, rfl, rfl, by decide +kernel, fun _ => rfl, fun _ => rfl, by decide, by decide⟩
theorem fr_RX8_28 : FR RX8 28 8 7 := ⟨RX8, TX8, 9, tyX8, tyX8 7, rfl, by decide, wf_8, rfl, q_244, tyX8_ok, nmX8, rfl, rfl, by decide +kernel, fun _ => rfl, fun _ => rfl, by decide, by decide⟩
theorem fr_RX8_31 : FR RX8 31 8 8 := ⟨RX8, TX8, 9, tyX8, tyX8 8, rfl, by decide, wf_8, rfl, q_245, tyX8_ok, nmX8, rfl, rfl, by decide +kernel, fun _ => rfl, fun _ => rfl, by decide, by decide⟩
theorem fr_RX8_9 : FR RX8 9 8 1 := ⟨RX8, TX8, 9, tyX8, tyX8 1, rfl, by decide, wf_8, rfl, q_235, tyX8_ok, nmX8, rfl, rfl, by decide +kernel, fun _ => rfl, fun _ => rfl, by decide, by decide⟩
theorem fr_RX9_12 : FR RX9 12 9 0 := ⟨RX9, TX9, 16, tyX9, tyX9 0, rfl, by decide, wf_9, rfl, q_341, tyX9_ok, nmX9, rfl, rfl, by decide +kernel, fun _ => rfl, fun _ => rfl, by decide, by decide⟩
theorem fr_RX9_16 : FR RX9 16 9 1 := ⟨RX9, TX9, 16, tyX9, tyX9 1, rfl, by decide, wf_9, rfl, q_342, tyX9_ok, nmX9, rfl, rfl, by decide +kernel, fun _ => rfl, fun _ => rfl, by decide, by decide⟩
theorem fr_RX9_19 : FR RX9 19 9 2 := ⟨RX9, TX9, 16, tyX9, tyX9 2, rfl, by decide, wf_9, rfl, q_343, tyX9_ok, nmX9, rfl, rfl, by decide +kernel, fun _ => rfl, fun _ => rfl, by decide, by decide⟩
theorem fr_RX9_25 : FR RX9 25 9 3 := ⟨RX9, TX9, 16, tyX9, tyX9 3, rfl, by decide, wf_9, rfl, q_344, tyX9_ok, nmX9, rfl, rfl, by decide +kernel, fun _ => rfl, fun _ => rfl, by decide, by decide⟩
theorem fr_RX9_29 : FR RX9 29 9 4 := ⟨RX9, TX9, 16, tyX9, tyX9 4, rfl, by decide, wf_9, rfl, q_345, tyX9_ok, nmX9, rfl, rfl, by decide +kernel, fun _ => rfl, fun _ => rfl, by decide, by decide⟩
theorem fr_RX9_35 : FR RX9 35 9 5 := ⟨RX9, TX9, 16, tyX9, tyX9 5, rfl, by decide, wf_9, rfl, q_346, tyX9_ok, nmX9, rfl, rfl, by decide +kernel, fun _ => rfl, fun _ => rfl, by decide, by decide⟩
theorem fr_RX9_42 : FR RX9 42 9 6 := ⟨RX9, TX9, 16, tyX9, tyX9 6, rfl, by decide, wf_9, rfl, q_347, tyX9_ok, nmX9, rfl, rfl, by decide +kernel, fun _ => rfl, fun _ => rfl, by decide, by decide⟩
theorem fr_RX9_49 : FR RX9 49 9 7 := ⟨RX9, TX9, 16, tyX9, tyX9 7, rfl, by decide, wf_9, rfl, q_348, tyX9_ok, nmX9, rfl, rfl, by decide +kernel, fun _ => rfl, fun _ => rfl, by decide, by decide⟩
theorem fr_RX9_56 : FR RX9 56 9 8 := ⟨RX9, TX9, 16, tyX9, tyX9 8, rfl, by decide, wf_9, rfl, q_349, tyX9_ok, nmX9, rfl, rfl, by decide +kernel, fun _ => rfl, fun _ => rfl, by decide, by decide⟩
theorem fr_RX9_63 : FR RX9 63 9 9 := ⟨RX9, TX9, 16, tyX9, tyX9 9, rfl, by decide, wf_9, rfl, q_350, tyX9_ok, nmX9, rfl, rfl, by decide +kernel, fun _ => rfl, fun _ => rfl, by decide, by decide⟩
theorem fr_RX9_70 : FR RX9 70 9 10 := ⟨RX9, TX9, 16, tyX9, tyX9 10, rfl, by decide, wf_9, rfl, q_351, tyX9_ok, nmX9, rfl, rfl, by decide +kernel, fun _ => rfl, fun _ => rfl, by decide, by decide⟩
theorem fr_RX9_77 : FR RX9 77 9 11 := ⟨RX9, TX9, 16, tyX9, tyX9 11, rfl, by decide, wf_9, rfl, q_352, tyX9_ok, nmX9, rfl, rfl, by decide +kernel, fun _ => rfl, fun _ => rfl, by decide, by decide⟩
theorem nw_RL_10 : NW RL 10 10 := ⟨RX10, TX10, 48, tyX10, rfl, rfl, wf_10, tyX10_ok, q_876, q_877, q_11, df_10⟩
theorem nw_RL_7 : NW RL 7 9 := ⟨RX9, TX9, 16, tyX9, rfl, rfl, wf_9, tyX9_ok, q_16, q_17, q_1, df_9⟩
theorem nw_RX4_34 : NW RX4 34 3 := ⟨RX3, TX3, 5, tyX3, rfl, rfl, wf_3, tyX3_ok, q_76, q_77, q_4, df_3⟩
theorem nw_RX9_22 : NW RX9 22 4 := ⟨RX4, TX4, 11, tyX4, rfl, rfl, wf_4, tyX4_ok, q_70, q_71, q_3, df_4⟩
theorem nw_RX9_32 : NW RX9 32 3 := ⟨RX3, TX3, 5, tyX3, rfl, rfl, wf_3, tyX3_ok, q_156, q_77, q_4, df_3⟩
theorem nw_RX9_39 : NW RX9 39 7 := ⟨RX7, TX7, 3, tyX7, rfl, rfl, wf_7, tyX7_ok, q_158, q_159, q_5, df_7⟩
theorem nw_RX9_46 : NW RX9 46 6 := ⟨RX6, TX6, 8, tyX6, rfl, rfl, wf_6, tyX6_ok, q_180, q_181, q_6, df_6⟩
theorem nw_RX9_53 : NW RX9 53 8 := ⟨RX8, TX8, 9, tyX8, rfl, rfl, wf_8, tyX8_ok, q_227, q_228, q_7, df_8⟩
theorem nw_RX9_60 : NW RX9 60 0 := ⟨RX0, TX0, 7, tyX0, rfl, rfl, wf_0, tyX0_ok, q_265, q_266, q_8, df_0⟩
theorem nw_RX9_67 : NW RX9 67 1 := ⟨RX1, TX1, 5, tyX1, rfl, rfl, wf_1, tyX1_ok, q_299, q_300, q_9, df_1⟩
theorem nw_RX9_74 : NW RX9 74 5 := ⟨RX5, TX5, 3, tyX5, rfl, rfl, wf_5, tyX5_ok, q_322, q_323, q_10, df_5⟩
theorem nw_RX9_9 : NW RX9 9 2 := ⟨RX2, TX2, 5, tyX2, rfl, rfl, wf_2, tyX2_ok, q_24, q_25, q_2, df_2⟩
theorem c_1 : EvC mX2_init 1 1 2 6 (nulN 0) z0 (fun _ nul' σ' => nul' = nulN 4 ∧ σ' = z0) := by
  refine EvC_of (by decide +kernel) rfl rfl (by decide) (by decide) ?_
  refine Cv_aload_n dX2_init_0 0 rfl ?_
  refine Cv_obj dX2_init_1 ⟨q_29, q_22, q_23⟩ (by decide) (Nat.le_of_ble_eq_true rfl) ?_
  refine Cv_aload_n dX2_init_4 0 rfl ?_
  refine Cv_bipush (v := 10) dX2_init_5 (by decide +kernel) ?_
  refine Cv_nai (v := 2) dX2_init_7 q_69 sh_2 rfl (by decide) (fun k => z0_z 2 k (by omega)) (by decide) rfl ?_
  refine Cv_putr 1 dX2_init_9 fr_RX2_9 rfl sh_1 (by decide) rfl rfl ?_
  rw [nulN_set (j := 0) (c := 1) (k := 1) rfl]
  refine Cv_aload_n dX2_init_12 0 rfl ?_
  refine Cv_bipush (v := 10) dX2_init_13 (by decide +kernel) ?_
  refine Cv_nai (v := 3) dX2_init_15 q_69 sh_3 rfl (by decide) (fun k => z0_z 3 k (by omega)) (by decide) rfl ?_
  refine Cv_putr 1 dX2_init_17 fr_RX2_15 rfl sh_1 (by decide) rfl rfl ?_
  rw [nulN_set (j := 1) (c := 1) (k := 2) rfl]
  refine Cv_aload_n dX2_init_20 0 rfl ?_
  refine Cv_bipush (v := 10) dX2_init_21 (by decide +kernel) ?_
  refine Cv_nai (v := 4) dX2_init_23 q_69 sh_4 rfl (by decide) (fun k => z0_z 4 k (by omega)) (by decide) rfl ?_
  refine Cv_putr 1 dX2_init_25 fr_RX2_18 rfl sh_1 (by decide) rfl rfl ?_
  rw [nulN_set (j := 2) (c := 1) (k := 3) rfl]
  refine Cv_aload_n dX2_init_28 0 rfl ?_
  refine Cv_bipush (v := 10) dX2_init_29 (by decide +kernel) ?_
  refine Cv_nai (v := 5) dX2_init_31 q_69 sh_5 rfl (by decide) (fun k => z0_z 5 k (by omega)) (by decide) rfl ?_
  refine Cv_putr 1 dX2_init_33 fr_RX2_21 rfl sh_1 (by decide) rfl rfl ?_
  rw [nulN_set (j := 3) (c := 1) (k := 4) rfl]
  exact Cv_ret dX2_init_36 ⟨rfl, rfl⟩
theorem c_6 : EvC mX2_init 1 6 7 11 (nulN 5) z0 (fun _ nul' σ' => nul' = nulN 9 ∧ σ' = z0) := by
  refine EvC_of (by decide +kernel) rfl rfl (by decide) (by decide) ?_
  refine Cv_aload_n dX2_init_0 0 rfl ?_
  refine Cv_obj dX2_init_1 ⟨q_29, q_22, q_23⟩ (by decide) (Nat.le_of_ble_eq_true rfl) ?_
  refine Cv_aload_n dX2_init_4 0 rfl ?_
  refine Cv_bipush (v := 10) dX2_init_5 (by decide +kernel) ?_
  refine Cv_nai (v := 7) dX2_init_7 q_69 sh_7 rfl (by decide) (fun k => z0_z 7 k (by omega)) (by decide) rfl ?_
  refine Cv_putr 6 dX2_init_9 fr_RX2_9 rfl sh_6 (by decide) rfl rfl ?_
  rw [nulN_set (j := 5) (c := 6) (k := 1) rfl]
  refine Cv_aload_n dX2_init_12 0 rfl ?_
  refine Cv_bipush (v := 10) dX2_init_13 (by decide +kernel) ?_
  refine Cv_nai (v := 8) dX2_init_15 q_69 sh_8 rfl (by decide) (fun k => z0_z 8 k (by omega)) (by decide) rfl ?_
  refine Cv_putr 6 dX2_init_17 fr_RX2_15 rfl sh_6 (by decide) rfl rfl ?_
  rw [nulN_set (j := 6) (c := 6) (k := 2) rfl]
  refine Cv_aload_n dX2_init_20 0 rfl ?_
  refine Cv_bipush (v := 10) dX2_init_21 (by decide +kernel) ?_
  refine Cv_nai (v := 9) dX2_init_23 q_69 sh_9 rfl (by decide) (fun k => z0_z 9 k (by omega)) (by decide) rfl ?_
  refine Cv_putr 6 dX2_init_25 fr_RX2_18 rfl sh_6 (by decide) rfl rfl ?_
  rw [nulN_set (j := 7) (c := 6) (k := 3) rfl]
  refine Cv_aload_n dX2_init_28 0 rfl ?_
  refine Cv_bipush (v := 10) dX2_init_29 (by decide +kernel) ?_
  refine Cv_nai (v := 10) dX2_init_31 q_69 sh_10 rfl (by decide) (fun k => z0_z 10 k (by omega)) (by decide) rfl ?_
  refine Cv_putr 6 dX2_init_33 fr_RX2_21 rfl sh_6 (by decide) rfl rfl ?_
  rw [nulN_set (j := 8) (c := 6) (k := 4) rfl]
  exact Cv_ret dX2_init_36 ⟨rfl, rfl⟩
theorem c_11 : EvC mX2_init 1 11 12 16 (nulN 10) z0 (fun _ nul' σ' => nul' = nulN 14 ∧ σ' = z0) := by
  refine EvC_of (by decide +kernel) rfl rfl (by decide) (by decide) ?_
  refine Cv_aload_n dX2_init_0 0 rfl ?_
  refine Cv_obj dX2_init_1 ⟨q_29, q_22, q_23⟩ (by decide) (Nat.le_of_ble_eq_true rfl) ?_
  refine Cv_aload_n dX2_init_4 0 rfl ?_
  refine Cv_bipush (v := 10) dX2_init_5 (by decide +kernel) ?_
  refine Cv_nai (v := 12) dX2_init_7 q_69 sh_12 rfl (by decide) (fun k => z0_z 12 k (by omega)) (by decide) rfl ?_
  refine Cv_putr 11 dX2_init_9 fr_RX2_9 rfl sh_11 (by decide) rfl rfl ?_
  rw [nulN_set (j := 10) (c := 11) (k := 1) rfl]
  refine Cv_aload_n dX2_init_12 0 rfl ?_
  refine Cv_bipush (v := 10) dX2_init_13 (by decide +kernel) ?_
  refine Cv_nai (v := 13) dX2_init_15 q_69 sh_13 rfl (by decide) (fun k => z0_z 13 k (by omega)) (by decide) rfl ?_
  refine Cv_putr 11 dX2_init_17 fr_RX2_15 rfl sh_11 (by decide) rfl rfl ?_
  rw [nulN_set (j := 11) (c := 11) (k := 2) rfl]
  refine Cv_aload_n dX2_init_20 0 rfl ?_
  refine Cv_bipush (v := 10) dX2_init_21 (by decide +kernel) ?_
  refine Cv_nai (v := 14) dX2_init_23 q_69 sh_14 rfl (by decide) (fun k => z0_z 14 k (by omega)) (by decide) rfl ?_
  refine Cv_putr 11 dX2_init_25 fr_RX2_18 rfl sh_11 (by decide) rfl rfl ?_
  rw [nulN_set (j := 12) (c := 11) (k := 3) rfl]
  refine Cv_aload_n dX2_init_28 0 rfl ?_
  refine Cv_bipush (v := 10) dX2_init_29 (by decide +kernel) ?_
  refine Cv_nai (v := 15) dX2_init_31 q_69 sh_15 rfl (by decide) (fun k => z0_z 15 k (by omega)) (by decide) rfl ?_
  refine Cv_putr 11 dX2_init_33 fr_RX2_21 rfl sh_11 (by decide) rfl rfl ?_
  rw [nulN_set (j := 13) (c := 11) (k := 4) rfl]
  exact Cv_ret dX2_init_36 ⟨rfl, rfl⟩
theorem c_24 : EvC mX3_init 1 24 25 25 (nulN 22) z0 (fun _ nul' σ' => nul' = nulN 22 ∧ σ' = z0) := by
  refine EvC_of (by decide +kernel) rfl rfl (by decide) (by decide) ?_
  refine Cv_aload_n dX3_init_0 0 rfl ?_
  refine Cv_obj dX3_init_1 ⟨q_81, q_22, q_23⟩ (by decide) (Nat.le_of_ble_eq_true rfl) ?_
  exact Cv_ret dX3_init_4 ⟨rfl, rfl⟩
theorem c_16 : EvC mX4_init 2 16 17 25 (nulN 15) z0 (fun _ nul' σ' => nul' = nulN 23 ∧ σ' = z0) := by
  refine EvC_of (by decide +kernel) rfl rfl (by decide) (by decide) ?_
  refine Cv_aload_n dX4_init_0 0 rfl ?_
  refine Cv_obj dX4_init_1 ⟨q_75, q_22, q_23⟩ (by decide) (Nat.le_of_ble_eq_true rfl) ?_
  refine Cv_aload_n dX4_init_4 0 rfl ?_
  refine Cv_bipush (v := 65) dX4_init_5 (by decide +kernel) ?_
  refine Cv_nal (v := 17) dX4_init_7 q_108 sh_17 rfl (by decide) (fun k => z0_z 17 k (by omega)) (by decide) rfl ?_
  refine Cv_putr 16 dX4_init_9 fr_RX4_9 rfl sh_16 (by decide) rfl rfl ?_
  rw [nulN_set (j := 15) (c := 16) (k := 3) rfl]
  refine Cv_aload_n dX4_init_12 0 rfl ?_
  refine Cv_bipush (v := 65) dX4_init_13 (by decide +kernel) ?_
  refine Cv_nal (v := 18) dX4_init_15 q_108 sh_18 rfl (by decide) (fun k => z0_z 18 k (by omega)) (by decide) rfl ?_
  refine Cv_putr 16 dX4_init_17 fr_RX4_15 rfl sh_16 (by decide) rfl rfl ?_
  rw [nulN_set (j := 16) (c := 16) (k := 4) rfl]
  refine Cv_aload_n dX4_init_20 0 rfl ?_
  refine Cv_bipush (v := 65) dX4_init_21 (by decide +kernel) ?_
  refine Cv_nal (v := 19) dX4_init_23 q_108 sh_19 rfl (by decide) (fun k => z0_z 19 k (by omega)) (by decide) rfl ?_
  refine Cv_putr 16 dX4_init_25 fr_RX4_18 rfl sh_16 (by decide) rfl rfl ?_
  rw [nulN_set (j := 17) (c := 16) (k := 5) rfl]
  refine Cv_aload_n dX4_init_28 0 rfl ?_
  refine Cv_bipush (v := 65) dX4_init_29 (by decide +kernel) ?_
  refine Cv_nal (v := 20) dX4_init_31 q_108 sh_20 rfl (by decide) (fun k => z0_z 20 k (by omega)) (by decide) rfl ?_
  refine Cv_putr 16 dX4_init_33 fr_RX4_21 rfl sh_16 (by decide) rfl rfl ?_
  rw [nulN_set (j := 18) (c := 16) (k := 6) rfl]
  refine Cv_aload_n dX4_init_36 0 rfl ?_
  refine Cv_bipush (v := 65) dX4_init_37 (by decide +kernel) ?_
  refine Cv_nai (v := 21) dX4_init_39 q_69 sh_21 rfl (by decide) (fun k => z0_z 21 k (by omega)) (by decide) rfl ?_
  refine Cv_putr 16 dX4_init_41 fr_RX4_24 rfl sh_16 (by decide) rfl rfl ?_
  rw [nulN_set (j := 19) (c := 16) (k := 7) rfl]
  refine Cv_aload_n dX4_init_44 0 rfl ?_
  refine Cv_bipush (v := 65) dX4_init_45 (by decide +kernel) ?_
  refine Cv_nai (v := 22) dX4_init_47 q_69 sh_22 rfl (by decide) (fun k => z0_z 22 k (by omega)) (by decide) rfl ?_
  refine Cv_putr 16 dX4_init_49 fr_RX4_28 rfl sh_16 (by decide) rfl rfl ?_
  rw [nulN_set (j := 20) (c := 16) (k := 8) rfl]
  refine Cv_aload_n dX4_init_52 0 rfl ?_
  refine Cv_iconst (v := 4) dX4_init_53 rfl ⟨by decide, by decide⟩ ?_
  refine Cv_nai (v := 23) dX4_init_54 q_69 sh_23 rfl (by decide) (fun k => z0_z 23 k (by omega)) (by decide) rfl ?_
  refine Cv_putr 16 dX4_init_56 fr_RX4_31 rfl sh_16 (by decide) rfl rfl ?_
  rw [nulN_set (j := 21) (c := 16) (k := 9) rfl]
  refine Cv_aload_n dX4_init_59 0 rfl ?_
  refine Cv_new (v := 24) dX4_init_60 nw_RX4_34 sh_24 (fun k => z0_z 24 k (by omega)) (nulN_new (by decide +kernel)) (by decide) rfl ?_
  refine Cv_dup dX4_init_63 (show ¬ (2 : Nat) = 1 by decide) ?_
  refine Cv_inv (d' := 1) 24 dX4_init_64 MI_X3 (Or.inr ⟨_, q_78⟩) (by decide) rfl (Nat.le_of_ble_eq_true rfl) c_24 (by decide) (by decide) (by decide) ?_
  rintro _ _ ⟨rfl, rfl⟩
  refine Cv_putr 16 dX4_init_67 fr_RX4_37 rfl sh_16 (by decide) rfl rfl ?_
  rw [nulN_set (j := 22) (c := 16) (k := 10) rfl]
  exact Cv_ret dX4_init_70 ⟨rfl, rfl⟩
theorem c_33 : EvC mX3_init 1 33 34 34 (nulN 31) z0 (fun _ nul' σ' => nul' = nulN 31 ∧ σ' = z0) := by
  refine EvC_of (by decide +kernel) rfl rfl (by decide) (by decide) ?_
  refine Cv_aload_n dX3_init_0 0 rfl ?_
  refine Cv_obj dX3_init_1 ⟨q_81, q_22, q_23⟩ (by decide) (Nat.le_of_ble_eq_true rfl) ?_
  exact Cv_ret dX3_init_4 ⟨rfl, rfl⟩
theorem c_25 : EvC mX4_init 2 25 26 34 (nulN 24) z0 (fun _ nul' σ' => nul' = nulN 32 ∧ σ' = z0) := by
  refine EvC_of (by decide +kernel) rfl rfl (by decide) (by decide) ?_
  refine Cv_aload_n dX4_init_0 0 rfl ?_
  refine Cv_obj dX4_init_1 ⟨q_75, q_22, q_23⟩ (by decide) (Nat.le_of_ble_eq_true rfl) ?_
  refine Cv_aload_n dX4_init_4 0 rfl ?_
  refine Cv_bipush (v := 65) dX4_init_5 (by decide +kernel) ?_
  refine Cv_nal (v := 26) dX4_init_7 q_108 sh_26 rfl (by decide) (fun k => z0_z 26 k (by omega)) (by decide) rfl ?_
  refine Cv_putr 25 dX4_init_9 fr_RX4_9 rfl sh_25 (by decide) rfl rfl ?_
  rw [nulN_set (j := 24) (c := 25) (k := 3) rfl]
  refine Cv_aload_n dX4_init_12 0 rfl ?_
  refine Cv_bipush (v := 65) dX4_init_13 (by decide +kernel) ?_
  refine Cv_nal (v := 27) dX4_init_15 q_108 sh_27 rfl (by decide) (fun k => z0_z 27 k (by omega)) (by decide) rfl ?_
  refine Cv_putr 25 dX4_init_17 fr_RX4_15 rfl sh_25 (by decide) rfl rfl ?_
  rw [nulN_set (j := 25) (c := 25) (k := 4) rfl]
  refine Cv_aload_n dX4_init_20 0 rfl ?_
  refine Cv_bipush (v := 65) dX4_init_21 (by decide +kernel) ?_
  refine Cv_nal (v := 28) dX4_init_23 q_108 sh_28 rfl (by decide) (fun k => z0_z 28 k (by omega)) (by decide) rfl ?_
  refine Cv_putr 25 dX4_init_25 fr_RX4_18 rfl sh_25 (by decide) rfl rfl ?_
  rw [nulN_set (j := 26) (c := 25) (k := 5) rfl]
  refine Cv_aload_n dX4_init_28 0 rfl ?_
  refine Cv_bipush (v := 65) dX4_init_29 (by decide +kernel) ?_
  refine Cv_nal (v := 29) dX4_init_31 q_108 sh_29 rfl (by decide) (fun k => z0_z 29 k (by omega)) (by decide) rfl ?_
  refine Cv_putr 25 dX4_init_33 fr_RX4_21 rfl sh_25 (by decide) rfl rfl ?_
  rw [nulN_set (j := 27) (c := 25) (k := 6) rfl]
  refine Cv_aload_n dX4_init_36 0 rfl ?_
  refine Cv_bipush (v := 65) dX4_init_37 (by decide +kernel) ?_
  refine Cv_nai (v := 30) dX4_init_39 q_69 sh_30 rfl (by decide) (fun k => z0_z 30 k (by omega)) (by decide) rfl ?_
  refine Cv_putr 25 dX4_init_41 fr_RX4_24 rfl sh_25 (by decide) rfl rfl ?_
  rw [nulN_set (j := 28) (c := 25) (k := 7) rfl]
  refine Cv_aload_n dX4_init_44 0 rfl ?_
  refine Cv_bipush (v := 65) dX4_init_45 (by decide +kernel) ?_
  refine Cv_nai (v := 31) dX4_init_47 q_69 sh_31 rfl (by decide) (fun k => z0_z 31 k (by omega)) (by decide) rfl ?_
  refine Cv_putr 25 dX4_init_49 fr_RX4_28 rfl sh_25 (by decide) rfl rfl ?_
  rw [nulN_set (j := 29) (c := 25) (k := 8) rfl]
  refine Cv_aload_n dX4_init_52 0 rfl ?_
  refine Cv_iconst (v := 4) dX4_init_53 rfl ⟨by decide, by decide⟩ ?_
  refine Cv_nai (v := 32) dX4_init_54 q_69 sh_32 rfl (by decide) (fun k => z0_z 32 k (by omega)) (by decide) rfl ?_
  refine Cv_putr 25 dX4_init_56 fr_RX4_31 rfl sh_25 (by decide) rfl rfl ?_
  rw [nulN_set (j := 30) (c := 25) (k := 9) rfl]
  refine Cv_aload_n dX4_init_59 0 rfl ?_
  refine Cv_new (v := 33) dX4_init_60 nw_RX4_34 sh_33 (fun k => z0_z 33 k (by omega)) (nulN_new (by decide +kernel)) (by decide) rfl ?_
  refine Cv_dup dX4_init_63 (show ¬ (2 : Nat) = 1 by decide) ?_
  refine Cv_inv (d' := 1) 33 dX4_init_64 MI_X3 (Or.inr ⟨_, q_78⟩) (by decide) rfl (Nat.le_of_ble_eq_true rfl) c_33 (by decide) (by decide) (by decide) ?_
  rintro _ _ ⟨rfl, rfl⟩
  refine Cv_putr 25 dX4_init_67 fr_RX4_37 rfl sh_25 (by decide) rfl rfl ?_
  rw [nulN_set (j := 31) (c := 25) (k := 10) rfl]
  exact Cv_ret dX4_init_70 ⟨rfl, rfl⟩
theorem c_34 : EvC mX3_init 1 34 35 35 (nulN 33) z0 (fun _ nul' σ' => nul' = nulN 33 ∧ σ' = z0) := by
  refine EvC_of (by decide +kernel) rfl rfl (by decide) (by decide) ?_
  refine Cv_aload_n dX3_init_0 0 rfl ?_
  refine Cv_obj dX3_init_1 ⟨q_81, q_22, q_23⟩ (by decide) (Nat.le_of_ble_eq_true rfl) ?_
  exact Cv_ret dX3_init_4 ⟨rfl, rfl⟩
theorem c_35 : EvC mX7_init 1 35 36 38 (nulN 34) z0 (fun _ nul' σ' => nul' = nulN 36 ∧ σ' = z0) := by
  refine EvC_of (by decide +kernel) rfl rfl (by decide) (by decide) ?_
  refine Cv_aload_n dX7_init_0 0 rfl ?_
  refine Cv_obj dX7_init_1 ⟨q_163, q_22, q_23⟩ (by decide) (Nat.le_of_ble_eq_true rfl) ?_
  refine Cv_aload_n dX7_init_4 0 rfl ?_
  refine Cv_bipush (v := 10) dX7_init_5 (by decide +kernel) ?_
  refine Cv_nai (v := 36) dX7_init_7 q_69 sh_36 rfl (by decide) (fun k => z0_z 36 k (by omega)) (by decide) rfl ?_
  refine Cv_putr 35 dX7_init_9 fr_RX7_9 rfl sh_35 (by decide) rfl rfl ?_
  rw [nulN_set (j := 34) (c := 35) (k := 1) rfl]
  refine Cv_aload_n dX7_init_12 0 rfl ?_
  refine Cv_bipush (v := 10) dX7_init_13 (by decide +kernel) ?_
  refine Cv_nal (v := 37) dX7_init_15 q_108 sh_37 rfl (by decide) (fun k => z0_z 37 k (by omega)) (by decide) rfl ?_
  refine Cv_putr 35 dX7_init_17 fr_RX7_15 rfl sh_35 (by decide) rfl rfl ?_
  rw [nulN_set (j := 35) (c := 35) (k := 2) rfl]
  exact Cv_ret dX7_init_20 ⟨rfl, rfl⟩
theorem c_38 : EvC mX6_init 1 38 39 45 (nulN 37) z0 (fun _ nul' σ' => nul' = nulN 43 ∧ σ' = z0) := by
  refine EvC_of (by decide +kernel) rfl rfl (by decide) (by decide) ?_
  refine Cv_aload_n dX6_init_0 0 rfl ?_
  refine Cv_obj dX6_init_1 ⟨q_185, q_22, q_23⟩ (by decide) (Nat.le_of_ble_eq_true rfl) ?_
  refine Cv_aload_n dX6_init_4 0 rfl ?_
  refine Cv_bipush (v := 65) dX6_init_5 (by decide +kernel) ?_
  refine Cv_nal (v := 39) dX6_init_7 q_108 sh_39 rfl (by decide) (fun k => z0_z 39 k (by omega)) (by decide) rfl ?_
  refine Cv_putr 38 dX6_init_9 fr_RX6_9 rfl sh_38 (by decide) rfl rfl ?_
  rw [nulN_set (j := 37) (c := 38) (k := 2) rfl]
  refine Cv_aload_n dX6_init_12 0 rfl ?_
  refine Cv_bipush (v := 65) dX6_init_13 (by decide +kernel) ?_
  refine Cv_nal (v := 40) dX6_init_15 q_108 sh_40 rfl (by decide) (fun k => z0_z 40 k (by omega)) (by decide) rfl ?_
  refine Cv_putr 38 dX6_init_17 fr_RX6_15 rfl sh_38 (by decide) rfl rfl ?_
  rw [nulN_set (j := 38) (c := 38) (k := 3) rfl]
  refine Cv_aload_n dX6_init_20 0 rfl ?_
  refine Cv_bipush (v := 67) dX6_init_21 (by decide +kernel) ?_
  refine Cv_nai (v := 41) dX6_init_23 q_69 sh_41 rfl (by decide) (fun k => z0_z 41 k (by omega)) (by decide) rfl ?_
  refine Cv_putr 38 dX6_init_25 fr_RX6_18 rfl sh_38 (by decide) rfl rfl ?_
  rw [nulN_set (j := 39) (c := 38) (k := 4) rfl]
  refine Cv_aload_n dX6_init_28 0 rfl ?_
  refine Cv_sipush (v := 726) dX6_init_29 (by decide +kernel) ?_
  refine Cv_nai (v := 42) dX6_init_32 q_69 sh_42 rfl (by decide) (fun k => z0_z 42 k (by omega)) (by decide) rfl ?_
  refine Cv_putr 38 dX6_init_34 fr_RX6_22 rfl sh_38 (by decide) rfl rfl ?_
  rw [nulN_set (j := 40) (c := 38) (k := 5) rfl]
  refine Cv_aload_n dX6_init_37 0 rfl ?_
  refine Cv_sipush (v := 726) dX6_init_38 (by decide +kernel) ?_
  refine Cv_nai (v := 43) dX6_init_41 q_69 sh_43 rfl (by decide) (fun k => z0_z 43 k (by omega)) (by decide) rfl ?_
  refine Cv_putr 38 dX6_init_43 fr_RX6_25 rfl sh_38 (by decide) rfl rfl ?_
  rw [nulN_set (j := 41) (c := 38) (k := 6) rfl]
  refine Cv_aload_n dX6_init_46 0 rfl ?_
  refine Cv_sipush (v := 726) dX6_init_47 (by decide +kernel) ?_
  refine Cv_nai (v := 44) dX6_init_50 q_69 sh_44 rfl (by decide) (fun k => z0_z 44 k (by omega)) (by decide) rfl ?_
  refine Cv_putr 38 dX6_init_52 fr_RX6_28 rfl sh_38 (by decide) rfl rfl ?_
  rw [nulN_set (j := 42) (c := 38) (k := 7) rfl]
  exact Cv_ret dX6_init_55 ⟨rfl, rfl⟩
theorem c_45 : EvC mX8_init 1 45 46 53 (nulN 44) z0 (fun _ nul' σ' => nul' = nulN 51 ∧ σ' = z0) := by
  refine EvC_of (by decide +kernel) rfl rfl (by decide) (by decide) ?_
  refine Cv_aload_n dX8_init_0 0 rfl ?_
  refine Cv_obj dX8_init_1 ⟨q_232, q_22, q_23⟩ (by decide) (Nat.le_of_ble_eq_true rfl) ?_
  refine Cv_aload_n dX8_init_4 0 rfl ?_
  refine Cv_sipush (v := 725) dX8_init_5 (by decide +kernel) ?_
  refine Cv_nai (v := 46) dX8_init_8 q_69 sh_46 rfl (by decide) (fun k => z0_z 46 k (by omega)) (by decide) rfl ?_
  refine Cv_putr 45 dX8_init_10 fr_RX8_9 rfl sh_45 (by decide) rfl rfl ?_
  rw [nulN_set (j := 44) (c := 45) (k := 1) rfl]
  refine Cv_aload_n dX8_init_13 0 rfl ?_
  refine Cv_sipush (v := 725) dX8_init_14 (by decide +kernel) ?_
  refine Cv_nai (v := 47) dX8_init_17 q_69 sh_47 rfl (by decide) (fun k => z0_z 47 k (by omega)) (by decide) rfl ?_
  refine Cv_putr 45 dX8_init_19 fr_RX8_15 rfl sh_45 (by decide) rfl rfl ?_
  rw [nulN_set (j := 45) (c := 45) (k := 2) rfl]
  refine Cv_aload_n dX8_init_22 0 rfl ?_
  refine Cv_sipush (v := 725) dX8_init_23 (by decide +kernel) ?_
  refine Cv_nai (v := 48) dX8_init_26 q_69 sh_48 rfl (by decide) (fun k => z0_z 48 k (by omega)) (by decide) rfl ?_
  refine Cv_putr 45 dX8_init_28 fr_RX8_18 rfl sh_45 (by decide) rfl rfl ?_
  rw [nulN_set (j := 46) (c := 45) (k := 3) rfl]
  refine Cv_aload_n dX8_init_31 0 rfl ?_
  refine Cv_bipush (v := 20) dX8_init_32 (by decide +kernel) ?_
  refine Cv_nal (v := 49) dX8_init_34 q_108 sh_49 rfl (by decide) (fun k => z0_z 49 k (by omega)) (by decide) rfl ?_
  refine Cv_putr 45 dX8_init_36 fr_RX8_21 rfl sh_45 (by decide) rfl rfl ?_
  rw [nulN_set (j := 47) (c := 45) (k := 5) rfl]
  refine Cv_aload_n dX8_init_39 0 rfl ?_
  refine Cv_bipush (v := 20) dX8_init_40 (by decide +kernel) ?_
  refine Cv_nal (v := 50) dX8_init_42 q_108 sh_50 rfl (by decide) (fun k => z0_z 50 k (by omega)) (by decide) rfl ?_
  refine Cv_putr 45 dX8_init_44 fr_RX8_25 rfl sh_45 (by decide) rfl rfl ?_
  rw [nulN_set (j := 48) (c := 45) (k := 6) rfl]
  refine Cv_aload_n dX8_init_47 0 rfl ?_
  refine Cv_bipush (v := 10) dX8_init_48 (by decide +kernel) ?_
  refine Cv_nai (v := 51) dX8_init_50 q_69 sh_51 rfl (by decide) (fun k => z0_z 51 k (by omega)) (by decide) rfl ?_
  refine Cv_putr 45 dX8_init_52 fr_RX8_28 rfl sh_45 (by decide) rfl rfl ?_
  rw [nulN_set (j := 49) (c := 45) (k := 7) rfl]
  refine Cv_aload_n dX8_init_55 0 rfl ?_
  refine Cv_bipush (v := 10) dX8_init_56 (by decide +kernel) ?_
  refine Cv_nai (v := 52) dX8_init_58 q_69 sh_52 rfl (by decide) (fun k => z0_z 52 k (by omega)) (by decide) rfl ?_
  refine Cv_putr 45 dX8_init_60 fr_RX8_31 rfl sh_45 (by decide) rfl rfl ?_
  rw [nulN_set (j := 50) (c := 45) (k := 8) rfl]
  exact Cv_ret dX8_init_63 ⟨rfl, rfl⟩
theorem c_53 : EvC mX0_init 1 53 54 60 (nulN 52) z0 (fun _ nul' σ' => nul' = nulN 58 ∧ σ' = z0) := by
  refine EvC_of (by decide +kernel) rfl rfl (by decide) (by decide) ?_
  refine Cv_aload_n dX0_init_0 0 rfl ?_
  refine Cv_obj dX0_init_1 ⟨q_270, q_22, q_23⟩ (by decide) (Nat.le_of_ble_eq_true rfl) ?_
  refine Cv_aload_n dX0_init_4 0 rfl ?_
  refine Cv_sipush (v := 726) dX0_init_5 (by decide +kernel) ?_
  refine Cv_nai (v := 54) dX0_init_8 q_69 sh_54 rfl (by decide) (fun k => z0_z 54 k (by omega)) (by decide) rfl ?_
  refine Cv_putr 53 dX0_init_10 fr_RX0_9 rfl sh_53 (by decide) rfl rfl ?_
  rw [nulN_set (j := 52) (c := 53) (k := 1) rfl]
  refine Cv_aload_n dX0_init_13 0 rfl ?_
  refine Cv_sipush (v := 726) dX0_init_14 (by decide +kernel) ?_
  refine Cv_nai (v := 55) dX0_init_17 q_69 sh_55 rfl (by decide) (fun k => z0_z 55 k (by omega)) (by decide) rfl ?_
  refine Cv_putr 53 dX0_init_19 fr_RX0_15 rfl sh_53 (by decide) rfl rfl ?_
  rw [nulN_set (j := 53) (c := 53) (k := 2) rfl]
  refine Cv_aload_n dX0_init_22 0 rfl ?_
  refine Cv_bipush (v := 64) dX0_init_23 (by decide +kernel) ?_
  refine Cv_nai (v := 56) dX0_init_25 q_69 sh_56 rfl (by decide) (fun k => z0_z 56 k (by omega)) (by decide) rfl ?_
  refine Cv_putr 53 dX0_init_27 fr_RX0_18 rfl sh_53 (by decide) rfl rfl ?_
  rw [nulN_set (j := 54) (c := 53) (k := 3) rfl]
  refine Cv_aload_n dX0_init_30 0 rfl ?_
  refine Cv_bipush (v := 64) dX0_init_31 (by decide +kernel) ?_
  refine Cv_nai (v := 57) dX0_init_33 q_69 sh_57 rfl (by decide) (fun k => z0_z 57 k (by omega)) (by decide) rfl ?_
  refine Cv_putr 53 dX0_init_35 fr_RX0_21 rfl sh_53 (by decide) rfl rfl ?_
  rw [nulN_set (j := 55) (c := 53) (k := 4) rfl]
  refine Cv_aload_n dX0_init_38 0 rfl ?_
  refine Cv_bipush (v := 64) dX0_init_39 (by decide +kernel) ?_
  refine Cv_nai (v := 58) dX0_init_41 q_69 sh_58 rfl (by decide) (fun k => z0_z 58 k (by omega)) (by decide) rfl ?_
  refine Cv_putr 53 dX0_init_43 fr_RX0_24 rfl sh_53 (by decide) rfl rfl ?_
  rw [nulN_set (j := 56) (c := 53) (k := 5) rfl]
  refine Cv_aload_n dX0_init_46 0 rfl ?_
  refine Cv_bipush (v := 64) dX0_init_47 (by decide +kernel) ?_
  refine Cv_nal (v := 59) dX0_init_49 q_108 sh_59 rfl (by decide) (fun k => z0_z 59 k (by omega)) (by decide) rfl ?_
  refine Cv_putr 53 dX0_init_51 fr_RX0_27 rfl sh_53 (by decide) rfl rfl ?_
  rw [nulN_set (j := 57) (c := 53) (k := 6) rfl]
  exact Cv_ret dX0_init_54 ⟨rfl, rfl⟩
theorem c_60 : EvC mX1_init 1 60 61 64 (nulN 59) z0 (fun _ nul' σ' => nul' = nulN 62 ∧ σ' = z0) := by
  refine EvC_of (by decide +kernel) rfl rfl (by decide) (by decide) ?_
  refine Cv_aload_n dX1_init_0 0 rfl ?_
  refine Cv_obj dX1_init_1 ⟨q_304, q_22, q_23⟩ (by decide) (Nat.le_of_ble_eq_true rfl) ?_
  refine Cv_aload_n dX1_init_4 0 rfl ?_
  refine Cv_bipush (v := 20) dX1_init_5 (by decide +kernel) ?_
  refine Cv_nai (v := 61) dX1_init_7 q_69 sh_61 rfl (by decide) (fun k => z0_z 61 k (by omega)) (by decide) rfl ?_
  refine Cv_putr 60 dX1_init_9 fr_RX1_9 rfl sh_60 (by decide) rfl rfl ?_
  rw [nulN_set (j := 59) (c := 60) (k := 2) rfl]
  refine Cv_aload_n dX1_init_12 0 rfl ?_
  refine Cv_bipush (v := 20) dX1_init_13 (by decide +kernel) ?_
  refine Cv_nai (v := 62) dX1_init_15 q_69 sh_62 rfl (by decide) (fun k => z0_z 62 k (by omega)) (by decide) rfl ?_
  refine Cv_putr 60 dX1_init_17 fr_RX1_15 rfl sh_60 (by decide) rfl rfl ?_
  rw [nulN_set (j := 60) (c := 60) (k := 3) rfl]
  refine Cv_aload_n dX1_init_20 0 rfl ?_
  refine Cv_bipush (v := 20) dX1_init_21 (by decide +kernel) ?_
  refine Cv_nai (v := 63) dX1_init_23 q_69 sh_63 rfl (by decide) (fun k => z0_z 63 k (by omega)) (by decide) rfl ?_
  refine Cv_putr 60 dX1_init_25 fr_RX1_18 rfl sh_60 (by decide) rfl rfl ?_
  rw [nulN_set (j := 61) (c := 60) (k := 4) rfl]
  exact Cv_ret dX1_init_28 ⟨rfl, rfl⟩
theorem c_64 : EvC mX5_init 1 64 65 68 (nulN 63) z0 (fun _ nul' σ' => nul' = nulN 66 ∧ σ' = sgA) := by
  refine EvC_of (by decide +kernel) rfl rfl (by decide) (by decide) ?_
  refine Cv_aload_n dX5_init_0 0 rfl ?_
  refine Cv_obj dX5_init_1 ⟨q_327, q_22, q_23⟩ (by decide) (Nat.le_of_ble_eq_true rfl) ?_
  refine Cv_aload_n dX5_init_4 0 rfl ?_
  refine Cv_iconst (v := 4) dX5_init_5 rfl ⟨by decide, by decide⟩ ?_
  refine Cv_nai (v := 65) dX5_init_6 q_69 sh_65 rfl (by decide) (fun k => z0_z 65 k (by omega)) (by decide) rfl ?_
  refine Cv_putr 64 dX5_init_8 fr_RX5_9 rfl sh_64 (by decide) rfl rfl ?_
  rw [nulN_set (j := 63) (c := 64) (k := 0) rfl]
  refine Cv_aload_n dX5_init_11 0 rfl ?_
  refine Cv_iconst (v := 4) dX5_init_12 rfl ⟨by decide, by decide⟩ ?_
  refine Cv_nai (v := 66) dX5_init_13 q_69 sh_66 rfl (by decide) (fun k => z0_z 66 k (by omega)) (by decide) rfl ?_
  refine Cv_putr 64 dX5_init_15 fr_RX5_15 rfl sh_64 (by decide) rfl rfl ?_
  rw [nulN_set (j := 64) (c := 64) (k := 1) rfl]
  refine Cv_aload_n dX5_init_18 0 rfl ?_
  refine Cv_sipush (v := 160) dX5_init_19 (by decide +kernel) ?_
  refine Cv_nai (v := 67) dX5_init_22 q_69 sh_67 rfl (by decide) (fun k => z0_z 67 k (by omega)) (by decide) rfl ?_
  refine Cv_putr 64 dX5_init_24 fr_RX5_18 rfl sh_64 (by decide) rfl rfl ?_
  rw [nulN_set (j := 65) (c := 64) (k := 2) rfl]
  refine Cv_iconst (v := 0) dX5_init_27 rfl ⟨by decide, by decide⟩ ?_
  refine Cv_istore_n dX5_init_28 (by decide) rfl ?_
  refine Cv_iload_n dX5_init_29 0 rfl ?_
  refine Cv_iconst (v := 4) dX5_init_30 rfl ⟨by decide, by decide⟩ ?_
  refine Cv_icmp_ge (tgt := 47) dX5_init_31 (by decide) (fun hc => absurd hc (show ¬ (4 : Int) ≤ 0 by decide)) (fun _ => ?_)
  refine Cv_aload_n dX5_init_34 1 rfl ?_
  refine Cv_getr 64 65 dX5_init_35 f_RX5_9 rfl sh_64 (by decide) (by decide +kernel) rfl ?_
  refine Cv_iload_n dX5_init_38 0 rfl ?_
  refine Cv_iconst (v := -1) dX5_init_39 rfl ⟨by decide, by decide⟩ ?_
  refine Cv_iast 65 dX5_init_40 rfl sh_65 (by decide) (by decide) ?_
  refine Cv_iinc (v := 1) dX5_init_41 0 rfl (by decide +kernel) (by decide) rfl ?_
  refine Cv_goto (tgt := 29) dX5_init_44 (by decide) ?_
  refine Cv_iload_n dX5_init_29 0 rfl ?_
  refine Cv_iconst (v := 4) dX5_init_30 rfl ⟨by decide, by decide⟩ ?_
  refine Cv_icmp_ge (tgt := 47) dX5_init_31 (by decide) (fun hc => absurd hc (show ¬ (4 : Int) ≤ 1 by decide)) (fun _ => ?_)
  refine Cv_aload_n dX5_init_34 1 rfl ?_
  refine Cv_getr 64 65 dX5_init_35 f_RX5_9 rfl sh_64 (by decide) (by decide +kernel) rfl ?_
  refine Cv_iload_n dX5_init_38 0 rfl ?_
  refine Cv_iconst (v := -1) dX5_init_39 rfl ⟨by decide, by decide⟩ ?_
  refine Cv_iast 65 dX5_init_40 rfl sh_65 (by decide) (by decide) ?_
  refine Cv_iinc (v := 2) dX5_init_41 0 rfl (by decide +kernel) (by decide) rfl ?_
  refine Cv_goto (tgt := 29) dX5_init_44 (by decide) ?_
  refine Cv_iload_n dX5_init_29 0 rfl ?_
  refine Cv_iconst (v := 4) dX5_init_30 rfl ⟨by decide, by decide⟩ ?_
  refine Cv_icmp_ge (tgt := 47) dX5_init_31 (by decide) (fun hc => absurd hc (show ¬ (4 : Int) ≤ 2 by decide)) (fun _ => ?_)
  refine Cv_aload_n dX5_init_34 1 rfl ?_
  refine Cv_getr 64 65 dX5_init_35 f_RX5_9 rfl sh_64 (by decide) (by decide +kernel) rfl ?_
  refine Cv_iload_n dX5_init_38 0 rfl ?_
  refine Cv_iconst (v := -1) dX5_init_39 rfl ⟨by decide, by decide⟩ ?_
  refine Cv_iast 65 dX5_init_40 rfl sh_65 (by decide) (by decide) ?_
  refine Cv_iinc (v := 3) dX5_init_41 0 rfl (by decide +kernel) (by decide) rfl ?_
  refine Cv_goto (tgt := 29) dX5_init_44 (by decide) ?_
  refine Cv_iload_n dX5_init_29 0 rfl ?_
  refine Cv_iconst (v := 4) dX5_init_30 rfl ⟨by decide, by decide⟩ ?_
  refine Cv_icmp_ge (tgt := 47) dX5_init_31 (by decide) (fun hc => absurd hc (show ¬ (4 : Int) ≤ 3 by decide)) (fun _ => ?_)
  refine Cv_aload_n dX5_init_34 1 rfl ?_
  refine Cv_getr 64 65 dX5_init_35 f_RX5_9 rfl sh_64 (by decide) (by decide +kernel) rfl ?_
  refine Cv_iload_n dX5_init_38 0 rfl ?_
  refine Cv_iconst (v := -1) dX5_init_39 rfl ⟨by decide, by decide⟩ ?_
  refine Cv_iast 65 dX5_init_40 rfl sh_65 (by decide) (by decide) ?_
  change Cv _ _ _ _ _ _ _ _ _ sgA _
  refine Cv_iinc (v := 4) dX5_init_41 0 rfl (by decide +kernel) (by decide) rfl ?_
  refine Cv_goto (tgt := 29) dX5_init_44 (by decide) ?_
  refine Cv_iload_n dX5_init_29 0 rfl ?_
  refine Cv_iconst (v := 4) dX5_init_30 rfl ⟨by decide, by decide⟩ ?_
  refine Cv_icmp_ge (tgt := 47) dX5_init_31 (by decide) (fun _ => ?_) (fun hc => absurd (show (4 : Int) ≤ 4 by decide) hc)
  exact Cv_ret dX5_init_47 ⟨rfl, rfl⟩
theorem c_0 : EvC mX9_init 3 0 1 68 (nulN 0) z0 (fun _ nul' σ' => nul' = nulN 67 ∧ σ' = sgA) := by
  refine EvC_of (by decide +kernel) rfl rfl (by decide) (by decide) ?_
  refine Cv_aload_n dX9_init_0 0 rfl ?_
  refine Cv_obj dX9_init_1 ⟨q_21, q_22, q_23⟩ (by decide) (Nat.le_of_ble_eq_true rfl) ?_
  refine Cv_aload_n dX9_init_4 0 rfl ?_
  refine Cv_new (v := 1) dX9_init_5 nw_RX9_9 sh_1 (fun k => z0_z 1 k (by omega)) (nulN_new (by decide +kernel)) (by decide) rfl ?_
  refine Cv_dup dX9_init_8 (show ¬ (2 : Nat) = 1 by decide) ?_
  refine Cv_inv (d' := 1) 1 dX9_init_9 MI_X2 (Or.inr ⟨_, q_26⟩) (by decide) rfl (Nat.le_of_ble_eq_true rfl) c_1 (by decide) (by decide) (by decide) ?_
  rintro _ _ ⟨rfl, rfl⟩
  refine Cv_putr 0 dX9_init_12 fr_RX9_12 rfl sh_0 (by decide) rfl rfl ?_
  rw [nulN_set (j := 4) (c := 0) (k := 0) rfl]
  refine Cv_aload_n dX9_init_15 0 rfl ?_
  refine Cv_new (v := 6) dX9_init_16 nw_RX9_9 sh_6 (fun k => z0_z 6 k (by omega)) (nulN_new (by decide +kernel)) (by decide) rfl ?_
  refine Cv_dup dX9_init_19 (show ¬ (2 : Nat) = 1 by decide) ?_
  refine Cv_inv (d' := 1) 6 dX9_init_20 MI_X2 (Or.inr ⟨_, q_26⟩) (by decide) rfl (Nat.le_of_ble_eq_true rfl) c_6 (by decide) (by decide) (by decide) ?_
  rintro _ _ ⟨rfl, rfl⟩
  refine Cv_putr 0 dX9_init_23 fr_RX9_16 rfl sh_0 (by decide) rfl rfl ?_
  rw [nulN_set (j := 9) (c := 0) (k := 1) rfl]
  refine Cv_aload_n dX9_init_26 0 rfl ?_
  refine Cv_new (v := 11) dX9_init_27 nw_RX9_9 sh_11 (fun k => z0_z 11 k (by omega)) (nulN_new (by decide +kernel)) (by decide) rfl ?_
  refine Cv_dup dX9_init_30 (show ¬ (2 : Nat) = 1 by decide) ?_
  refine Cv_inv (d' := 1) 11 dX9_init_31 MI_X2 (Or.inr ⟨_, q_26⟩) (by decide) rfl (Nat.le_of_ble_eq_true rfl) c_11 (by decide) (by decide) (by decide) ?_
  rintro _ _ ⟨rfl, rfl⟩
  refine Cv_putr 0 dX9_init_34 fr_RX9_19 rfl sh_0 (by decide) rfl rfl ?_
  rw [nulN_set (j := 14) (c := 0) (k := 2) rfl]
  refine Cv_aload_n dX9_init_37 0 rfl ?_
  refine Cv_new (v := 16) dX9_init_38 nw_RX9_22 sh_16 (fun k => z0_z 16 k (by omega)) (nulN_new (by decide +kernel)) (by decide) rfl ?_
  refine Cv_dup dX9_init_41 (show ¬ (2 : Nat) = 1 by decide) ?_
  refine Cv_inv (d' := 2) 16 dX9_init_42 MI_X4 (Or.inr ⟨_, q_72⟩) (by decide) rfl (Nat.le_of_ble_eq_true rfl) c_16 (by decide) (by decide) (by decide) ?_
  rintro _ _ ⟨rfl, rfl⟩
  refine Cv_putr 0 dX9_init_45 fr_RX9_25 rfl sh_0 (by decide) rfl rfl ?_
  rw [nulN_set (j := 23) (c := 0) (k := 3) rfl]
  refine Cv_aload_n dX9_init_48 0 rfl ?_
  refine Cv_new (v := 25) dX9_init_49 nw_RX9_22 sh_25 (fun k => z0_z 25 k (by omega)) (nulN_new (by decide +kernel)) (by decide) rfl ?_
  refine Cv_dup dX9_init_52 (show ¬ (2 : Nat) = 1 by decide) ?_
  refine Cv_inv (d' := 2) 25 dX9_init_53 MI_X4 (Or.inr ⟨_, q_72⟩) (by decide) rfl (Nat.le_of_ble_eq_true rfl) c_25 (by decide) (by decide) (by decide) ?_
  rintro _ _ ⟨rfl, rfl⟩
  refine Cv_putr 0 dX9_init_56 fr_RX9_29 rfl sh_0 (by decide) rfl rfl ?_
  rw [nulN_set (j := 32) (c := 0) (k := 4) rfl]
  refine Cv_aload_n dX9_init_59 0 rfl ?_
  refine Cv_new (v := 34) dX9_init_60 nw_RX9_32 sh_34 (fun k => z0_z 34 k (by omega)) (nulN_new (by decide +kernel)) (by decide) rfl ?_
  refine Cv_dup dX9_init_63 (show ¬ (2 : Nat) = 1 by decide) ?_
  refine Cv_inv (d' := 1) 34 dX9_init_64 MI_X3 (Or.inr ⟨_, q_157⟩) (by decide) rfl (Nat.le_of_ble_eq_true rfl) c_34 (by decide) (by decide) (by decide) ?_
  rintro _ _ ⟨rfl, rfl⟩
  refine Cv_putr 0 dX9_init_67 fr_RX9_35 rfl sh_0 (by decide) rfl rfl ?_
  rw [nulN_set (j := 33) (c := 0) (k := 5) rfl]
  refine Cv_aload_n dX9_init_70 0 rfl ?_
  refine Cv_new (v := 35) dX9_init_71 nw_RX9_39 sh_35 (fun k => z0_z 35 k (by omega)) (nulN_new (by decide +kernel)) (by decide) rfl ?_
  refine Cv_dup dX9_init_74 (show ¬ (2 : Nat) = 1 by decide) ?_
  refine Cv_inv (d' := 1) 35 dX9_init_75 MI_X7 (Or.inr ⟨_, q_160⟩) (by decide) rfl (Nat.le_of_ble_eq_true rfl) c_35 (by decide) (by decide) (by decide) ?_
  rintro _ _ ⟨rfl, rfl⟩
  refine Cv_putr 0 dX9_init_78 fr_RX9_42 rfl sh_0 (by decide) rfl rfl ?_
  rw [nulN_set (j := 36) (c := 0) (k := 6) rfl]
  refine Cv_aload_n dX9_init_81 0 rfl ?_
  refine Cv_new (v := 38) dX9_init_82 nw_RX9_46 sh_38 (fun k => z0_z 38 k (by omega)) (nulN_new (by decide +kernel)) (by decide) rfl ?_
  refine Cv_dup dX9_init_85 (show ¬ (2 : Nat) = 1 by decide) ?_
  refine Cv_inv (d' := 1) 38 dX9_init_86 MI_X6 (Or.inr ⟨_, q_182⟩) (by decide) rfl (Nat.le_of_ble_eq_true rfl) c_38 (by decide) (by decide) (by decide) ?_
  rintro _ _ ⟨rfl, rfl⟩
  refine Cv_putr 0 dX9_init_89 fr_RX9_49 rfl sh_0 (by decide) rfl rfl ?_
  rw [nulN_set (j := 43) (c := 0) (k := 7) rfl]
  refine Cv_aload_n dX9_init_92 0 rfl ?_
  refine Cv_new (v := 45) dX9_init_93 nw_RX9_53 sh_45 (fun k => z0_z 45 k (by omega)) (nulN_new (by decide +kernel)) (by decide) rfl ?_
  refine Cv_dup dX9_init_96 (show ¬ (2 : Nat) = 1 by decide) ?_
  refine Cv_inv (d' := 1) 45 dX9_init_97 MI_X8 (Or.inr ⟨_, q_229⟩) (by decide) rfl (Nat.le_of_ble_eq_true rfl) c_45 (by decide) (by decide) (by decide) ?_
  rintro _ _ ⟨rfl, rfl⟩
  refine Cv_putr 0 dX9_init_100 fr_RX9_56 rfl sh_0 (by decide) rfl rfl ?_
  rw [nulN_set (j := 51) (c := 0) (k := 8) rfl]
  refine Cv_aload_n dX9_init_103 0 rfl ?_
  refine Cv_new (v := 53) dX9_init_104 nw_RX9_60 sh_53 (fun k => z0_z 53 k (by omega)) (nulN_new (by decide +kernel)) (by decide) rfl ?_
  refine Cv_dup dX9_init_107 (show ¬ (2 : Nat) = 1 by decide) ?_
  refine Cv_inv (d' := 1) 53 dX9_init_108 MI_X0 (Or.inr ⟨_, q_267⟩) (by decide) rfl (Nat.le_of_ble_eq_true rfl) c_53 (by decide) (by decide) (by decide) ?_
  rintro _ _ ⟨rfl, rfl⟩
  refine Cv_putr 0 dX9_init_111 fr_RX9_63 rfl sh_0 (by decide) rfl rfl ?_
  rw [nulN_set (j := 58) (c := 0) (k := 9) rfl]
  refine Cv_aload_n dX9_init_114 0 rfl ?_
  refine Cv_new (v := 60) dX9_init_115 nw_RX9_67 sh_60 (fun k => z0_z 60 k (by omega)) (nulN_new (by decide +kernel)) (by decide) rfl ?_
  refine Cv_dup dX9_init_118 (show ¬ (2 : Nat) = 1 by decide) ?_
  refine Cv_inv (d' := 1) 60 dX9_init_119 MI_X1 (Or.inr ⟨_, q_301⟩) (by decide) rfl (Nat.le_of_ble_eq_true rfl) c_60 (by decide) (by decide) (by decide) ?_
  rintro _ _ ⟨rfl, rfl⟩
  refine Cv_putr 0 dX9_init_122 fr_RX9_70 rfl sh_0 (by decide) rfl rfl ?_
  rw [nulN_set (j := 62) (c := 0) (k := 10) rfl]
  refine Cv_aload_n dX9_init_125 0 rfl ?_
  refine Cv_new (v := 64) dX9_init_126 nw_RX9_74 sh_64 (fun k => z0_z 64 k (by omega)) (nulN_new (by decide +kernel)) (by decide) rfl ?_
  refine Cv_dup dX9_init_129 (show ¬ (2 : Nat) = 1 by decide) ?_
  refine Cv_inv (d' := 1) 64 dX9_init_130 MI_X5 (Or.inl q_324) (by decide) rfl (Nat.le_of_ble_eq_true rfl) c_64 (by decide) (by decide) (by decide) ?_
  rintro _ _ ⟨rfl, rfl⟩
  refine Cv_putr 0 dX9_init_133 fr_RX9_77 rfl sh_0 (by decide) rfl rfl ?_
  rw [nulN_set (j := 66) (c := 0) (k := 11) rfl]
  exact Cv_ret dX9_init_136 ⟨rfl, rfl⟩
theorem c_68 : EvC mX10_init 1 68 69 192 (nulN 67) sgA (fun _ nul' σ' => nul' = nulN 98 ∧ σ' = sgB) := by
  refine EvC_of (by decide +kernel) rfl rfl (by decide) (by decide) ?_
  refine Cv_aload_n dX10_init_0 0 rfl ?_
  refine Cv_obj dX10_init_1 ⟨q_881, q_22, q_23⟩ (by decide) (Nat.le_of_ble_eq_true rfl) ?_
  refine Cv_aload_n dX10_init_4 0 rfl ?_
  refine Cv_bipush (v := 10) dX10_init_5 (by decide +kernel) ?_
  refine Cv_nai (v := 69) dX10_init_7 q_69 sh_69 rfl (by decide) (fun k => sgA_z 69 k (by omega)) (by decide) rfl ?_
  refine Cv_putr 68 dX10_init_9 fr_RX10_9 rfl sh_68 (by decide) rfl rfl ?_
  rw [nulN_set (j := 67) (c := 68) (k := 1) rfl]
  refine Cv_aload_n dX10_init_12 0 rfl ?_
  refine Cv_bipush (v := 10) dX10_init_13 (by decide +kernel) ?_
  refine Cv_nai (v := 70) dX10_init_15 q_69 sh_70 rfl (by decide) (fun k => sgA_z 70 k (by omega)) (by decide) rfl ?_
  refine Cv_putr 68 dX10_init_17 fr_RX10_13 rfl sh_68 (by decide) rfl rfl ?_
  rw [nulN_set (j := 68) (c := 68) (k := 2) rfl]
  refine Cv_aload_n dX10_init_20 0 rfl ?_
  refine Cv_bipush (v := 10) dX10_init_21 (by decide +kernel) ?_
  refine Cv_nai (v := 71) dX10_init_23 q_69 sh_71 rfl (by decide) (fun k => sgA_z 71 k (by omega)) (by decide) rfl ?_
  refine Cv_putr 68 dX10_init_25 fr_RX10_16 rfl sh_68 (by decide) rfl rfl ?_
  rw [nulN_set (j := 69) (c := 68) (k := 3) rfl]
  refine Cv_aload_n dX10_init_28 0 rfl ?_
  refine Cv_bipush (v := 10) dX10_init_29 (by decide +kernel) ?_
  refine Cv_nai (v := 72) dX10_init_31 q_69 sh_72 rfl (by decide) (fun k => sgA_z 72 k (by omega)) (by decide) rfl ?_
  refine Cv_putr 68 dX10_init_33 fr_RX10_19 rfl sh_68 (by decide) rfl rfl ?_
  rw [nulN_set (j := 70) (c := 68) (k := 4) rfl]
  refine Cv_aload_n dX10_init_36 0 rfl ?_
  refine Cv_bipush (v := 80) dX10_init_37 (by decide +kernel) ?_
  refine Cv_nal (v := 73) dX10_init_39 q_108 sh_73 rfl (by decide) (fun k => sgA_z 73 k (by omega)) (by decide) rfl ?_
  refine Cv_putr 68 dX10_init_41 fr_RX10_22 rfl sh_68 (by decide) rfl rfl ?_
  rw [nulN_set (j := 71) (c := 68) (k := 10) rfl]
  refine Cv_aload_n dX10_init_44 0 rfl ?_
  refine Cv_bipush (v := 80) dX10_init_45 (by decide +kernel) ?_
  refine Cv_nal (v := 74) dX10_init_47 q_108 sh_74 rfl (by decide) (fun k => sgA_z 74 k (by omega)) (by decide) rfl ?_
  refine Cv_putr 68 dX10_init_49 fr_RX10_26 rfl sh_68 (by decide) rfl rfl ?_
  rw [nulN_set (j := 72) (c := 68) (k := 11) rfl]
  refine Cv_aload_n dX10_init_52 0 rfl ?_
  refine Cv_bipush (v := 80) dX10_init_53 (by decide +kernel) ?_
  refine Cv_nal (v := 75) dX10_init_55 q_108 sh_75 rfl (by decide) (fun k => sgA_z 75 k (by omega)) (by decide) rfl ?_
  refine Cv_putr 68 dX10_init_57 fr_RX10_29 rfl sh_68 (by decide) rfl rfl ?_
  rw [nulN_set (j := 73) (c := 68) (k := 12) rfl]
  refine Cv_aload_n dX10_init_60 0 rfl ?_
  refine Cv_bipush (v := 80) dX10_init_61 (by decide +kernel) ?_
  refine Cv_nal (v := 76) dX10_init_63 q_108 sh_76 rfl (by decide) (fun k => sgA_z 76 k (by omega)) (by decide) rfl ?_
  refine Cv_putr 68 dX10_init_65 fr_RX10_32 rfl sh_68 (by decide) rfl rfl ?_
  rw [nulN_set (j := 74) (c := 68) (k := 13) rfl]
  refine Cv_aload_n dX10_init_68 0 rfl ?_
  refine Cv_bipush (v := 80) dX10_init_69 (by decide +kernel) ?_
  refine Cv_nai (v := 77) dX10_init_71 q_69 sh_77 rfl (by decide) (fun k => sgA_z 77 k (by omega)) (by decide) rfl ?_
  refine Cv_putr 68 dX10_init_73 fr_RX10_35 rfl sh_68 (by decide) rfl rfl ?_
  rw [nulN_set (j := 75) (c := 68) (k := 14) rfl]
  refine Cv_aload_n dX10_init_76 0 rfl ?_
  refine Cv_bipush (v := 20) dX10_init_77 (by decide +kernel) ?_
  refine Cv_nai (v := 78) dX10_init_79 q_69 sh_78 rfl (by decide) (fun k => sgA_z 78 k (by omega)) (by decide) rfl ?_
  refine Cv_putr 68 dX10_init_81 fr_RX10_38 rfl sh_68 (by decide) rfl rfl ?_
  rw [nulN_set (j := 76) (c := 68) (k := 16) rfl]
  refine Cv_aload_n dX10_init_84 0 rfl ?_
  refine Cv_bipush (v := 20) dX10_init_85 (by decide +kernel) ?_
  refine Cv_nai (v := 79) dX10_init_87 q_69 sh_79 rfl (by decide) (fun k => sgA_z 79 k (by omega)) (by decide) rfl ?_
  refine Cv_putr 68 dX10_init_89 fr_RX10_41 rfl sh_68 (by decide) rfl rfl ?_
  rw [nulN_set (j := 77) (c := 68) (k := 17) rfl]
  refine Cv_aload_n dX10_init_92 0 rfl ?_
  refine Cv_bipush (v := 20) dX10_init_93 (by decide +kernel) ?_
  refine Cv_nai (v := 80) dX10_init_95 q_69 sh_80 rfl (by decide) (fun k => sgA_z 80 k (by omega)) (by decide) rfl ?_
  refine Cv_putr 68 dX10_init_97 fr_RX10_44 rfl sh_68 (by decide) rfl rfl ?_
  rw [nulN_set (j := 78) (c := 68) (k := 18) rfl]
  refine Cv_aload_n dX10_init_100 0 rfl ?_
  refine Cv_bipush (v := 20) dX10_init_101 (by decide +kernel) ?_
  refine Cv_naz (v := 81) dX10_init_103 q_1031 sh_81 rfl (by decide) (fun k => sgA_z 81 k (by omega)) (by decide) rfl ?_
  refine Cv_putr 68 dX10_init_105 fr_RX10_47 rfl sh_68 (by decide) rfl rfl ?_
  rw [nulN_set (j := 79) (c := 68) (k := 19) rfl]
  refine Cv_aload_n dX10_init_108 0 rfl ?_
  refine Cv_bipush (v := 10) dX10_init_109 (by decide +kernel) ?_
  refine Cv_nai (v := 82) dX10_init_111 q_69 sh_82 rfl (by decide) (fun k => sgA_z 82 k (by omega)) (by decide) rfl ?_
  refine Cv_putr 68 dX10_init_113 fr_RX10_51 rfl sh_68 (by decide) rfl rfl ?_
  rw [nulN_set (j := 80) (c := 68) (k := 21) rfl]
  refine Cv_aload_n dX10_init_116 0 rfl ?_
  refine Cv_bipush (v := 81) dX10_init_117 (by decide +kernel) ?_
  refine Cv_nal (v := 83) dX10_init_119 q_108 sh_83 rfl (by decide) (fun k => sgA_z 83 k (by omega)) (by decide) rfl ?_
  refine Cv_putr 68 dX10_init_121 fr_RX10_54 rfl sh_68 (by decide) rfl rfl ?_
  rw [nulN_set (j := 81) (c := 68) (k := 25) rfl]
  refine Cv_aload_n dX10_init_124 0 rfl ?_
  refine Cv_bipush (v := 81) dX10_init_125 (by decide +kernel) ?_
  refine Cv_nal (v := 84) dX10_init_127 q_108 sh_84 rfl (by decide) (fun k => sgA_z 84 k (by omega)) (by decide) rfl ?_
  refine Cv_putr 68 dX10_init_129 fr_RX10_57 rfl sh_68 (by decide) rfl rfl ?_
  rw [nulN_set (j := 82) (c := 68) (k := 26) rfl]
  refine Cv_aload_n dX10_init_132 0 rfl ?_
  refine Cv_bipush (v := 82) dX10_init_133 (by decide +kernel) ?_
  refine Cv_nai (v := 85) dX10_init_135 q_69 sh_85 rfl (by decide) (fun k => sgA_z 85 k (by omega)) (by decide) rfl ?_
  refine Cv_putr 68 dX10_init_137 fr_RX10_60 rfl sh_68 (by decide) rfl rfl ?_
  rw [nulN_set (j := 83) (c := 68) (k := 27) rfl]
  refine Cv_aload_n dX10_init_140 0 rfl ?_
  refine Cv_sipush (v := 900) dX10_init_141 (by decide +kernel) ?_
  refine Cv_nai (v := 86) dX10_init_144 q_69 sh_86 rfl (by decide) (fun k => sgA_z 86 k (by omega)) (by decide) rfl ?_
  refine Cv_putr 68 dX10_init_146 fr_RX10_63 rfl sh_68 (by decide) rfl rfl ?_
  rw [nulN_set (j := 84) (c := 68) (k := 28) rfl]
  refine Cv_aload_n dX10_init_149 0 rfl ?_
  refine Cv_sipush (v := 900) dX10_init_150 (by decide +kernel) ?_
  refine Cv_nai (v := 87) dX10_init_153 q_69 sh_87 rfl (by decide) (fun k => sgA_z 87 k (by omega)) (by decide) rfl ?_
  refine Cv_putr 68 dX10_init_155 fr_RX10_66 rfl sh_68 (by decide) rfl rfl ?_
  rw [nulN_set (j := 85) (c := 68) (k := 29) rfl]
  refine Cv_aload_n dX10_init_158 0 rfl ?_
  refine Cv_sipush (v := 900) dX10_init_159 (by decide +kernel) ?_
  refine Cv_nai (v := 88) dX10_init_162 q_69 sh_88 rfl (by decide) (fun k => sgA_z 88 k (by omega)) (by decide) rfl ?_
  refine Cv_putr 68 dX10_init_164 fr_RX10_69 rfl sh_68 (by decide) rfl rfl ?_
  rw [nulN_set (j := 86) (c := 68) (k := 30) rfl]
  refine Cv_aload_n dX10_init_167 0 rfl ?_
  refine Cv_sipush (v := 900) dX10_init_168 (by decide +kernel) ?_
  refine Cv_nai (v := 89) dX10_init_171 q_69 sh_89 rfl (by decide) (fun k => sgA_z 89 k (by omega)) (by decide) rfl ?_
  refine Cv_putr 68 dX10_init_173 fr_RX10_72 rfl sh_68 (by decide) rfl rfl ?_
  rw [nulN_set (j := 87) (c := 68) (k := 31) rfl]
  refine Cv_aload_n dX10_init_176 0 rfl ?_
  refine Cv_bipush (v := 10) dX10_init_177 (by decide +kernel) ?_
  refine Cv_nai (v := 90) dX10_init_179 q_69 sh_90 rfl (by decide) (fun k => sgA_z 90 k (by omega)) (by decide) rfl ?_
  refine Cv_putr 68 dX10_init_181 fr_RX10_75 rfl sh_68 (by decide) rfl rfl ?_
  rw [nulN_set (j := 88) (c := 68) (k := 32) rfl]
  refine Cv_aload_n dX10_init_184 0 rfl ?_
  refine Cv_sipush (v := 900) dX10_init_185 (by decide +kernel) ?_
  refine Cv_nai (v := 91) dX10_init_188 q_69 sh_91 rfl (by decide) (fun k => sgA_z 91 k (by omega)) (by decide) rfl ?_
  refine Cv_putr 68 dX10_init_190 fr_RX10_78 rfl sh_68 (by decide) rfl rfl ?_
  rw [nulN_set (j := 89) (c := 68) (k := 37) rfl]
  refine Cv_aload_n dX10_init_193 0 rfl ?_
  refine Cv_bipush (v := 80) dX10_init_194 (by decide +kernel) ?_
  refine Cv_bipush (v := 80) dX10_init_196 (by decide +kernel) ?_
  refine Cv_mnz (v := 92) (N := 80) (K := 80) dX10_init_198 ⟨q_1031, q_882⟩ sh_92 (by decide +kernel) (by decide +kernel) rfl rfl (by decide) (fun c k h => sgA_z c k (by omega)) (by decide) (by decide) rfl ?_
  refine Cv_putr 68 dX10_init_202 fr_RX10_83 rfl sh_68 (by decide) rfl rfl ?_
  rw [nulN_set (j := 90) (c := 68) (k := 38) rfl]
  refine Cv_aload_n dX10_init_205 0 rfl ?_
  refine Cv_sipush (v := 900) dX10_init_206 (by decide +kernel) ?_
  refine Cv_nai (v := 173) dX10_init_209 q_69 sh_173 rfl (by decide) (fun k => sgA_z 173 k (by omega)) (by decide) rfl ?_
  refine Cv_putr 68 dX10_init_211 fr_RX10_86 rfl sh_68 (by decide) rfl rfl ?_
  rw [nulN_set (j := 91) (c := 68) (k := 39) rfl]
  refine Cv_aload_n dX10_init_214 0 rfl ?_
  refine Cv_iconst (v := 2) dX10_init_215 rfl ⟨by decide, by decide⟩ ?_
  refine Cv_nai (v := 174) dX10_init_216 q_69 sh_174 rfl (by decide) (fun k => sgA_z 174 k (by omega)) (by decide) rfl ?_
  refine Cv_putr 68 dX10_init_218 fr_RX10_89 rfl sh_68 (by decide) rfl rfl ?_
  rw [nulN_set (j := 92) (c := 68) (k := 40) rfl]
  refine Cv_aload_n dX10_init_221 0 rfl ?_
  refine Cv_bipush (v := 8) dX10_init_222 (by decide +kernel) ?_
  refine Cv_bipush (v := 10) dX10_init_224 (by decide +kernel) ?_
  refine Cv_mni (v := 175) (N := 8) (K := 10) dX10_init_226 ⟨q_69, q_884⟩ sh_175 (by decide +kernel) (by decide +kernel) rfl rfl (by decide) (fun c k h => sgA_z c k (by omega)) (by decide) (by decide) rfl ?_
  refine Cv_putr 68 dX10_init_230 fr_RX10_94 rfl sh_68 (by decide) rfl rfl ?_
  rw [nulN_set (j := 93) (c := 68) (k := 41) rfl]
  refine Cv_aload_n dX10_init_233 0 rfl ?_
  refine Cv_iconst (v := 4) dX10_init_234 rfl ⟨by decide, by decide⟩ ?_
  refine Cv_nai (v := 184) dX10_init_235 q_69 sh_184 rfl (by decide) (fun k => sgA_z 184 k (by omega)) (by decide) rfl ?_
  refine Cv_dup dX10_init_237 (show ¬ (2 : Nat) = 1 by decide) ?_
  refine Cv_iconst (v := 0) dX10_init_238 rfl ⟨by decide, by decide⟩ ?_
  refine Cv_iconst (v := -1) dX10_init_239 rfl ⟨by decide, by decide⟩ ?_
  refine Cv_iast 184 dX10_init_240 rfl sh_184 (by decide) (by decide) ?_
  refine Cv_dup dX10_init_241 (show ¬ (2 : Nat) = 1 by decide) ?_
  refine Cv_iconst (v := 1) dX10_init_242 rfl ⟨by decide, by decide⟩ ?_
  refine Cv_iconst (v := -1) dX10_init_243 rfl ⟨by decide, by decide⟩ ?_
  refine Cv_iast 184 dX10_init_244 rfl sh_184 (by decide) (by decide) ?_
  refine Cv_dup dX10_init_245 (show ¬ (2 : Nat) = 1 by decide) ?_
  refine Cv_iconst (v := 2) dX10_init_246 rfl ⟨by decide, by decide⟩ ?_
  refine Cv_iconst (v := -1) dX10_init_247 rfl ⟨by decide, by decide⟩ ?_
  refine Cv_iast 184 dX10_init_248 rfl sh_184 (by decide) (by decide) ?_
  refine Cv_dup dX10_init_249 (show ¬ (2 : Nat) = 1 by decide) ?_
  refine Cv_iconst (v := 3) dX10_init_250 rfl ⟨by decide, by decide⟩ ?_
  refine Cv_iconst (v := -1) dX10_init_251 rfl ⟨by decide, by decide⟩ ?_
  refine Cv_iast 184 dX10_init_252 rfl sh_184 (by decide) (by decide) ?_
  change Cv _ _ _ _ _ _ _ _ _ sgB _
  refine Cv_putr 68 dX10_init_253 fr_RX10_97 rfl sh_68 (by decide) rfl rfl ?_
  rw [nulN_set (j := 94) (c := 68) (k := 44) rfl]
  refine Cv_aload_n dX10_init_256 0 rfl ?_
  refine Cv_iconst (v := 4) dX10_init_257 rfl ⟨by decide, by decide⟩ ?_
  refine Cv_nai (v := 185) dX10_init_258 q_69 sh_185 rfl (by decide) (fun k => sgB_z 185 k (by omega)) (by decide) rfl ?_
  refine Cv_putr 68 dX10_init_260 fr_RX10_100 rfl sh_68 (by decide) rfl rfl ?_
  rw [nulN_set (j := 95) (c := 68) (k := 45) rfl]
  refine Cv_aload_n dX10_init_263 0 rfl ?_
  refine Cv_iconst (v := 4) dX10_init_264 rfl ⟨by decide, by decide⟩ ?_
  refine Cv_bipush (v := 40) dX10_init_265 (by decide +kernel) ?_
  refine Cv_mni (v := 186) (N := 4) (K := 40) dX10_init_267 ⟨q_69, q_884⟩ sh_186 (by decide +kernel) (by decide +kernel) rfl rfl (by decide) (fun c k h => sgB_z c k (by omega)) (by decide) (by decide) rfl ?_
  refine Cv_putr 68 dX10_init_271 fr_RX10_103 rfl sh_68 (by decide) rfl rfl ?_
  rw [nulN_set (j := 96) (c := 68) (k := 46) rfl]
  refine Cv_aload_n dX10_init_274 0 rfl ?_
  refine Cv_bipush (v := 40) dX10_init_275 (by decide +kernel) ?_
  refine Cv_nai (v := 191) dX10_init_277 q_69 sh_191 rfl (by decide) (fun k => sgB_z 191 k (by omega)) (by decide) rfl ?_
  refine Cv_putr 68 dX10_init_279 fr_RX10_106 rfl sh_68 (by decide) rfl rfl ?_
  rw [nulN_set (j := 97) (c := 68) (k := 47) rfl]
  exact Cv_ret dX10_init_282 ⟨rfl, rfl⟩
