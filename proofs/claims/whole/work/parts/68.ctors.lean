/-! The constructors. Laid by wip/whole/mk68.py. -/
theorem dX0_init_0 : decode cX0_init 0 = .ok (.aload_n 0, 1) := by decide +kernel
theorem dX0_init_1 : decode cX0_init 1 = .ok (.invokespecial 1, 3) := by decide +kernel
theorem dX0_init_4 : decode cX0_init 4 = .ok (.aload_n 0, 1) := by decide +kernel
theorem dX0_init_5 : decode cX0_init 5 = .ok (.bipush 14, 2) := by decide +kernel
theorem dX0_init_7 : decode cX0_init 7 = .ok (.anewarray 9, 3) := by decide +kernel
theorem dX0_init_10 : decode cX0_init 10 = .ok (.putfield 11, 3) := by decide +kernel
theorem dX0_init_13 : decode cX0_init 13 = .ok (.aload_n 0, 1) := by decide +kernel
theorem dX0_init_14 : decode cX0_init 14 = .ok (.iconst 0, 1) := by decide +kernel
theorem dX0_init_15 : decode cX0_init 15 = .ok (.putfield 15, 3) := by decide +kernel
theorem dX0_init_18 : decode cX0_init 18 = .ok (.aload_n 0, 1) := by decide +kernel
theorem dX0_init_19 : decode cX0_init 19 = .ok (.iconst 0, 1) := by decide +kernel
theorem dX0_init_20 : decode cX0_init 20 = .ok (.putfield 19, 3) := by decide +kernel
theorem dX0_init_23 : decode cX0_init 23 = .ok (.iconst 0, 1) := by decide +kernel
theorem dX0_init_24 : decode cX0_init 24 = .ok (.istore_n 1, 1) := by decide +kernel
theorem dX0_init_25 : decode cX0_init 25 = .ok (.iload_n 1, 1) := by decide +kernel
theorem dX0_init_26 : decode cX0_init 26 = .ok (.bipush 14, 2) := by decide +kernel
theorem dX0_init_28 : decode cX0_init 28 = .ok (.if_icmp .ge 22, 3) := by decide +kernel
theorem dX0_init_31 : decode cX0_init 31 = .ok (.aload_n 0, 1) := by decide +kernel
theorem dX0_init_32 : decode cX0_init 32 = .ok (.getfield 11, 3) := by decide +kernel
theorem dX0_init_35 : decode cX0_init 35 = .ok (.iload_n 1, 1) := by decide +kernel
theorem dX0_init_36 : decode cX0_init 36 = .ok (.new 9, 3) := by decide +kernel
theorem dX0_init_39 : decode cX0_init 39 = .ok (.dup, 1) := by decide +kernel
theorem dX0_init_40 : decode cX0_init 40 = .ok (.invokespecial 22, 3) := by decide +kernel
theorem dX0_init_43 : decode cX0_init 43 = .ok (.aastore, 1) := by decide +kernel
theorem dX0_init_44 : decode cX0_init 44 = .ok (.iinc 1 1, 3) := by decide +kernel
theorem dX0_init_47 : decode cX0_init 47 = .ok (.goto (-22), 3) := by decide +kernel
theorem dX0_init_50 : decode cX0_init 50 = .ok (.return_, 1) := by decide +kernel
theorem dX1_init_0 : decode cX1_init 0 = .ok (.aload_n 0, 1) := by decide +kernel
theorem dX1_init_1 : decode cX1_init 1 = .ok (.invokespecial 1, 3) := by decide +kernel
theorem dX1_init_4 : decode cX1_init 4 = .ok (.aload_n 0, 1) := by decide +kernel
theorem dX1_init_5 : decode cX1_init 5 = .ok (.new 7, 3) := by decide +kernel
theorem dX1_init_8 : decode cX1_init 8 = .ok (.dup, 1) := by decide +kernel
theorem dX1_init_9 : decode cX1_init 9 = .ok (.invokespecial 9, 3) := by decide +kernel
theorem dX1_init_12 : decode cX1_init 12 = .ok (.putfield 10, 3) := by decide +kernel
theorem dX1_init_15 : decode cX1_init 15 = .ok (.aload_n 0, 1) := by decide +kernel
theorem dX1_init_16 : decode cX1_init 16 = .ok (.new 7, 3) := by decide +kernel
theorem dX1_init_19 : decode cX1_init 19 = .ok (.dup, 1) := by decide +kernel
theorem dX1_init_20 : decode cX1_init 20 = .ok (.invokespecial 9, 3) := by decide +kernel
theorem dX1_init_23 : decode cX1_init 23 = .ok (.putfield 16, 3) := by decide +kernel
theorem dX1_init_26 : decode cX1_init 26 = .ok (.return_, 1) := by decide +kernel
theorem dX2_init_0 : decode cX2_init 0 = .ok (.aload_n 0, 1) := by decide +kernel
theorem dX2_init_1 : decode cX2_init 1 = .ok (.invokespecial 3, 3) := by decide +kernel
theorem dX2_init_4 : decode cX2_init 4 = .ok (.aload_n 0, 1) := by decide +kernel
theorem dX2_init_5 : decode cX2_init 5 = .ok (.bipush 40, 2) := by decide +kernel
theorem dX2_init_7 : decode cX2_init 7 = .ok (.newarray .int, 2) := by decide +kernel
theorem dX2_init_9 : decode cX2_init 9 = .ok (.putfield 11, 3) := by decide +kernel
theorem dX2_init_12 : decode cX2_init 12 = .ok (.aload_n 0, 1) := by decide +kernel
theorem dX2_init_13 : decode cX2_init 13 = .ok (.bipush 40, 2) := by decide +kernel
theorem dX2_init_15 : decode cX2_init 15 = .ok (.newarray .int, 2) := by decide +kernel
theorem dX2_init_17 : decode cX2_init 17 = .ok (.putfield 15, 3) := by decide +kernel
theorem dX2_init_20 : decode cX2_init 20 = .ok (.aload_n 0, 1) := by decide +kernel
theorem dX2_init_21 : decode cX2_init 21 = .ok (.bipush 40, 2) := by decide +kernel
theorem dX2_init_23 : decode cX2_init 23 = .ok (.newarray .int, 2) := by decide +kernel
theorem dX2_init_25 : decode cX2_init 25 = .ok (.putfield 18, 3) := by decide +kernel
theorem dX2_init_28 : decode cX2_init 28 = .ok (.aload_n 0, 1) := by decide +kernel
theorem dX2_init_29 : decode cX2_init 29 = .ok (.iconst 0, 1) := by decide +kernel
theorem dX2_init_30 : decode cX2_init 30 = .ok (.putfield 21, 3) := by decide +kernel
theorem dX2_init_33 : decode cX2_init 33 = .ok (.return_, 1) := by decide +kernel
theorem dX3_init_0 : decode cX3_init 0 = .ok (.aload_n 0, 1) := by decide +kernel
theorem dX3_init_1 : decode cX3_init 1 = .ok (.invokespecial 1, 3) := by decide +kernel
theorem dX3_init_4 : decode cX3_init 4 = .ok (.aload_n 0, 1) := by decide +kernel
theorem dX3_init_5 : decode cX3_init 5 = .ok (.bipush 6, 2) := by decide +kernel
theorem dX3_init_7 : decode cX3_init 7 = .ok (.newarray .int, 2) := by decide +kernel
theorem dX3_init_9 : decode cX3_init 9 = .ok (.putfield 9, 3) := by decide +kernel
theorem dX3_init_12 : decode cX3_init 12 = .ok (.aload_n 0, 1) := by decide +kernel
theorem dX3_init_13 : decode cX3_init 13 = .ok (.bipush 6, 2) := by decide +kernel
theorem dX3_init_15 : decode cX3_init 15 = .ok (.newarray .int, 2) := by decide +kernel
theorem dX3_init_17 : decode cX3_init 17 = .ok (.putfield 13, 3) := by decide +kernel
theorem dX3_init_20 : decode cX3_init 20 = .ok (.aload_n 0, 1) := by decide +kernel
theorem dX3_init_21 : decode cX3_init 21 = .ok (.bipush 6, 2) := by decide +kernel
theorem dX3_init_23 : decode cX3_init 23 = .ok (.newarray .int, 2) := by decide +kernel
theorem dX3_init_25 : decode cX3_init 25 = .ok (.putfield 16, 3) := by decide +kernel
theorem dX3_init_28 : decode cX3_init 28 = .ok (.aload_n 0, 1) := by decide +kernel
theorem dX3_init_29 : decode cX3_init 29 = .ok (.iconst 0, 1) := by decide +kernel
theorem dX3_init_30 : decode cX3_init 30 = .ok (.putfield 19, 3) := by decide +kernel
theorem dX3_init_33 : decode cX3_init 33 = .ok (.return_, 1) := by decide +kernel
theorem dX4_init_0 : decode cX4_init 0 = .ok (.aload_n 0, 1) := by decide +kernel
theorem dX4_init_1 : decode cX4_init 1 = .ok (.invokespecial 3, 3) := by decide +kernel
theorem dX4_init_4 : decode cX4_init 4 = .ok (.aload_n 0, 1) := by decide +kernel
theorem dX4_init_5 : decode cX4_init 5 = .ok (.bipush 64, 2) := by decide +kernel
theorem dX4_init_7 : decode cX4_init 7 = .ok (.newarray .int, 2) := by decide +kernel
theorem dX4_init_9 : decode cX4_init 9 = .ok (.putfield 11, 3) := by decide +kernel
theorem dX4_init_12 : decode cX4_init 12 = .ok (.aload_n 0, 1) := by decide +kernel
theorem dX4_init_13 : decode cX4_init 13 = .ok (.bipush 6, 2) := by decide +kernel
theorem dX4_init_15 : decode cX4_init 15 = .ok (.newarray .int, 2) := by decide +kernel
theorem dX4_init_17 : decode cX4_init 17 = .ok (.putfield 15, 3) := by decide +kernel
theorem dX4_init_20 : decode cX4_init 20 = .ok (.aload_n 0, 1) := by decide +kernel
theorem dX4_init_21 : decode cX4_init 21 = .ok (.iconst 0, 1) := by decide +kernel
theorem dX4_init_22 : decode cX4_init 22 = .ok (.putfield 18, 3) := by decide +kernel
theorem dX4_init_25 : decode cX4_init 25 = .ok (.return_, 1) := by decide +kernel
theorem dX5_init_0 : decode cX5_init 0 = .ok (.aload_n 0, 1) := by decide +kernel
theorem dX5_init_1 : decode cX5_init 1 = .ok (.invokespecial 1, 3) := by decide +kernel
theorem dX5_init_4 : decode cX5_init 4 = .ok (.aload_n 0, 1) := by decide +kernel
theorem dX5_init_5 : decode cX5_init 5 = .ok (.new 7, 3) := by decide +kernel
theorem dX5_init_8 : decode cX5_init 8 = .ok (.dup, 1) := by decide +kernel
theorem dX5_init_9 : decode cX5_init 9 = .ok (.invokespecial 9, 3) := by decide +kernel
theorem dX5_init_12 : decode cX5_init 12 = .ok (.putfield 10, 3) := by decide +kernel
theorem dX5_init_15 : decode cX5_init 15 = .ok (.aload_n 0, 1) := by decide +kernel
theorem dX5_init_16 : decode cX5_init 16 = .ok (.new 7, 3) := by decide +kernel
theorem dX5_init_19 : decode cX5_init 19 = .ok (.dup, 1) := by decide +kernel
theorem dX5_init_20 : decode cX5_init 20 = .ok (.invokespecial 9, 3) := by decide +kernel
theorem dX5_init_23 : decode cX5_init 23 = .ok (.putfield 16, 3) := by decide +kernel
theorem dX5_init_26 : decode cX5_init 26 = .ok (.aload_n 0, 1) := by decide +kernel
theorem dX5_init_27 : decode cX5_init 27 = .ok (.new 19, 3) := by decide +kernel
theorem dX5_init_30 : decode cX5_init 30 = .ok (.dup, 1) := by decide +kernel
theorem dX5_init_31 : decode cX5_init 31 = .ok (.invokespecial 21, 3) := by decide +kernel
theorem dX5_init_34 : decode cX5_init 34 = .ok (.putfield 22, 3) := by decide +kernel
theorem dX5_init_37 : decode cX5_init 37 = .ok (.aload_n 0, 1) := by decide +kernel
theorem dX5_init_38 : decode cX5_init 38 = .ok (.new 26, 3) := by decide +kernel
theorem dX5_init_41 : decode cX5_init 41 = .ok (.dup, 1) := by decide +kernel
theorem dX5_init_42 : decode cX5_init 42 = .ok (.invokespecial 28, 3) := by decide +kernel
theorem dX5_init_45 : decode cX5_init 45 = .ok (.putfield 29, 3) := by decide +kernel
theorem dX5_init_48 : decode cX5_init 48 = .ok (.aload_n 0, 1) := by decide +kernel
theorem dX5_init_49 : decode cX5_init 49 = .ok (.new 33, 3) := by decide +kernel
theorem dX5_init_52 : decode cX5_init 52 = .ok (.dup, 1) := by decide +kernel
theorem dX5_init_53 : decode cX5_init 53 = .ok (.invokespecial 35, 3) := by decide +kernel
theorem dX5_init_56 : decode cX5_init 56 = .ok (.putfield 36, 3) := by decide +kernel
theorem dX5_init_59 : decode cX5_init 59 = .ok (.aload_n 0, 1) := by decide +kernel
theorem dX5_init_60 : decode cX5_init 60 = .ok (.iconst 2, 1) := by decide +kernel
theorem dX5_init_61 : decode cX5_init 61 = .ok (.anewarray 7, 3) := by decide +kernel
theorem dX5_init_64 : decode cX5_init 64 = .ok (.putfield 40, 3) := by decide +kernel
theorem dX5_init_67 : decode cX5_init 67 = .ok (.aload_n 0, 1) := by decide +kernel
theorem dX5_init_68 : decode cX5_init 68 = .ok (.iconst 2, 1) := by decide +kernel
theorem dX5_init_69 : decode cX5_init 69 = .ok (.newarray .boolean, 2) := by decide +kernel
theorem dX5_init_71 : decode cX5_init 71 = .ok (.putfield 44, 3) := by decide +kernel
theorem dX5_init_74 : decode cX5_init 74 = .ok (.aload_n 0, 1) := by decide +kernel
theorem dX5_init_75 : decode cX5_init 75 = .ok (.lconst 0, 1) := by decide +kernel
theorem dX5_init_76 : decode cX5_init 76 = .ok (.putfield 48, 3) := by decide +kernel
theorem dX5_init_79 : decode cX5_init 79 = .ok (.iconst 0, 1) := by decide +kernel
theorem dX5_init_80 : decode cX5_init 80 = .ok (.istore_n 1, 1) := by decide +kernel
theorem dX5_init_81 : decode cX5_init 81 = .ok (.iload_n 1, 1) := by decide +kernel
theorem dX5_init_82 : decode cX5_init 82 = .ok (.iconst 2, 1) := by decide +kernel
theorem dX5_init_83 : decode cX5_init 83 = .ok (.if_icmp .ge 22, 3) := by decide +kernel
theorem dX5_init_86 : decode cX5_init 86 = .ok (.aload_n 0, 1) := by decide +kernel
theorem dX5_init_87 : decode cX5_init 87 = .ok (.getfield 40, 3) := by decide +kernel
theorem dX5_init_90 : decode cX5_init 90 = .ok (.iload_n 1, 1) := by decide +kernel
theorem dX5_init_91 : decode cX5_init 91 = .ok (.new 7, 3) := by decide +kernel
theorem dX5_init_94 : decode cX5_init 94 = .ok (.dup, 1) := by decide +kernel
theorem dX5_init_95 : decode cX5_init 95 = .ok (.invokespecial 9, 3) := by decide +kernel
theorem dX5_init_98 : decode cX5_init 98 = .ok (.aastore, 1) := by decide +kernel
theorem dX5_init_99 : decode cX5_init 99 = .ok (.iinc 1 1, 3) := by decide +kernel
theorem dX5_init_102 : decode cX5_init 102 = .ok (.goto (-21), 3) := by decide +kernel
theorem dX5_init_105 : decode cX5_init 105 = .ok (.return_, 1) := by decide +kernel
theorem dX6_init_0 : decode cX6_init 0 = .ok (.aload_n 0, 1) := by decide +kernel
theorem dX6_init_1 : decode cX6_init 1 = .ok (.invokespecial 1, 3) := by decide +kernel
theorem dX6_init_4 : decode cX6_init 4 = .ok (.aload_n 0, 1) := by decide +kernel
theorem dX6_init_5 : decode cX6_init 5 = .ok (.bipush 64, 2) := by decide +kernel
theorem dX6_init_7 : decode cX6_init 7 = .ok (.newarray .int, 2) := by decide +kernel
theorem dX6_init_9 : decode cX6_init 9 = .ok (.putfield 7, 3) := by decide +kernel
theorem dX6_init_12 : decode cX6_init 12 = .ok (.aload_n 0, 1) := by decide +kernel
theorem dX6_init_13 : decode cX6_init 13 = .ok (.bipush 8, 2) := by decide +kernel
theorem dX6_init_15 : decode cX6_init 15 = .ok (.newarray .int, 2) := by decide +kernel
theorem dX6_init_17 : decode cX6_init 17 = .ok (.putfield 13, 3) := by decide +kernel
theorem dX6_init_20 : decode cX6_init 20 = .ok (.aload_n 0, 1) := by decide +kernel
theorem dX6_init_21 : decode cX6_init 21 = .ok (.bipush 121, 2) := by decide +kernel
theorem dX6_init_23 : decode cX6_init 23 = .ok (.newarray .int, 2) := by decide +kernel
theorem dX6_init_25 : decode cX6_init 25 = .ok (.putfield 16, 3) := by decide +kernel
theorem dX6_init_28 : decode cX6_init 28 = .ok (.aload_n 0, 1) := by decide +kernel
theorem dX6_init_29 : decode cX6_init 29 = .ok (.sipush 242, 3) := by decide +kernel
theorem dX6_init_32 : decode cX6_init 32 = .ok (.newarray .int, 2) := by decide +kernel
theorem dX6_init_34 : decode cX6_init 34 = .ok (.putfield 19, 3) := by decide +kernel
theorem dX6_init_37 : decode cX6_init 37 = .ok (.aload_n 0, 1) := by decide +kernel
theorem dX6_init_38 : decode cX6_init 38 = .ok (.sipush 242, 3) := by decide +kernel
theorem dX6_init_41 : decode cX6_init 41 = .ok (.newarray .int, 2) := by decide +kernel
theorem dX6_init_43 : decode cX6_init 43 = .ok (.putfield 22, 3) := by decide +kernel
theorem dX6_init_46 : decode cX6_init 46 = .ok (.aload_n 0, 1) := by decide +kernel
theorem dX6_init_47 : decode cX6_init 47 = .ok (.sipush 3388, 3) := by decide +kernel
theorem dX6_init_50 : decode cX6_init 50 = .ok (.newarray .int, 2) := by decide +kernel
theorem dX6_init_52 : decode cX6_init 52 = .ok (.putfield 25, 3) := by decide +kernel
theorem dX6_init_55 : decode cX6_init 55 = .ok (.aload_n 0, 1) := by decide +kernel
theorem dX6_init_56 : decode cX6_init 56 = .ok (.sipush 484, 3) := by decide +kernel
theorem dX6_init_59 : decode cX6_init 59 = .ok (.newarray .int, 2) := by decide +kernel
theorem dX6_init_61 : decode cX6_init 61 = .ok (.putfield 28, 3) := by decide +kernel
theorem dX6_init_64 : decode cX6_init 64 = .ok (.aload_n 0, 1) := by decide +kernel
theorem dX6_init_65 : decode cX6_init 65 = .ok (.iconst 2, 1) := by decide +kernel
theorem dX6_init_66 : decode cX6_init 66 = .ok (.newarray .boolean, 2) := by decide +kernel
theorem dX6_init_68 : decode cX6_init 68 = .ok (.putfield 31, 3) := by decide +kernel
theorem dX6_init_71 : decode cX6_init 71 = .ok (.aload_n 0, 1) := by decide +kernel
theorem dX6_init_72 : decode cX6_init 72 = .ok (.bipush 6, 2) := by decide +kernel
theorem dX6_init_74 : decode cX6_init 74 = .ok (.newarray .int, 2) := by decide +kernel
theorem dX6_init_76 : decode cX6_init 76 = .ok (.putfield 35, 3) := by decide +kernel
theorem dX6_init_79 : decode cX6_init 79 = .ok (.aload_n 0, 1) := by decide +kernel
theorem dX6_init_80 : decode cX6_init 80 = .ok (.bipush 6, 2) := by decide +kernel
theorem dX6_init_82 : decode cX6_init 82 = .ok (.newarray .int, 2) := by decide +kernel
theorem dX6_init_84 : decode cX6_init 84 = .ok (.putfield 38, 3) := by decide +kernel
theorem dX6_init_87 : decode cX6_init 87 = .ok (.aload_n 0, 1) := by decide +kernel
theorem dX6_init_88 : decode cX6_init 88 = .ok (.bipush 6, 2) := by decide +kernel
theorem dX6_init_90 : decode cX6_init 90 = .ok (.newarray .int, 2) := by decide +kernel
theorem dX6_init_92 : decode cX6_init 92 = .ok (.putfield 41, 3) := by decide +kernel
theorem dX6_init_95 : decode cX6_init 95 = .ok (.aload_n 0, 1) := by decide +kernel
theorem dX6_init_96 : decode cX6_init 96 = .ok (.bipush 8, 2) := by decide +kernel
theorem dX6_init_98 : decode cX6_init 98 = .ok (.newarray .int, 2) := by decide +kernel
theorem dX6_init_100 : decode cX6_init 100 = .ok (.putfield 44, 3) := by decide +kernel
theorem dX6_init_103 : decode cX6_init 103 = .ok (.aload_n 0, 1) := by decide +kernel
theorem dX6_init_104 : decode cX6_init 104 = .ok (.bipush 16, 2) := by decide +kernel
theorem dX6_init_106 : decode cX6_init 106 = .ok (.newarray .int, 2) := by decide +kernel
theorem dX6_init_108 : decode cX6_init 108 = .ok (.putfield 47, 3) := by decide +kernel
theorem dX6_init_111 : decode cX6_init 111 = .ok (.return_, 1) := by decide +kernel
abbrev itW (ct : CT) (h : Nat) (f : Nat → Nat) : va_W := (h, .inr (2, [.ref (f 0), .ref (f 1), .ref (f 2), .int 0])) :: ((([] ++ [(f 0, aI ct.1 40)]) ++ [(f 1, aI ct.1 40)]) ++ [(f 2, aI ct.1 40)])
abbrev soW (ct : CT) (h : Nat) (f : Nat → Nat) : va_W := (h, .inr (3, [.ref (f 0), .ref (f 1), .ref (f 2), .int 0])) :: ((([] ++ [(f 0, aI ct.1 6)]) ++ [(f 1, aI ct.1 6)]) ++ [(f 2, aI ct.1 6)])
abbrev txW (ct : CT) (h : Nat) (f : Nat → Nat) : va_W := (h, .inr (4, [.ref (f 0), .ref (f 1), .int 0])) :: (([] ++ [(f 0, aI ct.1 64)]) ++ [(f 1, aI ct.1 6)])
abbrev btW (ct : CT) (h : Nat) (f : Nat → Nat) : va_W := (h, .inr (1, [.ref (f 0), .ref (f 4)])) :: (([] ++ itW ct (f 0) (fun k => f (1 + k))) ++ itW ct (f 4) (fun k => f (5 + k)))
theorem df_0 : ∀ j, j < 3 → defaultValue (tyX0 j) = vp_V (dfs 0) j := by
  intro j hj
  match j, hj with
  | 0, _ => rfl
  | 1, _ => rfl
  | 2, _ => rfl
theorem df_1 : ∀ j, j < 2 → defaultValue (tyX1 j) = vp_V (dfs 1) j := by
  intro j hj
  match j, hj with
  | 0, _ => rfl
  | 1, _ => rfl
theorem df_2 : ∀ j, j < 4 → defaultValue (tyX2 j) = vp_V (dfs 2) j := by
  intro j hj
  match j, hj with
  | 0, _ => rfl
  | 1, _ => rfl
  | 2, _ => rfl
  | 3, _ => rfl
theorem df_3 : ∀ j, j < 4 → defaultValue (tyX3 j) = vp_V (dfs 3) j := by
  intro j hj
  match j, hj with
  | 0, _ => rfl
  | 1, _ => rfl
  | 2, _ => rfl
  | 3, _ => rfl
theorem df_4 : ∀ j, j < 3 → defaultValue (tyX4 j) = vp_V (dfs 4) j := by
  intro j hj
  match j, hj with
  | 0, _ => rfl
  | 1, _ => rfl
  | 2, _ => rfl
theorem df_5 : ∀ j, j < 8 → defaultValue (tyX5 j) = vp_V (dfs 5) j := by
  intro j hj
  match j, hj with
  | 0, _ => rfl
  | 1, _ => rfl
  | 2, _ => rfl
  | 3, _ => rfl
  | 4, _ => rfl
  | 5, _ => rfl
  | 6, _ => rfl
  | 7, _ => rfl
  | k + 8, h => omega
theorem df_6 : ∀ j, j < 31 → defaultValue (tyX6 j) = vp_V (dfs 6) j := by
  intro j hj
  match j, hj with
  | 0, _ => rfl
  | 1, _ => rfl
  | 2, _ => rfl
  | 3, _ => rfl
  | 4, _ => rfl
  | 5, _ => rfl
  | 6, _ => rfl
  | 7, _ => rfl
  | 8, _ => rfl
  | 9, _ => rfl
  | 10, _ => rfl
  | 11, _ => rfl
  | 12, _ => rfl
  | 13, _ => rfl
  | 14, _ => rfl
  | 15, _ => rfl
  | 16, _ => rfl
  | 17, _ => rfl
  | 18, _ => rfl
  | 19, _ => rfl
  | 20, _ => rfl
  | 21, _ => rfl
  | 22, _ => rfl
  | 23, _ => rfl
  | 24, _ => rfl
  | 25, _ => rfl
  | 26, _ => rfl
  | 27, _ => rfl
  | 28, _ => rfl
  | 29, _ => rfl
  | 30, _ => rfl
  | k + 31, h => omega
def rm2 : Room := { frames := 1, cells := 3, slots := 120, locals := 12 }
set_option maxRecDepth 20000 in
theorem mi_2 (l : Launch) (D : va_G) (ct : CT) : MI l D ct yX2_init cX2_init 1 2 rm2 (itW ct) := by
  refine met_init (by decide) rfl rfl rfl ?_
  intro h0 p e s m below meth c A ls Q C hin hA hl hw fin
  generalize hH : s.heap = H at hw
  have hw : Iw D s A ((h0, .inr (2, [.null, .null, .null, .int 0])) :: []) H [] := hw
  refine lv_aload_n C.1 C.2.1 dX2_init_0 rfl (lv_at hl 0 rfl) ?_
  refine i_obj C hl.1 (WL_of (i := 74) (by decide +kernel) rfl) dX2_init_1 (by decide) (by decide) ?_
  refine lv_aload_n C.1 C.2.1 dX2_init_4 rfl (lv_at hl 0 rfl) ?_
  refine lv_bipush (v := 40) C.1 C.2.1 dX2_init_5 (by decide) ?_
  refine i_newI C hA hw 40 (by decide) (by decide) (by decide) (by decide) (by decide) dX2_init_7 (fun q1 H hw => ?_)
  have hw : Iw D s A ((h0, .inr (2, [.null, .null, .null, .int 0])) :: ([] ++ [(q1, aI ct.1 40)])) H _ := hw
  refine i_putF C hin (k := 0) (v := .ref q1) (ty := (.array .int)) hw (by decide) (WL_of (i := 75) (by decide +kernel) rfl) (by decide) rfl rfl (by decide +kernel) rfl rfl (Nat.le_of_ble_eq_true rfl) dX2_init_9 (fun H locs hw => ?_)
  have hw : Iw D s A ((h0, .inr (2, [.ref q1, .null, .null, .int 0])) :: ([] ++ [(q1, aI ct.1 40)])) H _ := hw
  refine lv_aload_n C.1 C.2.1 dX2_init_12 rfl (lv_at hl 0 rfl) ?_
  refine lv_bipush (v := 40) C.1 C.2.1 dX2_init_13 (by decide) ?_
  refine i_newI C hA hw 40 (by decide) (by decide) (by decide) (by decide) (by decide) dX2_init_15 (fun q2 H hw => ?_)
  have hw : Iw D s A ((h0, .inr (2, [.ref q1, .null, .null, .int 0])) :: (([] ++ [(q1, aI ct.1 40)]) ++ [(q2, aI ct.1 40)])) H _ := hw
  refine i_putF C hin (k := 1) (v := .ref q2) (ty := (.array .int)) hw (by decide) (WL_of (i := 77) (by decide +kernel) rfl) (by decide) rfl rfl (by decide +kernel) rfl rfl (Nat.le_of_ble_eq_true rfl) dX2_init_17 (fun H locs hw => ?_)
  have hw : Iw D s A ((h0, .inr (2, [.ref q1, .ref q2, .null, .int 0])) :: (([] ++ [(q1, aI ct.1 40)]) ++ [(q2, aI ct.1 40)])) H _ := hw
  refine lv_aload_n C.1 C.2.1 dX2_init_20 rfl (lv_at hl 0 rfl) ?_
  refine lv_bipush (v := 40) C.1 C.2.1 dX2_init_21 (by decide) ?_
  refine i_newI C hA hw 40 (by decide) (by decide) (by decide) (by decide) (by decide) dX2_init_23 (fun q3 H hw => ?_)
  have hw : Iw D s A ((h0, .inr (2, [.ref q1, .ref q2, .null, .int 0])) :: ((([] ++ [(q1, aI ct.1 40)]) ++ [(q2, aI ct.1 40)]) ++ [(q3, aI ct.1 40)])) H _ := hw
  refine i_putF C hin (k := 2) (v := .ref q3) (ty := (.array .int)) hw (by decide) (WL_of (i := 79) (by decide +kernel) rfl) (by decide) rfl rfl (by decide +kernel) rfl rfl (Nat.le_of_ble_eq_true rfl) dX2_init_25 (fun H locs hw => ?_)
  have hw : Iw D s A ((h0, .inr (2, [.ref q1, .ref q2, .ref q3, .int 0])) :: ((([] ++ [(q1, aI ct.1 40)]) ++ [(q2, aI ct.1 40)]) ++ [(q3, aI ct.1 40)])) H _ := hw
  refine lv_aload_n C.1 C.2.1 dX2_init_28 rfl (lv_at hl 0 rfl) ?_
  refine lv_iconst (v := 0) C.1 C.2.1 dX2_init_29 (by decide) ?_
  refine i_put C (k := 3) (v := .int 0) (ty := .int) hw (by decide) (WL_of (i := 81) (by decide +kernel) rfl) (by decide) rfl (by decide +kernel) rfl rfl (Nat.le_of_ble_eq_true rfl) dX2_init_30 (fun H locs hw => ?_)
  have hw : Iw D s A ((h0, .inr (2, [.ref q1, .ref q2, .ref q3, .int 0])) :: ((([] ++ [(q1, aI ct.1 40)]) ++ [(q2, aI ct.1 40)]) ++ [(q3, aI ct.1 40)])) H _ := hw
  exact fin (fun k => match k with | 0 => q1 | 1 => q2 | _ => q3) H _ _ _ hw dX2_init_33
def rm3 : Room := { frames := 1, cells := 3, slots := 18, locals := 12 }
set_option maxRecDepth 20000 in
theorem mi_3 (l : Launch) (D : va_G) (ct : CT) : MI l D ct yX3_init cX3_init 1 3 rm3 (soW ct) := by
  refine met_init (by decide) rfl rfl rfl ?_
  intro h0 p e s m below meth c A ls Q C hin hA hl hw fin
  generalize hH : s.heap = H at hw
  have hw : Iw D s A ((h0, .inr (3, [.null, .null, .null, .int 0])) :: []) H [] := hw
  refine lv_aload_n C.1 C.2.1 dX3_init_0 rfl (lv_at hl 0 rfl) ?_
  refine i_obj C hl.1 (WL_of (i := 144) (by decide +kernel) rfl) dX3_init_1 (by decide) (by decide) ?_
  refine lv_aload_n C.1 C.2.1 dX3_init_4 rfl (lv_at hl 0 rfl) ?_
  refine lv_bipush (v := 6) C.1 C.2.1 dX3_init_5 (by decide) ?_
  refine i_newI C hA hw 6 (by decide) (by decide) (by decide) (by decide) (by decide) dX3_init_7 (fun q1 H hw => ?_)
  have hw : Iw D s A ((h0, .inr (3, [.null, .null, .null, .int 0])) :: ([] ++ [(q1, aI ct.1 6)])) H _ := hw
  refine i_putF C hin (k := 0) (v := .ref q1) (ty := (.array .int)) hw (by decide) (WL_of (i := 145) (by decide +kernel) rfl) (by decide) rfl rfl (by decide +kernel) rfl rfl (Nat.le_of_ble_eq_true rfl) dX3_init_9 (fun H locs hw => ?_)
  have hw : Iw D s A ((h0, .inr (3, [.ref q1, .null, .null, .int 0])) :: ([] ++ [(q1, aI ct.1 6)])) H _ := hw
  refine lv_aload_n C.1 C.2.1 dX3_init_12 rfl (lv_at hl 0 rfl) ?_
  refine lv_bipush (v := 6) C.1 C.2.1 dX3_init_13 (by decide) ?_
  refine i_newI C hA hw 6 (by decide) (by decide) (by decide) (by decide) (by decide) dX3_init_15 (fun q2 H hw => ?_)
  have hw : Iw D s A ((h0, .inr (3, [.ref q1, .null, .null, .int 0])) :: (([] ++ [(q1, aI ct.1 6)]) ++ [(q2, aI ct.1 6)])) H _ := hw
  refine i_putF C hin (k := 1) (v := .ref q2) (ty := (.array .int)) hw (by decide) (WL_of (i := 146) (by decide +kernel) rfl) (by decide) rfl rfl (by decide +kernel) rfl rfl (Nat.le_of_ble_eq_true rfl) dX3_init_17 (fun H locs hw => ?_)
  have hw : Iw D s A ((h0, .inr (3, [.ref q1, .ref q2, .null, .int 0])) :: (([] ++ [(q1, aI ct.1 6)]) ++ [(q2, aI ct.1 6)])) H _ := hw
  refine lv_aload_n C.1 C.2.1 dX3_init_20 rfl (lv_at hl 0 rfl) ?_
  refine lv_bipush (v := 6) C.1 C.2.1 dX3_init_21 (by decide) ?_
  refine i_newI C hA hw 6 (by decide) (by decide) (by decide) (by decide) (by decide) dX3_init_23 (fun q3 H hw => ?_)
  have hw : Iw D s A ((h0, .inr (3, [.ref q1, .ref q2, .null, .int 0])) :: ((([] ++ [(q1, aI ct.1 6)]) ++ [(q2, aI ct.1 6)]) ++ [(q3, aI ct.1 6)])) H _ := hw
  refine i_putF C hin (k := 2) (v := .ref q3) (ty := (.array .int)) hw (by decide) (WL_of (i := 147) (by decide +kernel) rfl) (by decide) rfl rfl (by decide +kernel) rfl rfl (Nat.le_of_ble_eq_true rfl) dX3_init_25 (fun H locs hw => ?_)
  have hw : Iw D s A ((h0, .inr (3, [.ref q1, .ref q2, .ref q3, .int 0])) :: ((([] ++ [(q1, aI ct.1 6)]) ++ [(q2, aI ct.1 6)]) ++ [(q3, aI ct.1 6)])) H _ := hw
  refine lv_aload_n C.1 C.2.1 dX3_init_28 rfl (lv_at hl 0 rfl) ?_
  refine lv_iconst (v := 0) C.1 C.2.1 dX3_init_29 (by decide) ?_
  refine i_put C (k := 3) (v := .int 0) (ty := .int) hw (by decide) (WL_of (i := 148) (by decide +kernel) rfl) (by decide) rfl (by decide +kernel) rfl rfl (Nat.le_of_ble_eq_true rfl) dX3_init_30 (fun H locs hw => ?_)
  have hw : Iw D s A ((h0, .inr (3, [.ref q1, .ref q2, .ref q3, .int 0])) :: ((([] ++ [(q1, aI ct.1 6)]) ++ [(q2, aI ct.1 6)]) ++ [(q3, aI ct.1 6)])) H _ := hw
  exact fin (fun k => match k with | 0 => q1 | 1 => q2 | _ => q3) H _ _ _ hw dX3_init_33
def rm4 : Room := { frames := 1, cells := 2, slots := 70, locals := 12 }
set_option maxRecDepth 20000 in
theorem mi_4 (l : Launch) (D : va_G) (ct : CT) : MI l D ct yX4_init cX4_init 1 4 rm4 (txW ct) := by
  refine met_init (by decide) rfl rfl rfl ?_
  intro h0 p e s m below meth c A ls Q C hin hA hl hw fin
  generalize hH : s.heap = H at hw
  have hw : Iw D s A ((h0, .inr (4, [.null, .null, .int 0])) :: []) H [] := hw
  refine lv_aload_n C.1 C.2.1 dX4_init_0 rfl (lv_at hl 0 rfl) ?_
  refine i_obj C hl.1 (WL_of (i := 127) (by decide +kernel) rfl) dX4_init_1 (by decide) (by decide) ?_
  refine lv_aload_n C.1 C.2.1 dX4_init_4 rfl (lv_at hl 0 rfl) ?_
  refine lv_bipush (v := 64) C.1 C.2.1 dX4_init_5 (by decide) ?_
  refine i_newI C hA hw 64 (by decide) (by decide) (by decide) (by decide) (by decide) dX4_init_7 (fun q1 H hw => ?_)
  have hw : Iw D s A ((h0, .inr (4, [.null, .null, .int 0])) :: ([] ++ [(q1, aI ct.1 64)])) H _ := hw
  refine i_putF C hin (k := 0) (v := .ref q1) (ty := (.array .int)) hw (by decide) (WL_of (i := 128) (by decide +kernel) rfl) (by decide) rfl rfl (by decide +kernel) rfl rfl (Nat.le_of_ble_eq_true rfl) dX4_init_9 (fun H locs hw => ?_)
  have hw : Iw D s A ((h0, .inr (4, [.ref q1, .null, .int 0])) :: ([] ++ [(q1, aI ct.1 64)])) H _ := hw
  refine lv_aload_n C.1 C.2.1 dX4_init_12 rfl (lv_at hl 0 rfl) ?_
  refine lv_bipush (v := 6) C.1 C.2.1 dX4_init_13 (by decide) ?_
  refine i_newI C hA hw 6 (by decide) (by decide) (by decide) (by decide) (by decide) dX4_init_15 (fun q2 H hw => ?_)
  have hw : Iw D s A ((h0, .inr (4, [.ref q1, .null, .int 0])) :: (([] ++ [(q1, aI ct.1 64)]) ++ [(q2, aI ct.1 6)])) H _ := hw
  refine i_putF C hin (k := 1) (v := .ref q2) (ty := (.array .int)) hw (by decide) (WL_of (i := 129) (by decide +kernel) rfl) (by decide) rfl rfl (by decide +kernel) rfl rfl (Nat.le_of_ble_eq_true rfl) dX4_init_17 (fun H locs hw => ?_)
  have hw : Iw D s A ((h0, .inr (4, [.ref q1, .ref q2, .int 0])) :: (([] ++ [(q1, aI ct.1 64)]) ++ [(q2, aI ct.1 6)])) H _ := hw
  refine lv_aload_n C.1 C.2.1 dX4_init_20 rfl (lv_at hl 0 rfl) ?_
  refine lv_iconst (v := 0) C.1 C.2.1 dX4_init_21 (by decide) ?_
  refine i_put C (k := 2) (v := .int 0) (ty := .int) hw (by decide) (WL_of (i := 130) (by decide +kernel) rfl) (by decide) rfl (by decide +kernel) rfl rfl (Nat.le_of_ble_eq_true rfl) dX4_init_22 (fun H locs hw => ?_)
  have hw : Iw D s A ((h0, .inr (4, [.ref q1, .ref q2, .int 0])) :: (([] ++ [(q1, aI ct.1 64)]) ++ [(q2, aI ct.1 6)])) H _ := hw
  exact fin (fun k => match k with | 0 => q1 | _ => q2) H _ _ _ hw dX4_init_25
def rm1 : Room := { frames := 2, cells := 8, slots := 248, locals := 32 }
set_option maxRecDepth 20000 in
theorem mi_1 (l : Launch) (D : va_G) (ct : CT) : MI l D ct yX1_init cX1_init 1 1 rm1 (btW ct) := by
  refine met_init (by decide) rfl rfl rfl ?_
  intro h0 p e s m below meth c A ls Q C hin hA hl hw fin
  generalize hH : s.heap = H at hw
  have hw : Iw D s A ((h0, .inr (1, [.null, .null])) :: []) H [] := hw
  refine lv_aload_n C.1 C.2.1 dX1_init_0 rfl (lv_at hl 0 rfl) ?_
  refine i_obj C hl.1 (WL_of (i := 68) (by decide +kernel) rfl) dX1_init_1 (by decide) (by decide) ?_
  refine lv_aload_n C.1 C.2.1 dX1_init_4 rfl (lv_at hl 0 rfl) ?_
  refine i_new C hA hw 2 4 tyX2 rfl (fun w h => List.mem_filter.mpr (lay_2 w h)) tyX2_ok (WL_of (i := 69) (by decide +kernel) rfl) (WL_of (i := 70) (by decide +kernel) rfl) (WL_of (i := 47) (by decide +kernel) rfl) df_2 (by decide) (by decide) dX1_init_5 (fun q1 H hw => ?_)
  have hw : Iw D s A ((h0, .inr (1, [.null, .null])) :: ([] ++ [(q1, .inr (2, dfs 2))])) H _ := hw
  refine lv_dup C.1 C.2.1 dX1_init_8 rfl ?_
  refine i_callN (ws := (h0, .inr (1, [.null, .null])) :: []) C hA hw (mi_2 l D ct) (WL_of (i := 73) (by decide +kernel) rfl) (WL_of (i := 72) (by decide +kernel) rfl) (WL_of (i := 47) (by decide +kernel) rfl) C.2.2.2.2.2.2.1 (by decide +kernel) rfl (by decide) (by decide) hl.1 (Nat.le_of_ble_eq_true rfl) (by decide) (by decide) dX1_init_9 (fun f1 H locs hw => ?_)
  have hw : Iw D s A ((h0, .inr (1, [.null, .null])) :: ([] ++ itW ct q1 f1)) H _ := hw
  refine i_putF C hin (k := 0) (v := .ref q1) (ty := (.object "ThreeGaps$Items")) hw (by decide) (WL_of (i := 95) (by decide +kernel) rfl) (by decide) rfl rfl (by decide +kernel) rfl rfl (Nat.le_of_ble_eq_true rfl) dX1_init_12 (fun H locs hw => ?_)
  have hw : Iw D s A ((h0, .inr (1, [.ref q1, .null])) :: ([] ++ itW ct q1 f1)) H _ := hw
  refine lv_aload_n C.1 C.2.1 dX1_init_15 rfl (lv_at hl 0 rfl) ?_
  refine i_new C hA hw 2 4 tyX2 rfl (fun w h => List.mem_filter.mpr (lay_2 w h)) tyX2_ok (WL_of (i := 69) (by decide +kernel) rfl) (WL_of (i := 70) (by decide +kernel) rfl) (WL_of (i := 47) (by decide +kernel) rfl) df_2 (by decide) (by decide) dX1_init_16 (fun q2 H hw => ?_)
  have hw : Iw D s A ((h0, .inr (1, [.ref q1, .null])) :: (([] ++ itW ct q1 f1) ++ [(q2, .inr (2, dfs 2))])) H _ := hw
  refine lv_dup C.1 C.2.1 dX1_init_19 rfl ?_
  refine i_callN (ws := (h0, .inr (1, [.ref q1, .null])) :: ([] ++ itW ct q1 f1)) C hA hw (mi_2 l D ct) (WL_of (i := 73) (by decide +kernel) rfl) (WL_of (i := 72) (by decide +kernel) rfl) (WL_of (i := 47) (by decide +kernel) rfl) C.2.2.2.2.2.2.1 (by decide +kernel) rfl (by decide) (by decide) hl.1 (Nat.le_of_ble_eq_true rfl) (by decide) (by decide) dX1_init_20 (fun f2 H locs hw => ?_)
  have hw : Iw D s A ((h0, .inr (1, [.ref q1, .null])) :: (([] ++ itW ct q1 f1) ++ itW ct q2 f2)) H _ := hw
  refine i_putF C hin (k := 1) (v := .ref q2) (ty := (.object "ThreeGaps$Items")) hw (by decide) (WL_of (i := 96) (by decide +kernel) rfl) (by decide) rfl rfl (by decide +kernel) rfl rfl (Nat.le_of_ble_eq_true rfl) dX1_init_23 (fun H locs hw => ?_)
  have hw : Iw D s A ((h0, .inr (1, [.ref q1, .ref q2])) :: (([] ++ itW ct q1 f1) ++ itW ct q2 f2)) H _ := hw
  exact fin (fun k => match k with | 0 => q1 | 1 => f1 0 | 2 => f1 1 | 3 => f1 2 | 4 => q2 | 5 => f2 0 | 6 => f2 1 | _ => f2 2) H _ _ _ hw dX1_init_26
abbrev mdW (ct : CT) (h : Nat) (f : Nat → Nat) : va_W := (h, .inr (6, [.int 0, .ref (f 0), .int 0, .int 0, .ref (f 1), .int 0, .int 0, .ref (f 2), .ref (f 3), .ref (f 4), .ref (f 5), .int 0, .ref (f 6), .ref (f 7), .int 0, .ref (f 8), .ref (f 9), .ref (f 10), .long 0, .int 0, .int 0, .int 0, .int 0, .int 0, .int 0, .int 0, .int 0, .int 0, .int 0, .ref (f 11), .ref (f 12)])) :: ((((((((((((([] ++ [(f 0, aI ct.1 64)]) ++ [(f 1, aI ct.1 8)]) ++ [(f 2, aI ct.1 121)]) ++ [(f 3, aI ct.1 242)]) ++ [(f 4, aI ct.1 242)]) ++ [(f 5, aI ct.1 3388)]) ++ [(f 6, aI ct.1 484)]) ++ [(f 7, aI ct.2.1 2)]) ++ [(f 8, aI ct.1 6)]) ++ [(f 9, aI ct.1 6)]) ++ [(f 10, aI ct.1 6)]) ++ [(f 11, aI ct.1 8)]) ++ [(f 12, aI ct.1 16)])
def rm6 : Room := { frames := 1, cells := 13, slots := 4593, locals := 12 }
set_option maxRecDepth 20000 in
theorem mi_6 (l : Launch) (D : va_G) (ct : CT) : MI l D ct yX6_init cX6_init 1 6 rm6 (mdW ct) := by
  refine met_init (by decide) rfl rfl rfl ?_
  intro h0 p e s m below meth c A ls Q C hin hA hl hw fin
  generalize hH : s.heap = H at hw
  have hw : Iw D s A ((h0, .inr (6, [.int 0, .null, .int 0, .int 0, .null, .int 0, .int 0, .null, .null, .null, .null, .int 0, .null, .null, .int 0, .null, .null, .null, .long 0, .int 0, .int 0, .int 0, .int 0, .int 0, .int 0, .int 0, .int 0, .int 0, .int 0, .null, .null])) :: []) H [] := hw
  refine lv_aload_n C.1 C.2.1 dX6_init_0 rfl (lv_at hl 0 rfl) ?_
  refine i_obj C hl.1 (WL_of (i := 572) (by decide +kernel) rfl) dX6_init_1 (by decide) (by decide) ?_
  refine lv_aload_n C.1 C.2.1 dX6_init_4 rfl (lv_at hl 0 rfl) ?_
  refine lv_bipush (v := 64) C.1 C.2.1 dX6_init_5 (by decide) ?_
  refine i_newI C hA hw 64 (by decide) (by decide) (by decide) (by decide) (by decide) dX6_init_7 (fun q1 H hw => ?_)
  have hw : Iw D s A ((h0, .inr (6, [.int 0, .null, .int 0, .int 0, .null, .int 0, .int 0, .null, .null, .null, .null, .int 0, .null, .null, .int 0, .null, .null, .null, .long 0, .int 0, .int 0, .int 0, .int 0, .int 0, .int 0, .int 0, .int 0, .int 0, .int 0, .null, .null])) :: ([] ++ [(q1, aI ct.1 64)])) H _ := hw
  refine i_putF C hin (k := 1) (v := .ref q1) (ty := (.array .int)) hw (by decide) (WL_of (i := 574) (by decide +kernel) rfl) (by decide) rfl rfl (by decide +kernel) rfl rfl (Nat.le_of_ble_eq_true rfl) dX6_init_9 (fun H locs hw => ?_)
  have hw : Iw D s A ((h0, .inr (6, [.int 0, .ref q1, .int 0, .int 0, .null, .int 0, .int 0, .null, .null, .null, .null, .int 0, .null, .null, .int 0, .null, .null, .null, .long 0, .int 0, .int 0, .int 0, .int 0, .int 0, .int 0, .int 0, .int 0, .int 0, .int 0, .null, .null])) :: ([] ++ [(q1, aI ct.1 64)])) H _ := hw
  refine lv_aload_n C.1 C.2.1 dX6_init_12 rfl (lv_at hl 0 rfl) ?_
  refine lv_bipush (v := 8) C.1 C.2.1 dX6_init_13 (by decide) ?_
  refine i_newI C hA hw 8 (by decide) (by decide) (by decide) (by decide) (by decide) dX6_init_15 (fun q2 H hw => ?_)
  have hw : Iw D s A ((h0, .inr (6, [.int 0, .ref q1, .int 0, .int 0, .null, .int 0, .int 0, .null, .null, .null, .null, .int 0, .null, .null, .int 0, .null, .null, .null, .long 0, .int 0, .int 0, .int 0, .int 0, .int 0, .int 0, .int 0, .int 0, .int 0, .int 0, .null, .null])) :: (([] ++ [(q1, aI ct.1 64)]) ++ [(q2, aI ct.1 8)])) H _ := hw
  refine i_putF C hin (k := 4) (v := .ref q2) (ty := (.array .int)) hw (by decide) (WL_of (i := 577) (by decide +kernel) rfl) (by decide) rfl rfl (by decide +kernel) rfl rfl (Nat.le_of_ble_eq_true rfl) dX6_init_17 (fun H locs hw => ?_)
  have hw : Iw D s A ((h0, .inr (6, [.int 0, .ref q1, .int 0, .int 0, .ref q2, .int 0, .int 0, .null, .null, .null, .null, .int 0, .null, .null, .int 0, .null, .null, .null, .long 0, .int 0, .int 0, .int 0, .int 0, .int 0, .int 0, .int 0, .int 0, .int 0, .int 0, .null, .null])) :: (([] ++ [(q1, aI ct.1 64)]) ++ [(q2, aI ct.1 8)])) H _ := hw
  refine lv_aload_n C.1 C.2.1 dX6_init_20 rfl (lv_at hl 0 rfl) ?_
  refine lv_bipush (v := 121) C.1 C.2.1 dX6_init_21 (by decide) ?_
  refine i_newI C hA hw 121 (by decide) (by decide) (by decide) (by decide) (by decide) dX6_init_23 (fun q3 H hw => ?_)
  have hw : Iw D s A ((h0, .inr (6, [.int 0, .ref q1, .int 0, .int 0, .ref q2, .int 0, .int 0, .null, .null, .null, .null, .int 0, .null, .null, .int 0, .null, .null, .null, .long 0, .int 0, .int 0, .int 0, .int 0, .int 0, .int 0, .int 0, .int 0, .int 0, .int 0, .null, .null])) :: ((([] ++ [(q1, aI ct.1 64)]) ++ [(q2, aI ct.1 8)]) ++ [(q3, aI ct.1 121)])) H _ := hw
  refine i_putF C hin (k := 7) (v := .ref q3) (ty := (.array .int)) hw (by decide) (WL_of (i := 580) (by decide +kernel) rfl) (by decide) rfl rfl (by decide +kernel) rfl rfl (Nat.le_of_ble_eq_true rfl) dX6_init_25 (fun H locs hw => ?_)
  have hw : Iw D s A ((h0, .inr (6, [.int 0, .ref q1, .int 0, .int 0, .ref q2, .int 0, .int 0, .ref q3, .null, .null, .null, .int 0, .null, .null, .int 0, .null, .null, .null, .long 0, .int 0, .int 0, .int 0, .int 0, .int 0, .int 0, .int 0, .int 0, .int 0, .int 0, .null, .null])) :: ((([] ++ [(q1, aI ct.1 64)]) ++ [(q2, aI ct.1 8)]) ++ [(q3, aI ct.1 121)])) H _ := hw
  refine lv_aload_n C.1 C.2.1 dX6_init_28 rfl (lv_at hl 0 rfl) ?_
  refine lv_sipush (v := 242) C.1 C.2.1 dX6_init_29 (by decide) ?_
  refine i_newI C hA hw 242 (by decide) (by decide) (by decide) (by decide) (by decide) dX6_init_32 (fun q4 H hw => ?_)
  have hw : Iw D s A ((h0, .inr (6, [.int 0, .ref q1, .int 0, .int 0, .ref q2, .int 0, .int 0, .ref q3, .null, .null, .null, .int 0, .null, .null, .int 0, .null, .null, .null, .long 0, .int 0, .int 0, .int 0, .int 0, .int 0, .int 0, .int 0, .int 0, .int 0, .int 0, .null, .null])) :: (((([] ++ [(q1, aI ct.1 64)]) ++ [(q2, aI ct.1 8)]) ++ [(q3, aI ct.1 121)]) ++ [(q4, aI ct.1 242)])) H _ := hw
  refine i_putF C hin (k := 8) (v := .ref q4) (ty := (.array .int)) hw (by decide) (WL_of (i := 581) (by decide +kernel) rfl) (by decide) rfl rfl (by decide +kernel) rfl rfl (Nat.le_of_ble_eq_true rfl) dX6_init_34 (fun H locs hw => ?_)
  have hw : Iw D s A ((h0, .inr (6, [.int 0, .ref q1, .int 0, .int 0, .ref q2, .int 0, .int 0, .ref q3, .ref q4, .null, .null, .int 0, .null, .null, .int 0, .null, .null, .null, .long 0, .int 0, .int 0, .int 0, .int 0, .int 0, .int 0, .int 0, .int 0, .int 0, .int 0, .null, .null])) :: (((([] ++ [(q1, aI ct.1 64)]) ++ [(q2, aI ct.1 8)]) ++ [(q3, aI ct.1 121)]) ++ [(q4, aI ct.1 242)])) H _ := hw
  refine lv_aload_n C.1 C.2.1 dX6_init_37 rfl (lv_at hl 0 rfl) ?_
  refine lv_sipush (v := 242) C.1 C.2.1 dX6_init_38 (by decide) ?_
  refine i_newI C hA hw 242 (by decide) (by decide) (by decide) (by decide) (by decide) dX6_init_41 (fun q5 H hw => ?_)
  have hw : Iw D s A ((h0, .inr (6, [.int 0, .ref q1, .int 0, .int 0, .ref q2, .int 0, .int 0, .ref q3, .ref q4, .null, .null, .int 0, .null, .null, .int 0, .null, .null, .null, .long 0, .int 0, .int 0, .int 0, .int 0, .int 0, .int 0, .int 0, .int 0, .int 0, .int 0, .null, .null])) :: ((((([] ++ [(q1, aI ct.1 64)]) ++ [(q2, aI ct.1 8)]) ++ [(q3, aI ct.1 121)]) ++ [(q4, aI ct.1 242)]) ++ [(q5, aI ct.1 242)])) H _ := hw
  refine i_putF C hin (k := 9) (v := .ref q5) (ty := (.array .int)) hw (by decide) (WL_of (i := 582) (by decide +kernel) rfl) (by decide) rfl rfl (by decide +kernel) rfl rfl (Nat.le_of_ble_eq_true rfl) dX6_init_43 (fun H locs hw => ?_)
  have hw : Iw D s A ((h0, .inr (6, [.int 0, .ref q1, .int 0, .int 0, .ref q2, .int 0, .int 0, .ref q3, .ref q4, .ref q5, .null, .int 0, .null, .null, .int 0, .null, .null, .null, .long 0, .int 0, .int 0, .int 0, .int 0, .int 0, .int 0, .int 0, .int 0, .int 0, .int 0, .null, .null])) :: ((((([] ++ [(q1, aI ct.1 64)]) ++ [(q2, aI ct.1 8)]) ++ [(q3, aI ct.1 121)]) ++ [(q4, aI ct.1 242)]) ++ [(q5, aI ct.1 242)])) H _ := hw
  refine lv_aload_n C.1 C.2.1 dX6_init_46 rfl (lv_at hl 0 rfl) ?_
  refine lv_sipush (v := 3388) C.1 C.2.1 dX6_init_47 (by decide) ?_
  refine i_newI C hA hw 3388 (by decide) (by decide) (by decide) (by decide) (by decide) dX6_init_50 (fun q6 H hw => ?_)
  have hw : Iw D s A ((h0, .inr (6, [.int 0, .ref q1, .int 0, .int 0, .ref q2, .int 0, .int 0, .ref q3, .ref q4, .ref q5, .null, .int 0, .null, .null, .int 0, .null, .null, .null, .long 0, .int 0, .int 0, .int 0, .int 0, .int 0, .int 0, .int 0, .int 0, .int 0, .int 0, .null, .null])) :: (((((([] ++ [(q1, aI ct.1 64)]) ++ [(q2, aI ct.1 8)]) ++ [(q3, aI ct.1 121)]) ++ [(q4, aI ct.1 242)]) ++ [(q5, aI ct.1 242)]) ++ [(q6, aI ct.1 3388)])) H _ := hw
  refine i_putF C hin (k := 10) (v := .ref q6) (ty := (.array .int)) hw (by decide) (WL_of (i := 583) (by decide +kernel) rfl) (by decide) rfl rfl (by decide +kernel) rfl rfl (Nat.le_of_ble_eq_true rfl) dX6_init_52 (fun H locs hw => ?_)
  have hw : Iw D s A ((h0, .inr (6, [.int 0, .ref q1, .int 0, .int 0, .ref q2, .int 0, .int 0, .ref q3, .ref q4, .ref q5, .ref q6, .int 0, .null, .null, .int 0, .null, .null, .null, .long 0, .int 0, .int 0, .int 0, .int 0, .int 0, .int 0, .int 0, .int 0, .int 0, .int 0, .null, .null])) :: (((((([] ++ [(q1, aI ct.1 64)]) ++ [(q2, aI ct.1 8)]) ++ [(q3, aI ct.1 121)]) ++ [(q4, aI ct.1 242)]) ++ [(q5, aI ct.1 242)]) ++ [(q6, aI ct.1 3388)])) H _ := hw
  refine lv_aload_n C.1 C.2.1 dX6_init_55 rfl (lv_at hl 0 rfl) ?_
  refine lv_sipush (v := 484) C.1 C.2.1 dX6_init_56 (by decide) ?_
  refine i_newI C hA hw 484 (by decide) (by decide) (by decide) (by decide) (by decide) dX6_init_59 (fun q7 H hw => ?_)
  have hw : Iw D s A ((h0, .inr (6, [.int 0, .ref q1, .int 0, .int 0, .ref q2, .int 0, .int 0, .ref q3, .ref q4, .ref q5, .ref q6, .int 0, .null, .null, .int 0, .null, .null, .null, .long 0, .int 0, .int 0, .int 0, .int 0, .int 0, .int 0, .int 0, .int 0, .int 0, .int 0, .null, .null])) :: ((((((([] ++ [(q1, aI ct.1 64)]) ++ [(q2, aI ct.1 8)]) ++ [(q3, aI ct.1 121)]) ++ [(q4, aI ct.1 242)]) ++ [(q5, aI ct.1 242)]) ++ [(q6, aI ct.1 3388)]) ++ [(q7, aI ct.1 484)])) H _ := hw
  refine i_putF C hin (k := 12) (v := .ref q7) (ty := (.array .int)) hw (by decide) (WL_of (i := 585) (by decide +kernel) rfl) (by decide) rfl rfl (by decide +kernel) rfl rfl (Nat.le_of_ble_eq_true rfl) dX6_init_61 (fun H locs hw => ?_)
  have hw : Iw D s A ((h0, .inr (6, [.int 0, .ref q1, .int 0, .int 0, .ref q2, .int 0, .int 0, .ref q3, .ref q4, .ref q5, .ref q6, .int 0, .ref q7, .null, .int 0, .null, .null, .null, .long 0, .int 0, .int 0, .int 0, .int 0, .int 0, .int 0, .int 0, .int 0, .int 0, .int 0, .null, .null])) :: ((((((([] ++ [(q1, aI ct.1 64)]) ++ [(q2, aI ct.1 8)]) ++ [(q3, aI ct.1 121)]) ++ [(q4, aI ct.1 242)]) ++ [(q5, aI ct.1 242)]) ++ [(q6, aI ct.1 3388)]) ++ [(q7, aI ct.1 484)])) H _ := hw
  refine lv_aload_n C.1 C.2.1 dX6_init_64 rfl (lv_at hl 0 rfl) ?_
  refine lv_iconst (v := 2) C.1 C.2.1 dX6_init_65 (by decide) ?_
  refine i_newZ C hA hw 2 (by decide) (by decide) (by decide) (by decide) (by decide) dX6_init_66 (fun q8 H hw => ?_)
  have hw : Iw D s A ((h0, .inr (6, [.int 0, .ref q1, .int 0, .int 0, .ref q2, .int 0, .int 0, .ref q3, .ref q4, .ref q5, .ref q6, .int 0, .ref q7, .null, .int 0, .null, .null, .null, .long 0, .int 0, .int 0, .int 0, .int 0, .int 0, .int 0, .int 0, .int 0, .int 0, .int 0, .null, .null])) :: (((((((([] ++ [(q1, aI ct.1 64)]) ++ [(q2, aI ct.1 8)]) ++ [(q3, aI ct.1 121)]) ++ [(q4, aI ct.1 242)]) ++ [(q5, aI ct.1 242)]) ++ [(q6, aI ct.1 3388)]) ++ [(q7, aI ct.1 484)]) ++ [(q8, aI ct.2.1 2)])) H _ := hw
  refine i_putF C hin (k := 13) (v := .ref q8) (ty := (.array .boolean)) hw (by decide) (WL_of (i := 586) (by decide +kernel) rfl) (by decide) rfl rfl (by decide +kernel) rfl rfl (Nat.le_of_ble_eq_true rfl) dX6_init_68 (fun H locs hw => ?_)
  have hw : Iw D s A ((h0, .inr (6, [.int 0, .ref q1, .int 0, .int 0, .ref q2, .int 0, .int 0, .ref q3, .ref q4, .ref q5, .ref q6, .int 0, .ref q7, .ref q8, .int 0, .null, .null, .null, .long 0, .int 0, .int 0, .int 0, .int 0, .int 0, .int 0, .int 0, .int 0, .int 0, .int 0, .null, .null])) :: (((((((([] ++ [(q1, aI ct.1 64)]) ++ [(q2, aI ct.1 8)]) ++ [(q3, aI ct.1 121)]) ++ [(q4, aI ct.1 242)]) ++ [(q5, aI ct.1 242)]) ++ [(q6, aI ct.1 3388)]) ++ [(q7, aI ct.1 484)]) ++ [(q8, aI ct.2.1 2)])) H _ := hw
  refine lv_aload_n C.1 C.2.1 dX6_init_71 rfl (lv_at hl 0 rfl) ?_
  refine lv_bipush (v := 6) C.1 C.2.1 dX6_init_72 (by decide) ?_
  refine i_newI C hA hw 6 (by decide) (by decide) (by decide) (by decide) (by decide) dX6_init_74 (fun q9 H hw => ?_)
  have hw : Iw D s A ((h0, .inr (6, [.int 0, .ref q1, .int 0, .int 0, .ref q2, .int 0, .int 0, .ref q3, .ref q4, .ref q5, .ref q6, .int 0, .ref q7, .ref q8, .int 0, .null, .null, .null, .long 0, .int 0, .int 0, .int 0, .int 0, .int 0, .int 0, .int 0, .int 0, .int 0, .int 0, .null, .null])) :: ((((((((([] ++ [(q1, aI ct.1 64)]) ++ [(q2, aI ct.1 8)]) ++ [(q3, aI ct.1 121)]) ++ [(q4, aI ct.1 242)]) ++ [(q5, aI ct.1 242)]) ++ [(q6, aI ct.1 3388)]) ++ [(q7, aI ct.1 484)]) ++ [(q8, aI ct.2.1 2)]) ++ [(q9, aI ct.1 6)])) H _ := hw
  refine i_putF C hin (k := 15) (v := .ref q9) (ty := (.array .int)) hw (by decide) (WL_of (i := 588) (by decide +kernel) rfl) (by decide) rfl rfl (by decide +kernel) rfl rfl (Nat.le_of_ble_eq_true rfl) dX6_init_76 (fun H locs hw => ?_)
  have hw : Iw D s A ((h0, .inr (6, [.int 0, .ref q1, .int 0, .int 0, .ref q2, .int 0, .int 0, .ref q3, .ref q4, .ref q5, .ref q6, .int 0, .ref q7, .ref q8, .int 0, .ref q9, .null, .null, .long 0, .int 0, .int 0, .int 0, .int 0, .int 0, .int 0, .int 0, .int 0, .int 0, .int 0, .null, .null])) :: ((((((((([] ++ [(q1, aI ct.1 64)]) ++ [(q2, aI ct.1 8)]) ++ [(q3, aI ct.1 121)]) ++ [(q4, aI ct.1 242)]) ++ [(q5, aI ct.1 242)]) ++ [(q6, aI ct.1 3388)]) ++ [(q7, aI ct.1 484)]) ++ [(q8, aI ct.2.1 2)]) ++ [(q9, aI ct.1 6)])) H _ := hw
  refine lv_aload_n C.1 C.2.1 dX6_init_79 rfl (lv_at hl 0 rfl) ?_
  refine lv_bipush (v := 6) C.1 C.2.1 dX6_init_80 (by decide) ?_
  refine i_newI C hA hw 6 (by decide) (by decide) (by decide) (by decide) (by decide) dX6_init_82 (fun q10 H hw => ?_)
  have hw : Iw D s A ((h0, .inr (6, [.int 0, .ref q1, .int 0, .int 0, .ref q2, .int 0, .int 0, .ref q3, .ref q4, .ref q5, .ref q6, .int 0, .ref q7, .ref q8, .int 0, .ref q9, .null, .null, .long 0, .int 0, .int 0, .int 0, .int 0, .int 0, .int 0, .int 0, .int 0, .int 0, .int 0, .null, .null])) :: (((((((((([] ++ [(q1, aI ct.1 64)]) ++ [(q2, aI ct.1 8)]) ++ [(q3, aI ct.1 121)]) ++ [(q4, aI ct.1 242)]) ++ [(q5, aI ct.1 242)]) ++ [(q6, aI ct.1 3388)]) ++ [(q7, aI ct.1 484)]) ++ [(q8, aI ct.2.1 2)]) ++ [(q9, aI ct.1 6)]) ++ [(q10, aI ct.1 6)])) H _ := hw
  refine i_putF C hin (k := 16) (v := .ref q10) (ty := (.array .int)) hw (by decide) (WL_of (i := 589) (by decide +kernel) rfl) (by decide) rfl rfl (by decide +kernel) rfl rfl (Nat.le_of_ble_eq_true rfl) dX6_init_84 (fun H locs hw => ?_)
  have hw : Iw D s A ((h0, .inr (6, [.int 0, .ref q1, .int 0, .int 0, .ref q2, .int 0, .int 0, .ref q3, .ref q4, .ref q5, .ref q6, .int 0, .ref q7, .ref q8, .int 0, .ref q9, .ref q10, .null, .long 0, .int 0, .int 0, .int 0, .int 0, .int 0, .int 0, .int 0, .int 0, .int 0, .int 0, .null, .null])) :: (((((((((([] ++ [(q1, aI ct.1 64)]) ++ [(q2, aI ct.1 8)]) ++ [(q3, aI ct.1 121)]) ++ [(q4, aI ct.1 242)]) ++ [(q5, aI ct.1 242)]) ++ [(q6, aI ct.1 3388)]) ++ [(q7, aI ct.1 484)]) ++ [(q8, aI ct.2.1 2)]) ++ [(q9, aI ct.1 6)]) ++ [(q10, aI ct.1 6)])) H _ := hw
  refine lv_aload_n C.1 C.2.1 dX6_init_87 rfl (lv_at hl 0 rfl) ?_
  refine lv_bipush (v := 6) C.1 C.2.1 dX6_init_88 (by decide) ?_
  refine i_newI C hA hw 6 (by decide) (by decide) (by decide) (by decide) (by decide) dX6_init_90 (fun q11 H hw => ?_)
  have hw : Iw D s A ((h0, .inr (6, [.int 0, .ref q1, .int 0, .int 0, .ref q2, .int 0, .int 0, .ref q3, .ref q4, .ref q5, .ref q6, .int 0, .ref q7, .ref q8, .int 0, .ref q9, .ref q10, .null, .long 0, .int 0, .int 0, .int 0, .int 0, .int 0, .int 0, .int 0, .int 0, .int 0, .int 0, .null, .null])) :: ((((((((((([] ++ [(q1, aI ct.1 64)]) ++ [(q2, aI ct.1 8)]) ++ [(q3, aI ct.1 121)]) ++ [(q4, aI ct.1 242)]) ++ [(q5, aI ct.1 242)]) ++ [(q6, aI ct.1 3388)]) ++ [(q7, aI ct.1 484)]) ++ [(q8, aI ct.2.1 2)]) ++ [(q9, aI ct.1 6)]) ++ [(q10, aI ct.1 6)]) ++ [(q11, aI ct.1 6)])) H _ := hw
  refine i_putF C hin (k := 17) (v := .ref q11) (ty := (.array .int)) hw (by decide) (WL_of (i := 590) (by decide +kernel) rfl) (by decide) rfl rfl (by decide +kernel) rfl rfl (Nat.le_of_ble_eq_true rfl) dX6_init_92 (fun H locs hw => ?_)
  have hw : Iw D s A ((h0, .inr (6, [.int 0, .ref q1, .int 0, .int 0, .ref q2, .int 0, .int 0, .ref q3, .ref q4, .ref q5, .ref q6, .int 0, .ref q7, .ref q8, .int 0, .ref q9, .ref q10, .ref q11, .long 0, .int 0, .int 0, .int 0, .int 0, .int 0, .int 0, .int 0, .int 0, .int 0, .int 0, .null, .null])) :: ((((((((((([] ++ [(q1, aI ct.1 64)]) ++ [(q2, aI ct.1 8)]) ++ [(q3, aI ct.1 121)]) ++ [(q4, aI ct.1 242)]) ++ [(q5, aI ct.1 242)]) ++ [(q6, aI ct.1 3388)]) ++ [(q7, aI ct.1 484)]) ++ [(q8, aI ct.2.1 2)]) ++ [(q9, aI ct.1 6)]) ++ [(q10, aI ct.1 6)]) ++ [(q11, aI ct.1 6)])) H _ := hw
  refine lv_aload_n C.1 C.2.1 dX6_init_95 rfl (lv_at hl 0 rfl) ?_
  refine lv_bipush (v := 8) C.1 C.2.1 dX6_init_96 (by decide) ?_
  refine i_newI C hA hw 8 (by decide) (by decide) (by decide) (by decide) (by decide) dX6_init_98 (fun q12 H hw => ?_)
  have hw : Iw D s A ((h0, .inr (6, [.int 0, .ref q1, .int 0, .int 0, .ref q2, .int 0, .int 0, .ref q3, .ref q4, .ref q5, .ref q6, .int 0, .ref q7, .ref q8, .int 0, .ref q9, .ref q10, .ref q11, .long 0, .int 0, .int 0, .int 0, .int 0, .int 0, .int 0, .int 0, .int 0, .int 0, .int 0, .null, .null])) :: (((((((((((([] ++ [(q1, aI ct.1 64)]) ++ [(q2, aI ct.1 8)]) ++ [(q3, aI ct.1 121)]) ++ [(q4, aI ct.1 242)]) ++ [(q5, aI ct.1 242)]) ++ [(q6, aI ct.1 3388)]) ++ [(q7, aI ct.1 484)]) ++ [(q8, aI ct.2.1 2)]) ++ [(q9, aI ct.1 6)]) ++ [(q10, aI ct.1 6)]) ++ [(q11, aI ct.1 6)]) ++ [(q12, aI ct.1 8)])) H _ := hw
  refine i_putF C hin (k := 29) (v := .ref q12) (ty := (.array .int)) hw (by decide) (WL_of (i := 601) (by decide +kernel) rfl) (by decide) rfl rfl (by decide +kernel) rfl rfl (Nat.le_of_ble_eq_true rfl) dX6_init_100 (fun H locs hw => ?_)
  have hw : Iw D s A ((h0, .inr (6, [.int 0, .ref q1, .int 0, .int 0, .ref q2, .int 0, .int 0, .ref q3, .ref q4, .ref q5, .ref q6, .int 0, .ref q7, .ref q8, .int 0, .ref q9, .ref q10, .ref q11, .long 0, .int 0, .int 0, .int 0, .int 0, .int 0, .int 0, .int 0, .int 0, .int 0, .int 0, .ref q12, .null])) :: (((((((((((([] ++ [(q1, aI ct.1 64)]) ++ [(q2, aI ct.1 8)]) ++ [(q3, aI ct.1 121)]) ++ [(q4, aI ct.1 242)]) ++ [(q5, aI ct.1 242)]) ++ [(q6, aI ct.1 3388)]) ++ [(q7, aI ct.1 484)]) ++ [(q8, aI ct.2.1 2)]) ++ [(q9, aI ct.1 6)]) ++ [(q10, aI ct.1 6)]) ++ [(q11, aI ct.1 6)]) ++ [(q12, aI ct.1 8)])) H _ := hw
  refine lv_aload_n C.1 C.2.1 dX6_init_103 rfl (lv_at hl 0 rfl) ?_
  refine lv_bipush (v := 16) C.1 C.2.1 dX6_init_104 (by decide) ?_
  refine i_newI C hA hw 16 (by decide) (by decide) (by decide) (by decide) (by decide) dX6_init_106 (fun q13 H hw => ?_)
  have hw : Iw D s A ((h0, .inr (6, [.int 0, .ref q1, .int 0, .int 0, .ref q2, .int 0, .int 0, .ref q3, .ref q4, .ref q5, .ref q6, .int 0, .ref q7, .ref q8, .int 0, .ref q9, .ref q10, .ref q11, .long 0, .int 0, .int 0, .int 0, .int 0, .int 0, .int 0, .int 0, .int 0, .int 0, .int 0, .ref q12, .null])) :: ((((((((((((([] ++ [(q1, aI ct.1 64)]) ++ [(q2, aI ct.1 8)]) ++ [(q3, aI ct.1 121)]) ++ [(q4, aI ct.1 242)]) ++ [(q5, aI ct.1 242)]) ++ [(q6, aI ct.1 3388)]) ++ [(q7, aI ct.1 484)]) ++ [(q8, aI ct.2.1 2)]) ++ [(q9, aI ct.1 6)]) ++ [(q10, aI ct.1 6)]) ++ [(q11, aI ct.1 6)]) ++ [(q12, aI ct.1 8)]) ++ [(q13, aI ct.1 16)])) H _ := hw
  refine i_putF C hin (k := 30) (v := .ref q13) (ty := (.array .int)) hw (by decide) (WL_of (i := 602) (by decide +kernel) rfl) (by decide) rfl rfl (by decide +kernel) rfl rfl (Nat.le_of_ble_eq_true rfl) dX6_init_108 (fun H locs hw => ?_)
  have hw : Iw D s A ((h0, .inr (6, [.int 0, .ref q1, .int 0, .int 0, .ref q2, .int 0, .int 0, .ref q3, .ref q4, .ref q5, .ref q6, .int 0, .ref q7, .ref q8, .int 0, .ref q9, .ref q10, .ref q11, .long 0, .int 0, .int 0, .int 0, .int 0, .int 0, .int 0, .int 0, .int 0, .int 0, .int 0, .ref q12, .ref q13])) :: ((((((((((((([] ++ [(q1, aI ct.1 64)]) ++ [(q2, aI ct.1 8)]) ++ [(q3, aI ct.1 121)]) ++ [(q4, aI ct.1 242)]) ++ [(q5, aI ct.1 242)]) ++ [(q6, aI ct.1 3388)]) ++ [(q7, aI ct.1 484)]) ++ [(q8, aI ct.2.1 2)]) ++ [(q9, aI ct.1 6)]) ++ [(q10, aI ct.1 6)]) ++ [(q11, aI ct.1 6)]) ++ [(q12, aI ct.1 8)]) ++ [(q13, aI ct.1 16)])) H _ := hw
  exact fin (fun k => match k with | 0 => q1 | 1 => q2 | 2 => q3 | 3 => q4 | 4 => q5 | 5 => q6 | 6 => q7 | 7 => q8 | 8 => q9 | 9 => q10 | 10 => q11 | 11 => q12 | _ => q13) H _ _ _ hw dX6_init_111
