set_option maxRecDepth 100000 in
theorem dk_0 : c_0.all (xrok prog_2_method_1_code) = true := by decide +kernel
set_option maxRecDepth 100000 in
theorem dk_1 : c_1.all (xrok prog_2_method_2_code) = true := by decide +kernel
set_option maxRecDepth 100000 in
theorem dk_2 : c_2.all (xrok prog_2_method_3_code) = true := by decide +kernel
set_option maxRecDepth 100000 in
theorem dk_3 : c_3.all (xrok prog_2_method_4_code) = true := by decide +kernel
set_option maxRecDepth 100000 in
theorem dk_4 : c_4.all (xrok prog_2_method_5_code) = true := by decide +kernel
set_option maxRecDepth 100000 in
theorem dk_5 : c_5.all (xrok prog_2_method_6_code) = true := by decide +kernel
set_option maxRecDepth 100000 in
theorem dk_6 : c_6.all (xrok prog_2_method_7_code) = true := by decide +kernel
set_option maxRecDepth 100000 in
theorem dk_7 : c_7.all (xrok prog_3_method_1_code) = true := by decide +kernel
set_option maxRecDepth 100000 in
theorem dk_8 : c_8.all (xrok prog_4_method_1_code) = true := by decide +kernel
set_option maxRecDepth 100000 in
theorem dk_9 : c_9.all (xrok prog_4_method_2_code) = true := by decide +kernel
set_option maxRecDepth 100000 in
theorem dk_10 : c_10.all (xrok prog_4_method_3_code) = true := by decide +kernel
set_option maxRecDepth 100000 in
theorem dk_11 : c_11.all (xrok prog_4_method_6_code) = true := by decide +kernel
set_option maxRecDepth 100000 in
theorem dk_12 : c_12.all (xrok prog_4_method_7_code) = true := by decide +kernel
set_option maxRecDepth 100000 in
theorem dk_13 : c_13.all (xrok prog_4_method_8_code) = true := by decide +kernel
set_option maxRecDepth 100000 in
theorem dk_14 : c_14.all (xrok prog_4_method_9_code) = true := by decide +kernel
set_option maxRecDepth 100000 in
theorem dk_15 : c_15.all (xrok prog_4_method_10_code) = true := by decide +kernel
set_option maxRecDepth 100000 in
theorem dk_16 : c_16.all (xrok prog_4_method_11_code) = true := by decide +kernel
set_option maxRecDepth 100000 in
theorem dk_17 : c_17.all (xrok prog_4_method_4_code) = true := by decide +kernel
set_option maxRecDepth 100000 in
theorem dk_18 : c_18.all (xrok prog_4_method_12_code) = true := by decide +kernel
set_option maxRecDepth 100000 in
theorem dk_19 : c_19.all (xrok prog_4_method_14_code) = true := by decide +kernel
set_option maxRecDepth 100000 in
theorem dk_20 : c_20.all (xrok prog_4_method_15_code) = true := by decide +kernel
set_option maxRecDepth 100000 in
theorem dk_21 : c_21.all (xrok prog_4_method_16_code) = true := by decide +kernel
set_option maxRecDepth 100000 in
theorem dk_22 : c_22.all (xrok prog_4_method_17_code) = true := by decide +kernel
set_option maxRecDepth 100000 in
theorem dk_23 : c_23.all (xrok prog_4_method_18_code) = true := by decide +kernel
set_option maxRecDepth 100000 in
theorem dk_24 : c_24.all (xrok prog_4_method_19_code) = true := by decide +kernel
set_option maxRecDepth 100000 in
theorem dk_25 : c_25.all (xrok prog_4_method_20_code) = true := by decide +kernel
set_option maxRecDepth 100000 in
theorem dk_26 : c_26.all (xrok prog_5_method_1_code) = true := by decide +kernel
set_option maxRecDepth 100000 in
theorem dk_27 : c_27.all (xrok prog_5_method_2_code) = true := by decide +kernel
set_option maxRecDepth 100000 in
theorem dk_28 : c_28.all (xrok prog_5_method_3_code) = true := by decide +kernel
set_option maxRecDepth 100000 in
theorem dk_29 : c_29.all (xrok prog_5_method_4_code) = true := by decide +kernel
set_option maxRecDepth 100000 in
theorem dk_30 : c_30.all (xrok prog_5_method_5_code) = true := by decide +kernel
set_option maxRecDepth 100000 in
theorem dk_31 : c_31.all (xrok prog_5_method_6_code) = true := by decide +kernel
set_option maxRecDepth 100000 in
theorem dk_32 : c_32.all (xrok prog_5_method_7_code) = true := by decide +kernel
set_option maxRecDepth 100000 in
theorem dk_33 : c_33.all (xrok prog_5_method_8_code) = true := by decide +kernel
set_option maxRecDepth 100000 in
theorem dk_34 : c_34.all (xrok prog_5_method_9_code) = true := by decide +kernel
set_option maxRecDepth 100000 in
theorem dk_35 : c_35.all (xrok prog_6_method_1_code) = true := by decide +kernel
set_option maxRecDepth 100000 in
theorem dk_36 : c_36.all (xrok prog_6_method_2_code) = true := by decide +kernel
set_option maxRecDepth 100000 in
theorem dk_37 : c_37.all (xrok prog_6_method_3_code) = true := by decide +kernel
set_option maxRecDepth 100000 in
theorem dk_38 : c_38.all (xrok prog_6_method_4_code) = true := by decide +kernel
set_option maxRecDepth 100000 in
theorem dk_39 : c_39.all (xrok prog_6_method_5_code) = true := by decide +kernel
set_option maxRecDepth 100000 in
theorem dk_40 : c_40.all (xrok prog_7_method_1_code) = true := by decide +kernel
set_option maxRecDepth 100000 in
theorem dk_41 : c_41.all (xrok prog_7_method_2_code) = true := by decide +kernel
set_option maxRecDepth 100000 in
theorem dk_42 : c_42.all (xrok prog_7_method_3_code) = true := by decide +kernel
set_option maxRecDepth 100000 in
theorem dk_43 : c_43.all (xrok prog_7_method_4_code) = true := by decide +kernel
set_option maxRecDepth 100000 in
theorem dk_44 : c_44.all (xrok prog_7_method_7_code) = true := by decide +kernel
set_option maxRecDepth 100000 in
theorem dk_45 : c_45.all (xrok prog_7_method_8_code) = true := by decide +kernel
set_option maxRecDepth 100000 in
theorem dk_46 : c_46.all (xrok prog_7_method_9_code) = true := by decide +kernel
set_option maxRecDepth 100000 in
theorem dk_47 : c_47.all (xrok prog_7_method_10_code) = true := by decide +kernel
set_option maxRecDepth 100000 in
theorem dk_48 : c_48.all (xrok prog_7_method_11_code) = true := by decide +kernel
set_option maxRecDepth 100000 in
theorem dk_49 : c_49.all (xrok prog_7_method_12_code) = true := by decide +kernel
set_option maxRecDepth 100000 in
theorem dk_50 : c_50.all (xrok prog_7_method_13_code) = true := by decide +kernel
set_option maxRecDepth 100000 in
theorem dk_51 : c_51.all (xrok prog_7_method_14_code) = true := by decide +kernel
set_option maxRecDepth 100000 in
theorem dk_52 : c_52.all (xrok prog_7_method_15_code) = true := by decide +kernel
set_option maxRecDepth 100000 in
theorem dk_53 : c_53.all (xrok prog_7_method_16_code) = true := by decide +kernel
set_option maxRecDepth 100000 in
theorem dk_54 : c_54.all (xrok prog_7_method_17_code) = true := by decide +kernel
set_option maxRecDepth 100000 in
theorem dk_55 : c_55.all (xrok prog_7_method_18_code) = true := by decide +kernel
set_option maxRecDepth 100000 in
theorem dk_56 : c_56.all (xrok prog_7_method_19_code) = true := by decide +kernel
set_option maxRecDepth 100000 in
theorem dk_57 : c_57.all (xrok prog_7_method_20_code) = true := by decide +kernel
set_option maxRecDepth 100000 in
theorem dk_58 : c_58.all (xrok prog_7_method_21_code) = true := by decide +kernel
set_option maxRecDepth 100000 in
theorem dk_59 : c_59.all (xrok prog_7_method_22_code) = true := by decide +kernel
set_option maxRecDepth 100000 in
theorem dk_60 : c_60.all (xrok prog_7_method_23_code) = true := by decide +kernel
set_option maxRecDepth 100000 in
theorem dk_61 : c_61.all (xrok prog_7_method_24_code) = true := by decide +kernel
set_option maxRecDepth 100000 in
theorem dk_62 : c_62.all (xrok prog_7_method_25_code) = true := by decide +kernel
set_option maxRecDepth 100000 in
theorem dk_63 : c_63.all (xrok prog_7_method_26_code) = true := by decide +kernel
set_option maxRecDepth 100000 in
theorem dk_64 : c_64.all (xrok prog_7_method_27_code) = true := by decide +kernel
set_option maxRecDepth 100000 in
theorem dk_65 : c_65.all (xrok prog_7_method_28_code) = true := by decide +kernel
set_option maxRecDepth 100000 in
theorem dk_66 : c_66.all (xrok prog_7_method_29_code) = true := by decide +kernel
set_option maxRecDepth 100000 in
theorem dk_67 : c_67.all (xrok prog_7_method_30_code) = true := by decide +kernel
set_option maxRecDepth 100000 in
theorem dk_68 : c_68.all (xrok prog_8_method_1_code) = true := by decide +kernel
set_option maxRecDepth 100000 in
theorem dk_69 : c_69.all (xrok prog_8_method_2_code) = true := by decide +kernel
set_option maxRecDepth 100000 in
theorem dk_70 : c_70.all (xrok prog_8_method_3_code) = true := by decide +kernel
set_option maxRecDepth 100000 in
theorem dk_71 : c_71.all (xrok prog_8_method_4_code) = true := by decide +kernel
def cc_72_0 : List xR := [(0, .aload_n 0, 0, []), (1, .aload_n 0, 0, []), (2, .getfield 42, 68, []), (5, .putfield 39, 67, []), (8, .aload_n 0, 0, []), (9, .getfield 39, 67, []), (12, .aload_n 0, 0, []), (13, .getfield 26, 63, []), (16, .if_icmp .ge 30, 0, []), (19, .aload_n 0, 0, []), (20, .getfield 18, 59, []), (23, .aload_n 0, 0, []), (24, .getfield 39, 67, []), (27, .iaload, 0, []), (28, .bipush 32, 0, []), (30, .if_icmp .ne 16, 0, []), (33, .aload_n 0, 0, []), (34, .dup, 0, []), (35, .getfield 39, 67, []), (38, .iconst 1, 0, []), (39, .iadd, 0, []), (40, .putfield 39, 67, []), (43, .goto (-35), 0, []), (46, .aload_n 0, 0, []), (47, .aload_n 0, 0, []), (48, .getfield 39, 67, []), (51, .putfield 42, 68, []), (54, .aload_n 0, 0, []), (55, .iconst 0, 0, []), (56, .putfield 45, 69, []), (59, .aload_n 0, 0, []), (60, .getfield 39, 67, []), (63, .aload_n 0, 0, []), (64, .getfield 26, 63, []), (67, .if_icmp .lt 11, 0, []), (70, .aload_n 0, 0, []), (71, .iconst (-1), 0, []), (72, .putfield 36, 66, []), (75, .goto 228, 0, []), (78, .aload_n 0, 0, []), (79, .getfield 18, 59, []), (82, .aload_n 0, 0, []), (83, .getfield 39, 67, []), (86, .iaload, 0, []), (87, .bipush 97, 0, []), (89, .if_icmp .lt 75, 0, []), (92, .aload_n 0, 0, []), (93, .getfield 18, 59, []), (96, .aload_n 0, 0, []), (97, .getfield 39, 67, []), (100, .iaload, 0, []), (101, .bipush 122, 0, []), (103, .if_icmp .gt 61, 0, []), (106, .aload_n 0, 0, []), (107, .bipush (-2), 0, []), (109, .putfield 36, 66, []), (112, .aload_n 0, 0, []), (113, .getfield 42, 68, []), (116, .aload_n 0, 0, []), (117, .getfield 26, 63, []), (120, .if_icmp .ge 183, 0, []), (123, .aload_n 0, 0, []), (124, .getfield 18, 59, []), (127, .aload_n 0, 0, []), (128, .getfield 42, 68, []), (131, .iaload, 0, []), (132, .bipush 97, 0, []), (134, .if_icmp .lt 169, 0, []), (137, .aload_n 0, 0, []), (138, .getfield 18, 59, [])]
set_option maxRecDepth 100000 in
theorem dkk_72_0 : cc_72_0.all (xrok prog_8_method_5_code) = true := by decide +kernel
def cc_72_1 : List xR := [(141, .aload_n 0, 0, []), (142, .getfield 42, 68, []), (145, .iaload, 0, []), (146, .bipush 122, 0, []), (148, .if_icmp .gt 155, 0, []), (151, .aload_n 0, 0, []), (152, .dup, 0, []), (153, .getfield 42, 68, []), (156, .iconst 1, 0, []), (157, .iadd, 0, []), (158, .putfield 42, 68, []), (161, .goto (-49), 0, []), (164, .aload_n 0, 0, []), (165, .getfield 18, 59, []), (168, .aload_n 0, 0, []), (169, .getfield 39, 67, []), (172, .iaload, 0, []), (173, .bipush 48, 0, []), (175, .if_icmp .lt 105, 0, []), (178, .aload_n 0, 0, []), (179, .getfield 18, 59, []), (182, .aload_n 0, 0, []), (183, .getfield 39, 67, []), (186, .iaload, 0, []), (187, .bipush 57, 0, []), (189, .if_icmp .gt 91, 0, []), (192, .aload_n 0, 0, []), (193, .bipush (-3), 0, []), (195, .putfield 36, 66, []), (198, .aload_n 0, 0, []), (199, .getfield 42, 68, []), (202, .aload_n 0, 0, []), (203, .getfield 26, 63, []), (206, .if_icmp .ge 97, 0, []), (209, .aload_n 0, 0, []), (210, .getfield 18, 59, []), (213, .aload_n 0, 0, []), (214, .getfield 42, 68, []), (217, .iaload, 0, []), (218, .bipush 48, 0, []), (220, .if_icmp .lt 83, 0, []), (223, .aload_n 0, 0, []), (224, .getfield 18, 59, []), (227, .aload_n 0, 0, []), (228, .getfield 42, 68, []), (231, .iaload, 0, []), (232, .bipush 57, 0, []), (234, .if_icmp .gt 69, 0, []), (237, .aload_n 0, 0, []), (238, .aload_n 0, 0, []), (239, .getfield 45, 69, []), (242, .bipush 10, 0, []), (244, .imul, 0, []), (245, .aload_n 0, 0, []), (246, .getfield 18, 59, []), (249, .aload_n 0, 0, []), (250, .getfield 42, 68, []), (253, .iaload, 0, []), (254, .iadd, 0, []), (255, .bipush 48, 0, []), (257, .isub, 0, []), (258, .sipush 1001, 0, []), (261, .invokestatic 58, 103, []), (264, .putfield 45, 69, []), (267, .aload_n 0, 0, []), (268, .dup, 0, []), (269, .getfield 42, 68, []), (272, .iconst 1, 0, []), (273, .iadd, 0, []), (274, .putfield 42, 68, [])]
set_option maxRecDepth 100000 in
theorem dkk_72_1 : cc_72_1.all (xrok prog_8_method_5_code) = true := by decide +kernel
def cc_72_2 : List xR := [(277, .goto (-79), 0, []), (280, .aload_n 0, 0, []), (281, .aload_n 0, 0, []), (282, .getfield 18, 59, []), (285, .aload_n 0, 0, []), (286, .getfield 39, 67, []), (289, .iaload, 0, []), (290, .putfield 36, 66, []), (293, .aload_n 0, 0, []), (294, .dup, 0, []), (295, .getfield 42, 68, []), (298, .iconst 1, 0, []), (299, .iadd, 0, []), (300, .putfield 42, 68, []), (303, .return_, 0, [])]
set_option maxRecDepth 100000 in
theorem dkk_72_2 : cc_72_2.all (xrok prog_8_method_5_code) = true := by decide +kernel
set_option maxRecDepth 100000 in
theorem dk_72 : c_72.all (xrok prog_8_method_5_code) = true := by
  rw [show c_72 = cc_72_0 ++ (cc_72_1 ++ (cc_72_2)) from rfl]
  exact all_app dkk_72_0 (all_app dkk_72_1 (dkk_72_2))
set_option maxRecDepth 100000 in
theorem dk_73 : c_73.all (xrok prog_8_method_6_code) = true := by decide +kernel
set_option maxRecDepth 100000 in
theorem dk_74 : c_74.all (xrok prog_8_method_7_code) = true := by decide +kernel
set_option maxRecDepth 100000 in
theorem dk_75 : c_75.all (xrok prog_8_method_8_code) = true := by decide +kernel
set_option maxRecDepth 100000 in
theorem dk_76 : c_76.all (xrok prog_8_method_9_code) = true := by decide +kernel
set_option maxRecDepth 100000 in
theorem dk_77 : c_77.all (xrok prog_8_method_10_code) = true := by decide +kernel
set_option maxRecDepth 100000 in
theorem dk_78 : c_78.all (xrok prog_8_method_11_code) = true := by decide +kernel
set_option maxRecDepth 100000 in
theorem dk_79 : c_79.all (xrok prog_8_method_12_code) = true := by decide +kernel
set_option maxRecDepth 100000 in
theorem dk_80 : c_80.all (xrok prog_8_method_13_code) = true := by decide +kernel
set_option maxRecDepth 100000 in
theorem dk_81 : c_81.all (xrok prog_8_method_14_code) = true := by decide +kernel
set_option maxRecDepth 100000 in
theorem dk_82 : c_82.all (xrok prog_8_method_15_code) = true := by decide +kernel
set_option maxRecDepth 100000 in
theorem dk_83 : c_83.all (xrok prog_8_method_16_code) = true := by decide +kernel
set_option maxRecDepth 100000 in
theorem dk_84 : c_84.all (xrok prog_8_method_17_code) = true := by decide +kernel
set_option maxRecDepth 100000 in
theorem dk_85 : c_85.all (xrok prog_8_method_18_code) = true := by decide +kernel
set_option maxRecDepth 100000 in
theorem dk_86 : c_86.all (xrok prog_8_method_19_code) = true := by decide +kernel
set_option maxRecDepth 100000 in
theorem dk_87 : c_87.all (xrok prog_8_method_20_code) = true := by decide +kernel
set_option maxRecDepth 100000 in
theorem dk_88 : c_88.all (xrok prog_8_method_21_code) = true := by decide +kernel
set_option maxRecDepth 100000 in
theorem dk_89 : c_89.all (xrok prog_9_method_1_code) = true := by decide +kernel
set_option maxRecDepth 100000 in
theorem dk_90 : c_90.all (xrok prog_9_method_2_code) = true := by decide +kernel
set_option maxRecDepth 100000 in
theorem dk_91 : c_91.all (xrok prog_9_method_3_code) = true := by decide +kernel
set_option maxRecDepth 100000 in
theorem dk_92 : c_92.all (xrok prog_9_method_4_code) = true := by decide +kernel
set_option maxRecDepth 100000 in
theorem dk_93 : c_93.all (xrok prog_9_method_5_code) = true := by decide +kernel
set_option maxRecDepth 100000 in
theorem dk_94 : c_94.all (xrok prog_9_method_6_code) = true := by decide +kernel
set_option maxRecDepth 100000 in
theorem dk_95 : c_95.all (xrok prog_9_method_7_code) = true := by decide +kernel
def cc_96_0 : List xR := [(0, .aload_n 0, 0, []), (1, .iload_n 1, 0, []), (2, .iload_n 2, 0, []), (3, .invokevirtual 40, 53, []), (6, .iconst 0, 0, []), (7, .invokestatic 44, 54, []), (10, .istore 5, 0, []), (12, .aload_n 0, 0, []), (13, .iload_n 1, 0, []), (14, .iload_n 2, 0, []), (15, .iconst 1, 0, []), (16, .iadd, 0, []), (17, .invokevirtual 40, 53, []), (20, .aload_n 0, 0, []), (21, .getfield 9, 48, []), (24, .invokestatic 49, 55, []), (27, .istore 6, 0, []), (29, .iconst 0, 0, []), (30, .istore 7, 0, []), (32, .iload 5, 0, []), (34, .istore 8, 0, []), (36, .iload 8, 0, [1, 2, 5, 9, 10, 11]), (38, .iload 6, 0, []), (40, .if_icmp .ge 255, 0, []), (43, .iload 7, 0, []), (45, .aload 4, 0, []), (47, .arraylength, 0, []), (48, .if_icmp .ge 247, 0, []), (51, .aload_n 0, 0, []), (52, .getfield 21, 42, []), (55, .iload 8, 0, []), (57, .iaload, 0, []), (58, .istore 9, 0, []), (60, .aload_n 0, 0, []), (61, .getfield 25, 43, []), (64, .iload 8, 0, []), (66, .iaload, 0, []), (67, .istore 10, 0, []), (69, .iload 9, 0, []), (71, .ifCond .ne 16, 0, []), (74, .aload 4, 0, []), (76, .iload 7, 0, []), (78, .iload 10, 0, []), (80, .iastore, 0, []), (81, .iinc 7 1, 0, []), (84, .goto 205, 0, []), (87, .iload 9, 0, []), (89, .iconst 1, 0, []), (90, .if_icmp .ne 34, 0, []), (93, .aload 4, 0, []), (95, .iload 7, 0, []), (97, .iload 10, 0, []), (99, .ifCond .lt 17, 0, []), (102, .iload 10, 0, []), (104, .aload_n 3, 0, []), (105, .arraylength, 0, []), (106, .if_icmp .ge 10, 0, []), (109, .aload_n 3, 0, []), (110, .iload 10, 0, []), (112, .iaload, 0, []), (113, .goto 4, 0, []), (116, .iconst (-1), 0, []), (117, .iastore, 0, []), (118, .iinc 7 1, 0, []), (121, .goto 168, 0, []), (124, .iload 7, 0, []), (126, .ifCond .ne 6, 0, []), (129, .ldc 52, 0, []), (131, .ireturn, 0, []), (132, .iload 9, 0, [])]
set_option maxRecDepth 100000 in
theorem dkk_96_0 : cc_96_0.all (xrok prog_9_method_8_code) = true := by decide +kernel
def cc_96_1 : List xR := [(134, .iconst 2, 0, []), (135, .if_icmp .ne 22, 0, []), (138, .aload 4, 0, []), (140, .iload 7, 0, []), (142, .iconst 1, 0, []), (143, .isub, 0, []), (144, .iconst 1, 0, []), (145, .aload 4, 0, []), (147, .iload 7, 0, []), (149, .iconst 1, 0, []), (150, .isub, 0, []), (151, .iaload, 0, []), (152, .isub, 0, []), (153, .iastore, 0, []), (154, .goto 135, 0, []), (157, .iload 9, 0, []), (159, .iconst 3, 0, []), (160, .if_icmp .eq 9, 0, []), (163, .iload 9, 0, []), (165, .iconst 4, 0, []), (166, .if_icmp .ne 70, 0, []), (169, .aload 4, 0, [1, 2, 5, 11]), (171, .iload 7, 0, []), (173, .iconst 1, 0, []), (174, .isub, 0, []), (175, .iaload, 0, []), (176, .iload 9, 0, []), (178, .iconst 4, 0, []), (179, .if_icmp .ne 7, 0, []), (182, .iconst 1, 0, []), (183, .goto 4, 0, []), (186, .iconst 0, 0, []), (187, .if_icmp .ne 7, 0, [1, 2, 5, 9, 11]), (190, .iconst 1, 0, []), (191, .goto 4, 0, []), (194, .iconst 0, 0, []), (195, .istore 11, 0, []), (197, .iload 7, 0, []), (199, .iload 11, 0, []), (201, .ifCond .eq 7, 0, []), (204, .iconst 0, 0, []), (205, .goto 4, 0, []), (208, .iconst 1, 0, []), (209, .isub, 0, [1, 2, 5, 7, 9]), (210, .istore 7, 0, []), (212, .iload 11, 0, []), (214, .ifCond .eq 15, 0, []), (217, .iload 8, 0, []), (219, .iload 10, 0, []), (221, .iconst 1, 0, []), (222, .isub, 0, []), (223, .invokestatic 44, 54, []), (226, .goto 5, 0, []), (229, .iload 8, 0, []), (231, .istore 8, 0, []), (233, .goto 56, 0, []), (236, .iload 7, 0, []), (238, .iconst 1, 0, []), (239, .if_icmp .ne 6, 0, []), (242, .ldc 52, 0, []), (244, .ireturn, 0, []), (245, .iinc 7 (-1), 0, []), (248, .aload 4, 0, []), (250, .iload 7, 0, []), (252, .iconst 1, 0, []), (253, .isub, 0, []), (254, .iload 9, 0, []), (256, .aload 4, 0, []), (258, .iload 7, 0, []), (260, .iconst 1, 0, [])]
set_option maxRecDepth 100000 in
theorem dkk_96_1 : cc_96_1.all (xrok prog_9_method_8_code) = true := by decide +kernel
def cc_96_2 : List xR := [(261, .isub, 0, []), (262, .iaload, 0, []), (263, .i2l, 0, []), (264, .aload 4, 0, [1, 2, 5, 9, 10, 11]), (266, .iload 7, 0, []), (268, .iaload, 0, []), (269, .i2l, 0, []), (270, .invokestatic 53, 56, []), (273, .iastore, 0, []), (274, .aload 4, 0, []), (276, .iload 7, 0, []), (278, .iconst 1, 0, []), (279, .isub, 0, []), (280, .iaload, 0, []), (281, .ldc 52, 0, []), (283, .if_icmp .ne 6, 0, []), (286, .ldc 52, 0, []), (288, .ireturn, 0, []), (289, .iinc 8 1, 0, []), (292, .goto (-256), 0, []), (295, .iload 7, 0, []), (297, .ifCond .ne 7, 0, []), (300, .iconst 1, 0, []), (301, .goto 7, 0, []), (304, .aload 4, 0, []), (306, .iconst 0, 0, []), (307, .iaload, 0, []), (308, .ireturn, 0, [])]
set_option maxRecDepth 100000 in
theorem dkk_96_2 : cc_96_2.all (xrok prog_9_method_8_code) = true := by decide +kernel
set_option maxRecDepth 100000 in
theorem dk_96 : c_96.all (xrok prog_9_method_8_code) = true := by
  rw [show c_96 = cc_96_0 ++ (cc_96_1 ++ (cc_96_2)) from rfl]
  exact all_app dkk_96_0 (all_app dkk_96_1 (dkk_96_2))
set_option maxRecDepth 100000 in
theorem dk_97 : c_97.all (xrok prog_9_method_9_code) = true := by decide +kernel
set_option maxRecDepth 100000 in
theorem dk_98 : c_98.all (xrok prog_1_method_1_code) = true := by decide +kernel
set_option maxRecDepth 100000 in
theorem dk_99 : c_99.all (xrok prog_1_method_2_code) = true := by decide +kernel
set_option maxRecDepth 100000 in
theorem dk_100 : c_100.all (xrok prog_1_method_3_code) = true := by decide +kernel
set_option maxRecDepth 100000 in
theorem dk_101 : c_101.all (xrok prog_1_method_4_code) = true := by decide +kernel
set_option maxRecDepth 100000 in
theorem dk_102 : c_102.all (xrok prog_1_method_5_code) = true := by decide +kernel
set_option maxRecDepth 100000 in
theorem dk_103 : c_103.all (xrok prog_1_method_6_code) = true := by decide +kernel
set_option maxRecDepth 100000 in
theorem dk_104 : c_104.all (xrok prog_1_method_7_code) = true := by decide +kernel
set_option maxRecDepth 100000 in
theorem dk_105 : c_105.all (xrok prog_1_method_8_code) = true := by decide +kernel
set_option maxRecDepth 100000 in
theorem dk_106 : c_106.all (xrok prog_1_method_9_code) = true := by decide +kernel
set_option maxRecDepth 100000 in
theorem dk_107 : c_107.all (xrok prog_1_method_10_code) = true := by decide +kernel
set_option maxRecDepth 100000 in
theorem dk_108 : c_108.all (xrok prog_1_method_11_code) = true := by decide +kernel
set_option maxRecDepth 100000 in
theorem dk_109 : c_109.all (xrok prog_1_method_12_code) = true := by decide +kernel
set_option maxRecDepth 100000 in
theorem dk_110 : c_110.all (xrok prog_1_method_13_code) = true := by decide +kernel
set_option maxRecDepth 100000 in
theorem dk_111 : c_111.all (xrok prog_1_method_14_code) = true := by decide +kernel
set_option maxRecDepth 100000 in
theorem dk_112 : c_112.all (xrok prog_1_method_15_code) = true := by decide +kernel
set_option maxRecDepth 100000 in
theorem dk_113 : c_113.all (xrok prog_1_method_16_code) = true := by decide +kernel
set_option maxRecDepth 100000 in
theorem dk_114 : c_114.all (xrok prog_1_method_17_code) = true := by decide +kernel
set_option maxRecDepth 100000 in
theorem dk_115 : c_115.all (xrok prog_1_method_18_code) = true := by decide +kernel
set_option maxRecDepth 100000 in
theorem dk_116 : c_116.all (xrok prog_1_method_19_code) = true := by decide +kernel
set_option maxRecDepth 100000 in
theorem dk_117 : c_117.all (xrok prog_1_method_20_code) = true := by decide +kernel
set_option maxRecDepth 100000 in
theorem dk_118 : c_118.all (xrok prog_1_method_21_code) = true := by decide +kernel
set_option maxRecDepth 100000 in
theorem dk_119 : c_119.all (xrok prog_1_method_22_code) = true := by decide +kernel
set_option maxRecDepth 100000 in
theorem dk_120 : c_120.all (xrok prog_1_method_23_code) = true := by decide +kernel
set_option maxRecDepth 100000 in
theorem dk_121 : c_121.all (xrok prog_1_method_24_code) = true := by decide +kernel
set_option maxRecDepth 100000 in
theorem dk_122 : c_122.all (xrok prog_1_method_25_code) = true := by decide +kernel
set_option maxRecDepth 100000 in
theorem dk_123 : c_123.all (xrok prog_1_method_26_code) = true := by decide +kernel
set_option maxRecDepth 100000 in
theorem dk_124 : c_124.all (xrok prog_1_method_27_code) = true := by decide +kernel
set_option maxRecDepth 100000 in
theorem dk_125 : c_125.all (xrok prog_1_method_28_code) = true := by decide +kernel
set_option maxRecDepth 100000 in
theorem dk_126 : c_126.all (xrok prog_1_method_29_code) = true := by decide +kernel
set_option maxRecDepth 100000 in
theorem dk_127 : c_127.all (xrok prog_1_method_30_code) = true := by decide +kernel
set_option maxRecDepth 100000 in
theorem dk_128 : c_128.all (xrok prog_1_method_31_code) = true := by decide +kernel
set_option maxRecDepth 100000 in
theorem dk_129 : c_129.all (xrok prog_1_method_32_code) = true := by decide +kernel
set_option maxRecDepth 100000 in
theorem dk_130 : c_130.all (xrok prog_1_method_33_code) = true := by decide +kernel
set_option maxRecDepth 100000 in
theorem dk_131 : c_131.all (xrok prog_1_method_34_code) = true := by decide +kernel
set_option maxRecDepth 100000 in
theorem dk_132 : c_132.all (xrok prog_1_method_35_code) = true := by decide +kernel
set_option maxRecDepth 100000 in
theorem dk_133 : c_133.all (xrok prog_1_method_36_code) = true := by decide +kernel
set_option maxRecDepth 100000 in
theorem dk_134 : c_134.all (xrok prog_1_method_37_code) = true := by decide +kernel
set_option maxRecDepth 100000 in
theorem dk_135 : c_135.all (xrok prog_1_method_38_code) = true := by decide +kernel
set_option maxRecDepth 100000 in
theorem dk_136 : c_136.all (xrok prog_1_method_39_code) = true := by decide +kernel
set_option maxRecDepth 100000 in
theorem dk_137 : c_137.all (xrok prog_1_method_40_code) = true := by decide +kernel
set_option maxRecDepth 100000 in
theorem dk_138 : c_138.all (xrok prog_1_method_41_code) = true := by decide +kernel
set_option maxRecDepth 100000 in
theorem dk_139 : c_139.all (xrok prog_1_method_42_code) = true := by decide +kernel
set_option maxRecDepth 100000 in
theorem dk_140 : c_140.all (xrok prog_1_method_43_code) = true := by decide +kernel
set_option maxRecDepth 100000 in
theorem dk_141 : c_141.all (xrok prog_1_method_44_code) = true := by decide +kernel
set_option maxRecDepth 100000 in
theorem dk_142 : c_142.all (xrok prog_1_method_45_code) = true := by decide +kernel
set_option maxRecDepth 100000 in
theorem dk_143 : c_143.all (xrok prog_1_method_46_code) = true := by decide +kernel
set_option maxRecDepth 100000 in
theorem dk_144 : c_144.all (xrok prog_1_method_47_code) = true := by decide +kernel
set_option maxRecDepth 100000 in
theorem dk_145 : c_145.all (xrok prog_1_method_48_code) = true := by decide +kernel
set_option maxRecDepth 100000 in
theorem dk_146 : c_146.all (xrok prog_1_method_49_code) = true := by decide +kernel
set_option maxRecDepth 100000 in
theorem dk_147 : c_147.all (xrok prog_1_method_50_code) = true := by decide +kernel
set_option maxRecDepth 100000 in
theorem dk_148 : c_148.all (xrok prog_1_method_51_code) = true := by decide +kernel
set_option maxRecDepth 100000 in
theorem dk_149 : c_149.all (xrok prog_1_method_52_code) = true := by decide +kernel
set_option maxRecDepth 100000 in
theorem dk_150 : c_150.all (xrok prog_1_method_53_code) = true := by decide +kernel
set_option maxRecDepth 100000 in
theorem dk_151 : c_151.all (xrok prog_1_method_54_code) = true := by decide +kernel
set_option maxRecDepth 100000 in
theorem dk_152 : c_152.all (xrok prog_1_method_55_code) = true := by decide +kernel
set_option maxRecDepth 100000 in
theorem dk_153 : c_153.all (xrok prog_1_method_56_code) = true := by decide +kernel
set_option maxRecDepth 100000 in
theorem dk_154 : c_154.all (xrok prog_11_method_1_code) = true := by decide +kernel
set_option maxRecDepth 100000 in
theorem dk_155 : c_155.all (xrok prog_11_method_2_code) = true := by decide +kernel
set_option maxRecDepth 100000 in
theorem dk_156 : c_156.all (xrok prog_11_method_3_code) = true := by decide +kernel
set_option maxRecDepth 100000 in
theorem dk_157 : c_157.all (xrok prog_11_method_4_code) = true := by decide +kernel
set_option maxRecDepth 100000 in
theorem dk_158 : c_158.all (xrok prog_11_method_5_code) = true := by decide +kernel
set_option maxRecDepth 100000 in
theorem dk_159 : c_159.all (xrok prog_11_method_6_code) = true := by decide +kernel
set_option maxRecDepth 100000 in
theorem dk_160 : c_160.all (xrok prog_11_method_7_code) = true := by decide +kernel
set_option maxRecDepth 100000 in
theorem dk_161 : c_161.all (xrok prog_11_method_8_code) = true := by decide +kernel
set_option maxRecDepth 100000 in
theorem dk_162 : c_162.all (xrok prog_11_method_9_code) = true := by decide +kernel
set_option maxRecDepth 100000 in
theorem dk_163 : c_163.all (xrok prog_11_method_10_code) = true := by decide +kernel
def cc_164_0 : List xR := [(0, .aload_n 0, 0, []), (1, .invokespecial 22, 225, []), (4, .aload_n 0, 0, []), (5, .bipush 7, 0, []), (7, .newarray .int, 0, []), (9, .putfield 7, 95, []), (12, .aload_n 0, 0, []), (13, .sipush 6588, 0, []), (16, .newarray .int, 0, []), (18, .putfield 28, 96, []), (21, .aload_n 0, 0, []), (22, .sipush 13176, 0, []), (25, .newarray .int, 0, []), (27, .putfield 31, 97, []), (30, .aload_n 0, 0, []), (31, .iconst 2, 0, []), (32, .newarray .boolean, 0, []), (34, .putfield 34, 98, []), (37, .aload_n 0, 0, []), (38, .sipush 3852, 0, []), (41, .newarray .int, 0, []), (43, .putfield 38, 99, []), (46, .aload_n 0, 0, []), (47, .bipush 126, 0, []), (49, .newarray .byte, 0, []), (51, .dup, 0, []), (52, .iconst 0, 0, []), (53, .bipush 99, 0, []), (55, .bastore, 1, []), (56, .dup, 0, []), (57, .iconst 1, 0, []), (58, .bipush 111, 0, []), (60, .bastore, 1, []), (61, .dup, 0, []), (62, .iconst 2, 0, []), (63, .bipush 115, 0, []), (65, .bastore, 1, []), (66, .dup, 0, []), (67, .iconst 3, 0, []), (68, .bipush 116, 0, []), (70, .bastore, 1, []), (71, .dup, 0, []), (72, .iconst 4, 0, []), (73, .bipush 115, 0, []), (75, .bastore, 1, []), (76, .dup, 0, []), (77, .iconst 5, 0, []), (78, .bipush 32, 0, []), (80, .bastore, 1, []), (81, .dup, 0, []), (82, .bipush 6, 0, []), (84, .bipush 98, 0, []), (86, .bastore, 1, []), (87, .dup, 0, []), (88, .bipush 7, 0, []), (90, .bipush 97, 0, []), (92, .bastore, 1, []), (93, .dup, 0, []), (94, .bipush 8, 0, []), (96, .bipush 114, 0, []), (98, .bastore, 1, []), (99, .dup, 0, []), (100, .bipush 9, 0, []), (102, .bipush 115, 0, []), (104, .bastore, 1, []), (105, .dup, 0, []), (106, .bipush 10, 0, []), (108, .bipush 32, 0, []), (110, .bastore, 1, []), (111, .dup, 0, [])]
set_option maxRecDepth 100000 in
theorem dkk_164_0 : cc_164_0.all (xrok prog_11_method_11_code) = true := by decide +kernel
def cc_164_1 : List xR := [(112, .bipush 11, 0, []), (114, .bipush 105, 0, []), (116, .bastore, 1, []), (117, .dup, 0, []), (118, .bipush 12, 0, []), (120, .bipush 102, 0, []), (122, .bastore, 1, []), (123, .dup, 0, []), (124, .bipush 13, 0, []), (126, .bipush 32, 0, []), (128, .bastore, 1, []), (129, .dup, 0, []), (130, .bipush 14, 0, []), (132, .bipush 111, 0, []), (134, .bastore, 1, []), (135, .dup, 0, []), (136, .bipush 15, 0, []), (138, .bipush 114, 0, []), (140, .bastore, 1, []), (141, .dup, 0, []), (142, .bipush 16, 0, []), (144, .bipush 32, 0, []), (146, .bastore, 1, []), (147, .dup, 0, []), (148, .bipush 17, 0, []), (150, .bipush 97, 0, []), (152, .bastore, 1, []), (153, .dup, 0, []), (154, .bipush 18, 0, []), (156, .bipush 110, 0, []), (158, .bastore, 1, []), (159, .dup, 0, []), (160, .bipush 19, 0, []), (162, .bipush 100, 0, []), (164, .bastore, 1, []), (165, .dup, 0, []), (166, .bipush 20, 0, []), (168, .bipush 32, 0, []), (170, .bastore, 1, []), (171, .dup, 0, []), (172, .bipush 21, 0, []), (174, .bipush 110, 0, []), (176, .bastore, 1, []), (177, .dup, 0, []), (178, .bipush 22, 0, []), (180, .bipush 111, 0, []), (182, .bastore, 1, []), (183, .dup, 0, []), (184, .bipush 23, 0, []), (186, .bipush 116, 0, []), (188, .bastore, 1, []), (189, .dup, 0, []), (190, .bipush 24, 0, []), (192, .bipush 32, 0, []), (194, .bastore, 1, []), (195, .dup, 0, []), (196, .bipush 25, 0, []), (198, .bipush 98, 0, []), (200, .bastore, 1, []), (201, .dup, 0, []), (202, .bipush 26, 0, []), (204, .bipush 117, 0, []), (206, .bastore, 1, []), (207, .dup, 0, []), (208, .bipush 27, 0, []), (210, .bipush 99, 0, []), (212, .bastore, 1, []), (213, .dup, 0, []), (214, .bipush 28, 0, []), (216, .bipush 107, 0, [])]
set_option maxRecDepth 100000 in
theorem dkk_164_1 : cc_164_1.all (xrok prog_11_method_11_code) = true := by decide +kernel
def cc_164_2 : List xR := [(218, .bastore, 1, []), (219, .dup, 0, []), (220, .bipush 29, 0, []), (222, .bipush 101, 0, []), (224, .bastore, 1, []), (225, .dup, 0, []), (226, .bipush 30, 0, []), (228, .bipush 116, 0, []), (230, .bastore, 1, []), (231, .dup, 0, []), (232, .bipush 31, 0, []), (234, .bipush 32, 0, []), (236, .bastore, 1, []), (237, .dup, 0, []), (238, .bipush 32, 0, []), (240, .bipush 100, 0, []), (242, .bastore, 1, []), (243, .dup, 0, []), (244, .bipush 33, 0, []), (246, .bipush 101, 0, []), (248, .bastore, 1, []), (249, .dup, 0, []), (250, .bipush 34, 0, []), (252, .bipush 112, 0, []), (254, .bastore, 1, []), (255, .dup, 0, []), (256, .bipush 35, 0, []), (258, .bipush 116, 0, []), (260, .bastore, 1, []), (261, .dup, 0, []), (262, .bipush 36, 0, []), (264, .bipush 104, 0, []), (266, .bastore, 1, []), (267, .dup, 0, []), (268, .bipush 37, 0, []), (270, .bipush 32, 0, []), (272, .bastore, 1, []), (273, .dup, 0, []), (274, .bipush 38, 0, []), (276, .bipush 107, 0, []), (278, .bastore, 1, []), (279, .dup, 0, []), (280, .bipush 39, 0, []), (282, .bipush 101, 0, []), (284, .bastore, 1, []), (285, .dup, 0, []), (286, .bipush 40, 0, []), (288, .bipush 121, 0, []), (290, .bastore, 1, []), (291, .dup, 0, []), (292, .bipush 41, 0, []), (294, .bipush 32, 0, []), (296, .bastore, 1, []), (297, .dup, 0, []), (298, .bipush 42, 0, []), (300, .bipush 104, 0, []), (302, .bastore, 1, []), (303, .dup, 0, []), (304, .bipush 43, 0, []), (306, .bipush 97, 0, []), (308, .bastore, 1, []), (309, .dup, 0, []), (310, .bipush 44, 0, []), (312, .bipush 115, 0, []), (314, .bastore, 1, []), (315, .dup, 0, []), (316, .bipush 45, 0, []), (318, .bipush 104, 0, []), (320, .bastore, 1, []), (321, .dup, 0, [])]
set_option maxRecDepth 100000 in
theorem dkk_164_2 : cc_164_2.all (xrok prog_11_method_11_code) = true := by decide +kernel
def cc_164_3 : List xR := [(322, .bipush 46, 0, []), (324, .bipush 32, 0, []), (326, .bastore, 1, []), (327, .dup, 0, []), (328, .bipush 47, 0, []), (330, .bipush 109, 0, []), (332, .bastore, 1, []), (333, .dup, 0, []), (334, .bipush 48, 0, []), (336, .bipush 111, 0, []), (338, .bastore, 1, []), (339, .dup, 0, []), (340, .bipush 49, 0, []), (342, .bipush 111, 0, []), (344, .bastore, 1, []), (345, .dup, 0, []), (346, .bipush 50, 0, []), (348, .bipush 100, 0, []), (350, .bastore, 1, []), (351, .dup, 0, []), (352, .bipush 51, 0, []), (354, .bipush 32, 0, []), (356, .bastore, 1, []), (357, .dup, 0, []), (358, .bipush 52, 0, []), (360, .bipush 109, 0, []), (362, .bastore, 1, []), (363, .dup, 0, []), (364, .bipush 53, 0, []), (366, .bipush 97, 0, []), (368, .bastore, 1, []), (369, .dup, 0, []), (370, .bipush 54, 0, []), (372, .bipush 110, 0, []), (374, .bastore, 1, []), (375, .dup, 0, []), (376, .bipush 55, 0, []), (378, .bipush 121, 0, []), (380, .bastore, 1, []), (381, .dup, 0, []), (382, .bipush 56, 0, []), (384, .bipush 32, 0, []), (386, .bastore, 1, []), (387, .dup, 0, []), (388, .bipush 57, 0, []), (390, .bipush 116, 0, []), (392, .bastore, 1, []), (393, .dup, 0, []), (394, .bipush 58, 0, []), (396, .bipush 105, 0, []), (398, .bastore, 1, []), (399, .dup, 0, []), (400, .bipush 59, 0, []), (402, .bipush 109, 0, []), (404, .bastore, 1, []), (405, .dup, 0, []), (406, .bipush 60, 0, []), (408, .bipush 101, 0, []), (410, .bastore, 1, []), (411, .dup, 0, []), (412, .bipush 61, 0, []), (414, .bipush 32, 0, []), (416, .bastore, 1, []), (417, .dup, 0, []), (418, .bipush 62, 0, []), (420, .bipush 100, 0, []), (422, .bastore, 1, []), (423, .dup, 0, []), (424, .bipush 63, 0, []), (426, .bipush 111, 0, [])]
set_option maxRecDepth 100000 in
theorem dkk_164_3 : cc_164_3.all (xrok prog_11_method_11_code) = true := by decide +kernel
def cc_164_4 : List xR := [(428, .bastore, 1, []), (429, .dup, 0, []), (430, .bipush 64, 0, []), (432, .bipush 110, 0, []), (434, .bastore, 1, []), (435, .dup, 0, []), (436, .bipush 65, 0, []), (438, .bipush 101, 0, []), (440, .bastore, 1, []), (441, .dup, 0, []), (442, .bipush 66, 0, []), (444, .bipush 32, 0, []), (446, .bastore, 1, []), (447, .dup, 0, []), (448, .bipush 67, 0, []), (450, .bipush 108, 0, []), (452, .bastore, 1, []), (453, .dup, 0, []), (454, .bipush 68, 0, []), (456, .bipush 97, 0, []), (458, .bastore, 1, []), (459, .dup, 0, []), (460, .bipush 69, 0, []), (462, .bipush 116, 0, []), (464, .bastore, 1, []), (465, .dup, 0, []), (466, .bipush 70, 0, []), (468, .bipush 101, 0, []), (470, .bastore, 1, []), (471, .dup, 0, []), (472, .bipush 71, 0, []), (474, .bipush 115, 0, []), (476, .bastore, 1, []), (477, .dup, 0, []), (478, .bipush 72, 0, []), (480, .bipush 116, 0, []), (482, .bastore, 1, []), (483, .dup, 0, []), (484, .bipush 73, 0, []), (486, .bipush 32, 0, []), (488, .bastore, 1, []), (489, .dup, 0, []), (490, .bipush 74, 0, []), (492, .bipush 100, 0, []), (494, .bastore, 1, []), (495, .dup, 0, []), (496, .bipush 75, 0, []), (498, .bipush 101, 0, []), (500, .bastore, 1, []), (501, .dup, 0, []), (502, .bipush 76, 0, []), (504, .bipush 101, 0, []), (506, .bastore, 1, []), (507, .dup, 0, []), (508, .bipush 77, 0, []), (510, .bipush 112, 0, []), (512, .bastore, 1, []), (513, .dup, 0, []), (514, .bipush 78, 0, []), (516, .bipush 32, 0, []), (518, .bastore, 1, []), (519, .dup, 0, []), (520, .bipush 79, 0, []), (522, .bipush 119, 0, []), (524, .bastore, 1, []), (525, .dup, 0, []), (526, .bipush 80, 0, []), (528, .bipush 97, 0, []), (530, .bastore, 1, []), (531, .dup, 0, [])]
set_option maxRecDepth 100000 in
theorem dkk_164_4 : cc_164_4.all (xrok prog_11_method_11_code) = true := by decide +kernel
def cc_164_5 : List xR := [(532, .bipush 81, 0, []), (534, .bipush 105, 0, []), (536, .bastore, 1, []), (537, .dup, 0, []), (538, .bipush 82, 0, []), (540, .bipush 116, 0, []), (542, .bastore, 1, []), (543, .dup, 0, []), (544, .bipush 83, 0, []), (546, .bipush 115, 0, []), (548, .bastore, 1, []), (549, .dup, 0, []), (550, .bipush 84, 0, []), (552, .bipush 32, 0, []), (554, .bastore, 1, []), (555, .dup, 0, []), (556, .bipush 85, 0, []), (558, .bipush 107, 0, []), (560, .bastore, 1, []), (561, .dup, 0, []), (562, .bipush 86, 0, []), (564, .bipush 101, 0, []), (566, .bastore, 1, []), (567, .dup, 0, []), (568, .bipush 87, 0, []), (570, .bipush 121, 0, []), (572, .bastore, 1, []), (573, .dup, 0, []), (574, .bipush 88, 0, []), (576, .bipush 115, 0, []), (578, .bastore, 1, []), (579, .dup, 0, []), (580, .bipush 89, 0, []), (582, .bipush 32, 0, []), (584, .bastore, 1, []), (585, .dup, 0, []), (586, .bipush 90, 0, []), (588, .bipush 118, 0, []), (590, .bastore, 1, []), (591, .dup, 0, []), (592, .bipush 91, 0, []), (594, .bipush 97, 0, []), (596, .bastore, 1, []), (597, .dup, 0, []), (598, .bipush 92, 0, []), (600, .bipush 108, 0, []), (602, .bastore, 1, []), (603, .dup, 0, []), (604, .bipush 93, 0, []), (606, .bipush 117, 0, []), (608, .bastore, 1, []), (609, .dup, 0, []), (610, .bipush 94, 0, []), (612, .bipush 101, 0, []), (614, .bastore, 1, []), (615, .dup, 0, []), (616, .bipush 95, 0, []), (618, .bipush 32, 0, []), (620, .bastore, 1, []), (621, .dup, 0, []), (622, .bipush 96, 0, []), (624, .bipush 112, 0, []), (626, .bastore, 1, []), (627, .dup, 0, []), (628, .bipush 97, 0, []), (630, .bipush 117, 0, []), (632, .bastore, 1, []), (633, .dup, 0, []), (634, .bipush 98, 0, []), (636, .bipush 116, 0, [])]
set_option maxRecDepth 100000 in
theorem dkk_164_5 : cc_164_5.all (xrok prog_11_method_11_code) = true := by decide +kernel
def cc_164_6 : List xR := [(638, .bastore, 1, []), (639, .dup, 0, []), (640, .bipush 99, 0, []), (642, .bipush 32, 0, []), (644, .bastore, 1, []), (645, .dup, 0, []), (646, .bipush 100, 0, []), (648, .bipush 97, 0, []), (650, .bastore, 1, []), (651, .dup, 0, []), (652, .bipush 101, 0, []), (654, .bipush 115, 0, []), (656, .bastore, 1, []), (657, .dup, 0, []), (658, .bipush 102, 0, []), (660, .bipush 32, 0, []), (662, .bastore, 1, []), (663, .dup, 0, []), (664, .bipush 103, 0, []), (666, .bipush 100, 0, []), (668, .bastore, 1, []), (669, .dup, 0, []), (670, .bipush 104, 0, []), (672, .bipush 114, 0, []), (674, .bastore, 1, []), (675, .dup, 0, []), (676, .bipush 105, 0, []), (678, .bipush 111, 0, []), (680, .bastore, 1, []), (681, .dup, 0, []), (682, .bipush 106, 0, []), (684, .bipush 112, 0, []), (686, .bastore, 1, []), (687, .dup, 0, []), (688, .bipush 107, 0, []), (690, .bipush 32, 0, []), (692, .bastore, 1, []), (693, .dup, 0, []), (694, .bipush 108, 0, []), (696, .bipush 102, 0, []), (698, .bastore, 1, []), (699, .dup, 0, []), (700, .bipush 109, 0, []), (702, .bipush 108, 0, []), (704, .bastore, 1, []), (705, .dup, 0, []), (706, .bipush 110, 0, []), (708, .bipush 117, 0, []), (710, .bastore, 1, []), (711, .dup, 0, []), (712, .bipush 111, 0, []), (714, .bipush 115, 0, []), (716, .bastore, 1, []), (717, .dup, 0, []), (718, .bipush 112, 0, []), (720, .bipush 104, 0, []), (722, .bastore, 1, []), (723, .dup, 0, []), (724, .bipush 113, 0, []), (726, .bipush 32, 0, []), (728, .bastore, 1, []), (729, .dup, 0, []), (730, .bipush 114, 0, []), (732, .bipush 99, 0, []), (734, .bastore, 1, []), (735, .dup, 0, []), (736, .bipush 115, 0, []), (738, .bipush 114, 0, []), (740, .bastore, 1, []), (741, .dup, 0, [])]
set_option maxRecDepth 100000 in
theorem dkk_164_6 : cc_164_6.all (xrok prog_11_method_11_code) = true := by decide +kernel
def cc_164_7 : List xR := [(742, .bipush 116, 0, []), (744, .bipush 97, 0, []), (746, .bastore, 1, []), (747, .dup, 0, []), (748, .bipush 117, 0, []), (750, .bipush 115, 0, []), (752, .bastore, 1, []), (753, .dup, 0, []), (754, .bipush 118, 0, []), (756, .bipush 104, 0, []), (758, .bastore, 1, []), (759, .dup, 0, []), (760, .bipush 119, 0, []), (762, .bipush 32, 0, []), (764, .bastore, 1, []), (765, .dup, 0, []), (766, .bipush 120, 0, []), (768, .bipush 116, 0, []), (770, .bastore, 1, []), (771, .dup, 0, []), (772, .bipush 121, 0, []), (774, .bipush 105, 0, []), (776, .bastore, 1, []), (777, .dup, 0, []), (778, .bipush 122, 0, []), (780, .bipush 109, 0, []), (782, .bastore, 1, []), (783, .dup, 0, []), (784, .bipush 123, 0, []), (786, .bipush 101, 0, []), (788, .bastore, 1, []), (789, .dup, 0, []), (790, .bipush 124, 0, []), (792, .bipush 115, 0, []), (794, .bastore, 1, []), (795, .dup, 0, []), (796, .bipush 125, 0, []), (798, .bipush 32, 0, []), (800, .bastore, 1, []), (801, .putfield 41, 101, []), (804, .aload_n 0, 0, []), (805, .sipush 400, 0, []), (808, .newarray .byte, 0, []), (810, .putfield 45, 105, []), (813, .aload_n 0, 0, []), (814, .iconst 5, 0, []), (815, .newarray .int, 0, []), (817, .putfield 48, 106, []), (820, .aload_n 0, 0, []), (821, .iconst (-1), 0, []), (822, .putfield 51, 108, []), (825, .aload_n 0, 0, []), (826, .sipush 401, 0, []), (829, .newarray .int, 0, []), (831, .putfield 54, 109, []), (834, .aload_n 0, 0, []), (835, .sipush 401, 0, []), (838, .newarray .int, 0, []), (840, .putfield 57, 110, []), (843, .aload_n 0, 0, []), (844, .sipush 401, 0, []), (847, .newarray .int, 0, []), (849, .putfield 60, 111, []), (852, .aload_n 0, 0, []), (853, .bipush 7, 0, []), (855, .newarray .int, 0, []), (857, .putfield 63, 120, []), (860, .aload_n 0, 0, []), (861, .bipush 64, 0, []), (863, .newarray .int, 0, [])]
set_option maxRecDepth 100000 in
theorem dkk_164_7 : cc_164_7.all (xrok prog_11_method_11_code) = true := by decide +kernel
def cc_164_8 : List xR := [(865, .putfield 66, 123, []), (868, .aload_n 0, 0, []), (869, .sipush 15424, 0, []), (872, .newarray .int, 0, []), (874, .putfield 69, 124, []), (877, .aload_n 0, 0, []), (878, .sipush 15424, 0, []), (881, .newarray .int, 0, []), (883, .putfield 72, 125, []), (886, .aload_n 0, 0, []), (887, .sipush 1000, 0, []), (890, .newarray .int, 0, []), (892, .putfield 75, 127, []), (895, .aload_n 0, 0, []), (896, .bipush 64, 0, []), (898, .newarray .int, 0, []), (900, .putfield 78, 128, []), (903, .aload_n 0, 0, []), (904, .bipush 21, 0, []), (906, .newarray .long, 0, []), (908, .putfield 81, 129, []), (911, .aload_n 0, 0, []), (912, .iconst (-1), 0, []), (913, .putfield 85, 130, []), (916, .aload_n 0, 0, []), (917, .iconst 2, 0, []), (918, .newarray .long, 0, []), (920, .putfield 88, 136, []), (923, .aload_n 0, 0, []), (924, .bipush 40, 0, []), (926, .newarray .int, 0, []), (928, .putfield 91, 137, []), (931, .aload_n 0, 0, []), (932, .getfield 28, 96, []), (935, .sipush 975, 0, []), (938, .iconst 1, 0, []), (939, .iastore, 0, []), (940, .aload_n 0, 0, []), (941, .getfield 28, 96, []), (944, .sipush 980, 0, []), (947, .iconst (-1), 0, []), (948, .iastore, 0, []), (949, .aload_n 0, 0, []), (950, .getfield 28, 96, []), (953, .iconst 0, 0, []), (954, .iconst 1, 0, []), (955, .iastore, 0, []), (956, .aload_n 0, 0, []), (957, .getfield 28, 96, []), (960, .sipush 240, 0, []), (963, .iconst 1, 0, []), (964, .iastore, 0, []), (965, .return_, 0, [])]
set_option maxRecDepth 100000 in
theorem dkk_164_8 : cc_164_8.all (xrok prog_11_method_11_code) = true := by decide +kernel
set_option maxRecDepth 100000 in
theorem dk_164 : c_164.all (xrok prog_11_method_11_code) = true := by
  rw [show c_164 = cc_164_0 ++ (cc_164_1 ++ (cc_164_2 ++ (cc_164_3 ++ (cc_164_4 ++ (cc_164_5 ++ (cc_164_6 ++ (cc_164_7 ++ (cc_164_8)))))))) from rfl]
  exact all_app dkk_164_0 (all_app dkk_164_1 (all_app dkk_164_2 (all_app dkk_164_3 (all_app dkk_164_4 (all_app dkk_164_5 (all_app dkk_164_6 (all_app dkk_164_7 (dkk_164_8))))))))
set_option maxRecDepth 100000 in
theorem dk_165 : c_165.all (xrok prog_11_method_12_code) = true := by decide +kernel
set_option maxRecDepth 100000 in
theorem dk_166 : c_166.all (xrok prog_11_method_13_code) = true := by decide +kernel
set_option maxRecDepth 100000 in
theorem dk_167 : c_167.all (xrok prog_11_method_14_code) = true := by decide +kernel
set_option maxRecDepth 100000 in
theorem dk_168 : c_168.all (xrok prog_11_method_15_code) = true := by decide +kernel
set_option maxRecDepth 100000 in
theorem dk_169 : c_169.all (xrok prog_11_method_16_code) = true := by decide +kernel
set_option maxRecDepth 100000 in
theorem dk_170 : c_170.all (xrok prog_11_method_17_code) = true := by decide +kernel
set_option maxRecDepth 100000 in
theorem dk_171 : c_171.all (xrok prog_11_method_18_code) = true := by decide +kernel
set_option maxRecDepth 100000 in
theorem dk_172 : c_172.all (xrok prog_11_method_19_code) = true := by decide +kernel
set_option maxRecDepth 100000 in
theorem dk_173 : c_173.all (xrok prog_11_method_20_code) = true := by decide +kernel
set_option maxRecDepth 100000 in
theorem dk_174 : c_174.all (xrok prog_11_method_21_code) = true := by decide +kernel
set_option maxRecDepth 100000 in
theorem dk_175 : c_175.all (xrok prog_11_method_22_code) = true := by decide +kernel
set_option maxRecDepth 100000 in
theorem dk_176 : c_176.all (xrok prog_11_method_23_code) = true := by decide +kernel
set_option maxRecDepth 100000 in
theorem dk_177 : c_177.all (xrok prog_11_method_24_code) = true := by decide +kernel
set_option maxRecDepth 100000 in
theorem dk_178 : c_178.all (xrok prog_11_method_25_code) = true := by decide +kernel
set_option maxRecDepth 100000 in
theorem dk_179 : c_179.all (xrok prog_11_method_26_code) = true := by decide +kernel
set_option maxRecDepth 100000 in
theorem dk_180 : c_180.all (xrok prog_11_method_27_code) = true := by decide +kernel
set_option maxRecDepth 100000 in
theorem dk_181 : c_181.all (xrok prog_11_method_28_code) = true := by decide +kernel
set_option maxRecDepth 100000 in
theorem dk_182 : c_182.all (xrok prog_11_method_29_code) = true := by decide +kernel
set_option maxRecDepth 100000 in
theorem dk_183 : c_183.all (xrok prog_11_method_30_code) = true := by decide +kernel
set_option maxRecDepth 100000 in
theorem dk_184 : c_184.all (xrok prog_11_method_31_code) = true := by decide +kernel
set_option maxRecDepth 100000 in
theorem dk_185 : c_185.all (xrok prog_11_method_32_code) = true := by decide +kernel
set_option maxRecDepth 100000 in
theorem dk_186 : c_186.all (xrok prog_11_method_33_code) = true := by decide +kernel
set_option maxRecDepth 100000 in
theorem dk_187 : c_187.all (xrok prog_11_method_34_code) = true := by decide +kernel
set_option maxRecDepth 100000 in
theorem dk_188 : c_188.all (xrok prog_11_method_35_code) = true := by decide +kernel
set_option maxRecDepth 100000 in
theorem dk_189 : c_189.all (xrok prog_11_method_36_code) = true := by decide +kernel
set_option maxRecDepth 100000 in
theorem dk_190 : c_190.all (xrok prog_11_method_37_code) = true := by decide +kernel
set_option maxRecDepth 100000 in
theorem dk_191 : c_191.all (xrok prog_11_method_38_code) = true := by decide +kernel
set_option maxRecDepth 100000 in
theorem dk_192 : c_192.all (xrok prog_11_method_39_code) = true := by decide +kernel
set_option maxRecDepth 100000 in
theorem dk_193 : c_193.all (xrok prog_11_method_40_code) = true := by decide +kernel
set_option maxRecDepth 100000 in
theorem dk_194 : c_194.all (xrok prog_11_method_41_code) = true := by decide +kernel
set_option maxRecDepth 100000 in
theorem dk_195 : c_195.all (xrok prog_11_method_42_code) = true := by decide +kernel
def cc_196_0 : List xR := [(0, .aload_n 0, 0, []), (1, .iconst 0, 0, []), (2, .putfield 161, 112, []), (5, .iconst 0, 0, []), (6, .istore_n 2, 0, []), (7, .iload_n 2, 0, [3, 4, 5]), (8, .iload_n 1, 0, []), (9, .if_icmp .ge 254, 0, []), (12, .aload_n 0, 0, []), (13, .getfield 45, 105, []), (16, .iload_n 2, 0, []), (17, .baload, 1, []), (18, .istore_n 3, 0, []), (19, .iload_n 3, 0, []), (20, .bipush 32, 0, []), (22, .if_icmp .ne 9, 0, []), (25, .iinc 2 1, 0, []), (28, .goto (-21), 0, []), (31, .iload_n 2, 0, []), (32, .iconst 1, 0, []), (33, .iadd, 0, []), (34, .istore 4, 0, []), (36, .iload_n 3, 0, []), (37, .invokestatic 164, 290, []), (40, .ifCond .eq 28, 0, []), (43, .iload 4, 0, [5]), (45, .iload_n 1, 0, []), (46, .if_icmp .ge 22, 0, []), (49, .aload_n 0, 0, []), (50, .getfield 45, 105, []), (53, .iload 4, 0, []), (55, .baload, 1, []), (56, .invokestatic 164, 290, []), (59, .ifCond .eq 9, 0, []), (62, .iinc 4 1, 0, []), (65, .goto (-22), 0, []), (68, .iload_n 3, 0, []), (69, .invokestatic 167, 291, []), (72, .ifCond .eq 28, 0, []), (75, .iload 4, 0, [5]), (77, .iload_n 1, 0, []), (78, .if_icmp .ge 22, 0, []), (81, .aload_n 0, 0, []), (82, .getfield 45, 105, []), (85, .iload 4, 0, []), (87, .baload, 1, []), (88, .invokestatic 167, 291, []), (91, .ifCond .eq 9, 0, []), (94, .iinc 4 1, 0, []), (97, .goto (-22), 0, []), (100, .aload_n 0, 0, [5]), (101, .getfield 60, 111, []), (104, .aload_n 0, 0, []), (105, .getfield 161, 112, []), (108, .iload_n 2, 0, []), (109, .iastore, 0, []), (110, .aload_n 0, 0, []), (111, .getfield 57, 110, []), (114, .aload_n 0, 0, []), (115, .getfield 161, 112, []), (118, .iconst 0, 0, []), (119, .iastore, 0, []), (120, .aload_n 0, 0, []), (121, .getfield 54, 109, []), (124, .aload_n 0, 0, []), (125, .getfield 161, 112, []), (128, .iload_n 3, 0, []), (129, .invokestatic 164, 290, []), (132, .ifCond .eq 13, 0, []), (135, .aload_n 0, 0, [])]
set_option maxRecDepth 100000 in
theorem dkk_196_0 : cc_196_0.all (xrok prog_11_method_43_code) = true := by decide +kernel
def cc_196_1 : List xR := [(136, .iload_n 2, 0, []), (137, .iload 4, 0, []), (139, .invokevirtual 170, 292, []), (142, .goto 23, 0, []), (145, .iload_n 3, 0, []), (146, .invokestatic 167, 291, []), (149, .ifCond .eq 8, 0, []), (152, .bipush 50, 0, []), (154, .goto 11, 0, []), (157, .bipush 100, 0, []), (159, .iload_n 3, 0, []), (160, .sipush 255, 0, []), (163, .iand, 0, []), (164, .iadd, 0, []), (165, .iastore, 0, []), (166, .iload_n 2, 0, []), (167, .istore 5, 0, []), (169, .iload 5, 0, [2]), (171, .iload 4, 0, []), (173, .if_icmp .ge 74, 0, []), (176, .iload_n 3, 0, []), (177, .invokestatic 167, 291, []), (180, .ifCond .eq 67, 0, []), (183, .aload_n 0, 0, []), (184, .getfield 57, 110, []), (187, .aload_n 0, 0, []), (188, .getfield 161, 112, []), (191, .aload_n 0, 0, []), (192, .getfield 57, 110, []), (195, .aload_n 0, 0, []), (196, .getfield 161, 112, []), (199, .iaload, 0, []), (200, .ldc 173, 7, []), (202, .if_icmp .le 15, 0, []), (205, .aload_n 0, 0, []), (206, .getfield 57, 110, []), (209, .aload_n 0, 0, []), (210, .getfield 161, 112, []), (213, .iaload, 0, []), (214, .goto 26, 0, []), (217, .bipush 10, 0, []), (219, .aload_n 0, 0, []), (220, .getfield 57, 110, []), (223, .aload_n 0, 0, []), (224, .getfield 161, 112, []), (227, .iaload, 0, []), (228, .imul, 0, []), (229, .aload_n 0, 0, []), (230, .getfield 45, 105, []), (233, .iload 5, 0, []), (235, .baload, 1, []), (236, .iadd, 0, []), (237, .bipush 48, 0, []), (239, .isub, 0, []), (240, .iastore, 0, []), (241, .iinc 5 1, 0, []), (244, .goto (-75), 0, []), (247, .aload_n 0, 0, []), (248, .dup, 0, []), (249, .getfield 161, 112, []), (252, .iconst 1, 0, []), (253, .iadd, 0, []), (254, .putfield 161, 112, []), (257, .iload 4, 0, []), (259, .istore_n 2, 0, []), (260, .goto (-253), 0, []), (263, .aload_n 0, 0, []), (264, .getfield 60, 111, []), (267, .aload_n 0, 0, []), (268, .getfield 161, 112, [])]
set_option maxRecDepth 100000 in
theorem dkk_196_1 : cc_196_1.all (xrok prog_11_method_43_code) = true := by decide +kernel
def cc_196_2 : List xR := [(271, .iload_n 1, 0, []), (272, .iastore, 0, []), (273, .aload_n 0, 0, []), (274, .getfield 54, 109, []), (277, .aload_n 0, 0, []), (278, .getfield 161, 112, []), (281, .iconst 0, 0, []), (282, .iastore, 0, []), (283, .aload_n 0, 0, []), (284, .getfield 57, 110, []), (287, .aload_n 0, 0, []), (288, .getfield 161, 112, []), (291, .iconst 0, 0, []), (292, .iastore, 0, []), (293, .return_, 0, [])]
set_option maxRecDepth 100000 in
theorem dkk_196_2 : cc_196_2.all (xrok prog_11_method_43_code) = true := by decide +kernel
set_option maxRecDepth 100000 in
theorem dk_196 : c_196.all (xrok prog_11_method_43_code) = true := by
  rw [show c_196 = cc_196_0 ++ (cc_196_1 ++ (cc_196_2)) from rfl]
  exact all_app dkk_196_0 (all_app dkk_196_1 (dkk_196_2))
set_option maxRecDepth 100000 in
theorem dk_197 : c_197.all (xrok prog_11_method_44_code) = true := by decide +kernel
set_option maxRecDepth 100000 in
theorem dk_198 : c_198.all (xrok prog_11_method_45_code) = true := by decide +kernel
set_option maxRecDepth 100000 in
theorem dk_199 : c_199.all (xrok prog_11_method_46_code) = true := by decide +kernel
set_option maxRecDepth 100000 in
theorem dk_200 : c_200.all (xrok prog_11_method_47_code) = true := by decide +kernel
set_option maxRecDepth 100000 in
theorem dk_201 : c_201.all (xrok prog_11_method_48_code) = true := by decide +kernel
set_option maxRecDepth 100000 in
theorem dk_202 : c_202.all (xrok prog_11_method_49_code) = true := by decide +kernel
set_option maxRecDepth 100000 in
theorem dk_203 : c_203.all (xrok prog_11_method_50_code) = true := by decide +kernel
set_option maxRecDepth 100000 in
theorem dk_204 : c_204.all (xrok prog_11_method_51_code) = true := by decide +kernel
set_option maxRecDepth 100000 in
theorem dk_205 : c_205.all (xrok prog_11_method_52_code) = true := by decide +kernel
set_option maxRecDepth 100000 in
theorem dk_206 : c_206.all (xrok prog_11_method_53_code) = true := by decide +kernel
set_option maxRecDepth 100000 in
theorem dk_207 : c_207.all (xrok prog_11_method_54_code) = true := by decide +kernel
set_option maxRecDepth 100000 in
theorem dk_208 : c_208.all (xrok prog_11_method_55_code) = true := by decide +kernel
set_option maxRecDepth 100000 in
theorem dk_209 : c_209.all (xrok prog_11_method_56_code) = true := by decide +kernel
set_option maxRecDepth 100000 in
theorem dk_210 : c_210.all (xrok prog_11_method_57_code) = true := by decide +kernel
set_option maxRecDepth 100000 in
theorem dk_211 : c_211.all (xrok prog_11_method_58_code) = true := by decide +kernel
set_option maxRecDepth 100000 in
theorem dk_212 : c_212.all (xrok prog_11_method_59_code) = true := by decide +kernel
set_option maxRecDepth 100000 in
theorem dk_213 : c_213.all (xrok prog_11_method_60_code) = true := by decide +kernel
set_option maxRecDepth 100000 in
theorem dk_214 : c_214.all (xrok prog_11_method_61_code) = true := by decide +kernel
set_option maxRecDepth 100000 in
theorem dk_215 : c_215.all (xrok prog_11_method_62_code) = true := by decide +kernel
set_option maxRecDepth 100000 in
theorem dk_216 : c_216.all (xrok prog_11_method_63_code) = true := by decide +kernel
set_option maxRecDepth 100000 in
theorem dk_217 : c_217.all (xrok prog_11_method_64_code) = true := by decide +kernel
set_option maxRecDepth 100000 in
theorem dk_218 : c_218.all (xrok prog_11_method_65_code) = true := by decide +kernel
set_option maxRecDepth 100000 in
theorem dk_219 : c_219.all (xrok prog_11_method_66_code) = true := by decide +kernel
set_option maxRecDepth 100000 in
theorem dk_220 : c_220.all (xrok prog_11_method_67_code) = true := by decide +kernel
set_option maxRecDepth 100000 in
theorem dk_221 : c_221.all (xrok prog_11_method_68_code) = true := by decide +kernel
set_option maxRecDepth 100000 in
theorem dk_222 : c_222.all (xrok prog_11_method_69_code) = true := by decide +kernel
set_option maxRecDepth 100000 in
theorem dk_223 : c_223.all (xrok prog_11_method_70_code) = true := by decide +kernel
set_option maxRecDepth 100000 in
theorem dk_224 : c_224.all (xrok prog_11_method_71_code) = true := by decide +kernel
set_option maxRecDepth 100000 in
theorem dk_225 : c_225.all (xrok prog_11_method_72_code) = true := by decide +kernel
set_option maxRecDepth 100000 in
theorem dk_226 : c_226.all (xrok prog_11_method_73_code) = true := by decide +kernel
set_option maxRecDepth 100000 in
theorem dk_227 : c_227.all (xrok prog_11_method_74_code) = true := by decide +kernel
set_option maxRecDepth 100000 in
theorem dk_228 : c_228.all (xrok prog_11_method_75_code) = true := by decide +kernel
set_option maxRecDepth 100000 in
theorem dk_229 : c_229.all (xrok prog_11_method_76_code) = true := by decide +kernel
set_option maxRecDepth 100000 in
theorem dk_230 : c_230.all (xrok prog_11_method_77_code) = true := by decide +kernel
set_option maxRecDepth 100000 in
theorem dk_231 : c_231.all (xrok prog_11_method_78_code) = true := by decide +kernel
set_option maxRecDepth 100000 in
theorem dk_232 : c_232.all (xrok prog_11_method_79_code) = true := by decide +kernel
set_option maxRecDepth 100000 in
theorem dk_233 : c_233.all (xrok prog_11_method_80_code) = true := by decide +kernel
set_option maxRecDepth 100000 in
theorem dk_234 : c_234.all (xrok prog_11_method_81_code) = true := by decide +kernel
set_option maxRecDepth 100000 in
theorem dk_235 : c_235.all (xrok prog_11_method_82_code) = true := by decide +kernel
set_option maxRecDepth 100000 in
theorem dk_236 : c_236.all (xrok prog_11_method_83_code) = true := by decide +kernel
set_option maxRecDepth 100000 in
theorem dk_237 : c_237.all (xrok prog_11_method_84_code) = true := by decide +kernel
set_option maxRecDepth 100000 in
theorem dk_238 : c_238.all (xrok prog_11_method_85_code) = true := by decide +kernel
set_option maxRecDepth 100000 in
theorem dk_239 : c_239.all (xrok prog_11_method_86_code) = true := by decide +kernel
set_option maxRecDepth 100000 in
theorem dk_240 : c_240.all (xrok prog_11_method_87_code) = true := by decide +kernel
def cc_241_0 : List xR := [(0, .aload_n 0, 0, []), (1, .getfield 28, 96, []), (4, .iload_n 1, 0, []), (5, .iconst 1, 0, []), (6, .invokestatic 100, 234, []), (9, .iaload, 0, []), (10, .istore_n 2, 0, []), (11, .aload_n 0, 0, []), (12, .invokevirtual 339, 278, []), (15, .istore_n 3, 0, []), (16, .iload_n 2, 0, []), (17, .bipush 6, 0, []), (19, .if_icmp .eq 8, 0, []), (22, .iload_n 3, 0, []), (23, .iconst (-1), 0, []), (24, .if_icmp .ne 5, 0, []), (27, .iconst 0, 0, []), (28, .ireturn, 0, []), (29, .iload_n 2, 0, []), (30, .aload_n 0, 0, []), (31, .getfield 28, 96, []), (34, .sipush 961, 0, []), (37, .iaload, 0, []), (38, .if_icmp .ne 15, 0, []), (41, .aload_n 0, 0, []), (42, .getfield 28, 96, []), (45, .sipush 961, 0, []), (48, .dup2, 0, []), (49, .iaload, 0, []), (50, .iconst 1, 0, []), (51, .iadd, 0, []), (52, .iastore, 0, []), (53, .aload_n 0, 0, [4, 5]), (54, .getfield 28, 96, []), (57, .iload_n 3, 0, []), (58, .iconst 0, 0, []), (59, .invokestatic 100, 234, []), (62, .iconst 1, 0, []), (63, .iastore, 0, []), (64, .aload_n 0, 0, []), (65, .getfield 28, 96, []), (68, .iload_n 3, 0, []), (69, .iconst 1, 0, []), (70, .invokestatic 100, 234, []), (73, .iload_n 2, 0, []), (74, .iconst 1, 0, []), (75, .iadd, 0, []), (76, .iastore, 0, []), (77, .aload_n 0, 0, []), (78, .getfield 28, 96, []), (81, .iload_n 3, 0, []), (82, .iconst 2, 0, []), (83, .invokestatic 100, 234, []), (86, .aload_n 0, 0, []), (87, .getfield 28, 96, []), (90, .iload_n 1, 0, []), (91, .iconst 2, 0, []), (92, .invokestatic 100, 234, []), (95, .iaload, 0, []), (96, .iconst 1, 0, []), (97, .iload_n 2, 0, []), (98, .ishl, 0, []), (99, .iadd, 0, []), (100, .iastore, 0, []), (101, .aload_n 0, 0, []), (102, .getfield 28, 96, []), (105, .iload_n 3, 0, []), (106, .iconst 3, 0, []), (107, .invokestatic 100, 234, []), (110, .iconst 0, 0, [])]
set_option maxRecDepth 100000 in
theorem dkk_241_0 : cc_241_0.all (xrok prog_11_method_88_code) = true := by decide +kernel
def cc_241_1 : List xR := [(111, .iastore, 0, []), (112, .aload_n 0, 0, []), (113, .getfield 28, 96, []), (116, .iload_n 1, 0, []), (117, .iconst 1, 0, []), (118, .invokestatic 100, 234, []), (121, .iload_n 2, 0, []), (122, .iconst 1, 0, []), (123, .iadd, 0, []), (124, .iastore, 0, []), (125, .iconst 0, 0, [4, 5]), (126, .istore 4, 0, []), (128, .iload 4, 0, [5]), (130, .aload_n 0, 0, []), (131, .getfield 28, 96, []), (134, .iload_n 1, 0, []), (135, .iconst 3, 0, []), (136, .invokestatic 100, 234, []), (139, .iaload, 0, []), (140, .if_icmp .ge 68, 0, []), (143, .aload_n 0, 0, []), (144, .getfield 28, 96, []), (147, .iload_n 1, 0, []), (148, .iconst 4, 0, []), (149, .iload 4, 0, []), (151, .iadd, 0, []), (152, .invokestatic 100, 234, []), (155, .iaload, 0, []), (156, .istore 5, 0, []), (158, .aload_n 0, 0, []), (159, .iload 5, 0, []), (161, .invokevirtual 111, 245, []), (164, .iload_n 2, 0, []), (165, .invokestatic 342, 279, []), (168, .ifCond .ne 9, 0, []), (171, .iinc 4 1, 0, []), (174, .goto (-46), 0, []), (177, .aload_n 0, 0, []), (178, .iload_n 3, 0, []), (179, .iload 5, 0, []), (181, .aload_n 0, 0, []), (182, .getfield 28, 96, []), (185, .iload_n 1, 0, []), (186, .bipush 7, 0, []), (188, .iload 4, 0, []), (190, .iadd, 0, []), (191, .invokestatic 100, 234, []), (194, .iaload, 0, []), (195, .invokevirtual 345, 280, []), (198, .aload_n 0, 0, []), (199, .iload_n 1, 0, []), (200, .iload 4, 0, []), (202, .invokevirtual 348, 281, []), (205, .goto (-77), 0, []), (208, .aload_n 0, 0, []), (209, .iload_n 3, 0, []), (210, .invokevirtual 351, 270, []), (213, .aload_n 0, 0, []), (214, .iload_n 1, 0, []), (215, .invokevirtual 351, 270, []), (218, .iconst 1, 0, []), (219, .ireturn, 0, [])]
set_option maxRecDepth 100000 in
theorem dkk_241_1 : cc_241_1.all (xrok prog_11_method_88_code) = true := by decide +kernel
set_option maxRecDepth 100000 in
theorem dk_241 : c_241.all (xrok prog_11_method_88_code) = true := by
  rw [show c_241 = cc_241_0 ++ (cc_241_1) from rfl]
  exact all_app dkk_241_0 (dkk_241_1)
set_option maxRecDepth 100000 in
theorem dk_242 : c_242.all (xrok prog_11_method_89_code) = true := by decide +kernel
set_option maxRecDepth 100000 in
theorem dk_243 : c_243.all (xrok prog_11_method_90_code) = true := by decide +kernel
set_option maxRecDepth 100000 in
theorem dk_244 : c_244.all (xrok prog_11_method_91_code) = true := by decide +kernel
set_option maxRecDepth 100000 in
theorem dk_245 : c_245.all (xrok prog_11_method_92_code) = true := by decide +kernel
set_option maxRecDepth 100000 in
theorem dk_246 : c_246.all (xrok prog_11_method_93_code) = true := by decide +kernel
set_option maxRecDepth 100000 in
theorem dk_247 : c_247.all (xrok prog_11_method_94_code) = true := by decide +kernel
set_option maxRecDepth 100000 in
theorem dk_248 : c_248.all (xrok prog_11_method_95_code) = true := by decide +kernel
set_option maxRecDepth 100000 in
theorem dk_249 : c_249.all (xrok prog_11_method_96_code) = true := by decide +kernel
set_option maxRecDepth 100000 in
theorem dk_250 : c_250.all (xrok prog_11_method_97_code) = true := by decide +kernel
set_option maxRecDepth 100000 in
theorem dk_251 : c_251.all (xrok prog_11_method_98_code) = true := by decide +kernel
set_option maxRecDepth 100000 in
theorem dk_252 : c_252.all (xrok prog_11_method_99_code) = true := by decide +kernel
set_option maxRecDepth 100000 in
theorem dk_253 : c_253.all (xrok prog_11_method_100_code) = true := by decide +kernel
set_option maxRecDepth 100000 in
theorem dk_254 : c_254.all (xrok prog_11_method_101_code) = true := by decide +kernel
set_option maxRecDepth 100000 in
theorem dk_255 : c_255.all (xrok prog_11_method_102_code) = true := by decide +kernel
set_option maxRecDepth 100000 in
theorem dk_256 : c_256.all (xrok prog_11_method_103_code) = true := by decide +kernel
set_option maxRecDepth 100000 in
theorem dk_257 : c_257.all (xrok prog_11_method_104_code) = true := by decide +kernel
set_option maxRecDepth 100000 in
theorem dk_258 : c_258.all (xrok prog_11_method_105_code) = true := by decide +kernel
set_option maxRecDepth 100000 in
theorem dk_259 : c_259.all (xrok prog_11_method_106_code) = true := by decide +kernel
set_option maxRecDepth 100000 in
theorem dk_260 : c_260.all (xrok prog_11_method_107_code) = true := by decide +kernel
set_option maxRecDepth 100000 in
theorem dk_261 : c_261.all (xrok prog_11_method_108_code) = true := by decide +kernel
set_option maxRecDepth 100000 in
theorem dk_262 : c_262.all (xrok prog_11_method_109_code) = true := by decide +kernel
set_option maxRecDepth 100000 in
theorem dk_263 : c_263.all (xrok prog_11_method_110_code) = true := by decide +kernel
set_option maxRecDepth 100000 in
theorem dk_264 : c_264.all (xrok prog_11_method_111_code) = true := by decide +kernel
set_option maxRecDepth 100000 in
theorem dk_265 : c_265.all (xrok prog_11_method_112_code) = true := by decide +kernel
set_option maxRecDepth 100000 in
theorem dk_266 : c_266.all (xrok prog_11_method_113_code) = true := by decide +kernel
set_option maxRecDepth 100000 in
theorem dk_267 : c_267.all (xrok prog_11_method_114_code) = true := by decide +kernel
set_option maxRecDepth 100000 in
theorem dk_268 : c_268.all (xrok prog_11_method_115_code) = true := by decide +kernel
set_option maxRecDepth 100000 in
theorem dk_269 : c_269.all (xrok prog_11_method_116_code) = true := by decide +kernel
set_option maxRecDepth 100000 in
theorem dk_270 : c_270.all (xrok prog_11_method_117_code) = true := by decide +kernel
set_option maxRecDepth 100000 in
theorem dk_271 : c_271.all (xrok prog_11_method_118_code) = true := by decide +kernel
set_option maxRecDepth 100000 in
theorem dk_272 : c_272.all (xrok prog_11_method_119_code) = true := by decide +kernel
set_option maxRecDepth 100000 in
theorem dk_273 : c_273.all (xrok prog_11_method_120_code) = true := by decide +kernel
set_option maxRecDepth 100000 in
theorem dk_274 : c_274.all (xrok prog_11_method_121_code) = true := by decide +kernel
set_option maxRecDepth 100000 in
theorem dk_275 : c_275.all (xrok prog_11_method_122_code) = true := by decide +kernel
set_option maxRecDepth 100000 in
theorem dk_276 : c_276.all (xrok prog_11_method_123_code) = true := by decide +kernel
set_option maxRecDepth 100000 in
theorem dk_277 : c_277.all (xrok prog_11_method_124_code) = true := by decide +kernel
set_option maxRecDepth 100000 in
theorem dk_278 : c_278.all (xrok prog_11_method_125_code) = true := by decide +kernel
set_option maxRecDepth 100000 in
theorem dk_279 : c_279.all (xrok prog_11_method_126_code) = true := by decide +kernel
set_option maxRecDepth 100000 in
theorem dk_280 : c_280.all (xrok prog_11_method_127_code) = true := by decide +kernel
set_option maxRecDepth 100000 in
theorem dk_281 : c_281.all (xrok prog_11_method_128_code) = true := by decide +kernel
set_option maxRecDepth 100000 in
theorem dk_282 : c_282.all (xrok prog_11_method_129_code) = true := by decide +kernel
set_option maxRecDepth 100000 in
theorem dk_283 : c_283.all (xrok prog_11_method_130_code) = true := by decide +kernel
set_option maxRecDepth 100000 in
theorem dk_284 : c_284.all (xrok prog_11_method_131_code) = true := by decide +kernel
set_option maxRecDepth 100000 in
theorem dk_285 : c_285.all (xrok prog_11_method_132_code) = true := by decide +kernel
set_option maxRecDepth 100000 in
theorem dk_286 : c_286.all (xrok prog_11_method_133_code) = true := by decide +kernel
set_option maxRecDepth 100000 in
theorem dk_287 : c_287.all (xrok prog_11_method_134_code) = true := by decide +kernel
set_option maxRecDepth 100000 in
theorem dk_288 : c_288.all (xrok prog_11_method_135_code) = true := by decide +kernel
set_option maxRecDepth 100000 in
theorem dk_289 : c_289.all (xrok prog_11_method_136_code) = true := by decide +kernel
set_option maxRecDepth 100000 in
theorem dk_290 : c_290.all (xrok prog_11_method_137_code) = true := by decide +kernel
set_option maxRecDepth 100000 in
theorem dk_291 : c_291.all (xrok prog_11_method_138_code) = true := by decide +kernel
set_option maxRecDepth 100000 in
theorem dk_292 : c_292.all (xrok prog_11_method_139_code) = true := by decide +kernel
set_option maxRecDepth 100000 in
theorem dk_293 : c_293.all (xrok prog_11_method_140_code) = true := by decide +kernel
set_option maxRecDepth 100000 in
theorem dk_294 : c_294.all (xrok prog_13_method_49_code) = true := by decide +kernel
set_option maxRecDepth 100000 in
theorem dk_295 : c_295.all (xrok prog_4_method_5_code) = true := by decide +kernel
set_option maxRecDepth 100000 in
theorem dk_296 : c_296.all (xrok prog_19_method_101_code) = true := by decide +kernel
set_option maxRecDepth 100000 in
theorem dk_297 : c_297.all (xrok prog_19_method_103_code) = true := by decide +kernel
set_option maxRecDepth 100000 in
theorem dk_298 : c_298.all (xrok prog_4_method_13_code) = true := by decide +kernel
set_option maxRecDepth 100000 in
theorem dk_299 : c_299.all (xrok prog_19_method_123_code) = true := by decide +kernel
set_option maxRecDepth 100000 in
theorem dk_300 : c_300.all (xrok prog_7_method_5_code) = true := by decide +kernel
set_option maxRecDepth 100000 in
theorem dk_301 : c_301.all (xrok prog_7_method_6_code) = true := by decide +kernel
def cc_302_0 : List xR := [(0, .new 7, 0, []), (3, .dup, 0, []), (4, .invokespecial 9, 0, []), (7, .astore_n 1, 0, []), (8, .new 10, 23, []), (11, .dup, 0, []), (12, .invokespecial 12, 224, []), (15, .astore_n 2, 0, []), (16, .iconst 0, 0, []), (17, .istore_n 3, 0, []), (18, .iload_n 3, 0, []), (19, .aload_n 0, 0, []), (20, .arraylength, 0, []), (21, .bipush 6, 0, []), (23, .isub, 0, []), (24, .if_icmp .gt 1131, 0, []), (27, .aload_n 0, 0, []), (28, .iload_n 3, 0, []), (29, .iaload, 0, []), (30, .bipush 63, 0, []), (32, .iand, 0, []), (33, .tableswitch 1116 0 39 #[175, 208, 241, 274, 297, 330, 363, 426, 449, 462, 475, 488, 501, 514, 527, 550, 583, 606, 629, 652, 665, 698, 721, 744, 757, 770, 793, 816, 829, 862, 875, 888, 911, 945, 978, 1011, 1034, 1057, 1080, 1103], 0, []), (208, .aload_n 1, 0, []), (209, .aload_n 0, 0, []), (210, .iload_n 3, 0, []), (211, .iconst 1, 0, []), (212, .iadd, 0, []), (213, .iaload, 0, []), (214, .aload_n 0, 0, []), (215, .iload_n 3, 0, []), (216, .iconst 2, 0, []), (217, .iadd, 0, []), (218, .iaload, 0, []), (219, .invokevirtual 13, 20, []), (222, .aload_n 2, 0, []), (223, .aload_n 0, 0, []), (224, .iload_n 3, 0, []), (225, .iconst 1, 0, []), (226, .iadd, 0, []), (227, .iaload, 0, []), (228, .aload_n 0, 0, []), (229, .iload_n 3, 0, []), (230, .iconst 2, 0, []), (231, .iadd, 0, []), (232, .iaload, 0, []), (233, .invokevirtual 17, 232, []), (236, .if_icmp .eq 913, 0, []), (239, .iconst 0, 0, []), (240, .ireturn, 0, []), (241, .aload_n 1, 0, []), (242, .aload_n 0, 0, []), (243, .iload_n 3, 0, []), (244, .iconst 1, 0, []), (245, .iadd, 0, []), (246, .iaload, 0, []), (247, .aload_n 0, 0, []), (248, .iload_n 3, 0, []), (249, .iconst 2, 0, []), (250, .iadd, 0, []), (251, .iaload, 0, []), (252, .invokevirtual 18, 26, []), (255, .aload_n 2, 0, []), (256, .aload_n 0, 0, []), (257, .iload_n 3, 0, []), (258, .iconst 1, 0, []), (259, .iadd, 0, []), (260, .iaload, 0, []), (261, .aload_n 0, 0, []), (262, .iload_n 3, 0, []), (263, .iconst 2, 0, [])]
set_option maxRecDepth 100000 in
theorem dkk_302_0 : cc_302_0.all (xrok code) = true := by decide +kernel
def cc_302_1 : List xR := [(264, .iadd, 0, []), (265, .iaload, 0, []), (266, .invokevirtual 21, 236, []), (269, .if_icmp .eq 880, 0, []), (272, .iconst 0, 0, []), (273, .ireturn, 0, []), (274, .aload_n 1, 0, []), (275, .aload_n 0, 0, []), (276, .iload_n 3, 0, []), (277, .iconst 1, 0, []), (278, .iadd, 0, []), (279, .iaload, 0, []), (280, .aload_n 0, 0, []), (281, .iload_n 3, 0, []), (282, .iconst 2, 0, []), (283, .iadd, 0, []), (284, .iaload, 0, []), (285, .invokevirtual 22, 27, []), (288, .aload_n 2, 0, []), (289, .aload_n 0, 0, []), (290, .iload_n 3, 0, []), (291, .iconst 1, 0, []), (292, .iadd, 0, []), (293, .iaload, 0, []), (294, .aload_n 0, 0, []), (295, .iload_n 3, 0, []), (296, .iconst 2, 0, []), (297, .iadd, 0, []), (298, .iaload, 0, []), (299, .invokevirtual 25, 237, []), (302, .if_icmp .eq 847, 0, []), (305, .iconst 0, 0, []), (306, .ireturn, 0, []), (307, .aload_n 1, 0, []), (308, .aload_n 0, 0, []), (309, .iload_n 3, 0, []), (310, .iconst 1, 0, []), (311, .iadd, 0, []), (312, .iaload, 0, []), (313, .invokevirtual 26, 30, []), (316, .aload_n 2, 0, []), (317, .aload_n 0, 0, []), (318, .iload_n 3, 0, []), (319, .iconst 1, 0, []), (320, .iadd, 0, []), (321, .iaload, 0, []), (322, .invokevirtual 30, 239, []), (325, .if_icmp .eq 824, 0, []), (328, .iconst 0, 0, []), (329, .ireturn, 0, []), (330, .aload_n 1, 0, []), (331, .aload_n 0, 0, []), (332, .iload_n 3, 0, []), (333, .iconst 1, 0, []), (334, .iadd, 0, []), (335, .iaload, 0, []), (336, .aload_n 0, 0, []), (337, .iload_n 3, 0, []), (338, .iconst 2, 0, []), (339, .iadd, 0, []), (340, .iaload, 0, []), (341, .invokevirtual 31, 33, []), (344, .aload_n 2, 0, []), (345, .aload_n 0, 0, []), (346, .iload_n 3, 0, []), (347, .iconst 1, 0, []), (348, .iadd, 0, []), (349, .iaload, 0, []), (350, .aload_n 0, 0, []), (351, .iload_n 3, 0, [])]
set_option maxRecDepth 100000 in
theorem dkk_302_1 : cc_302_1.all (xrok code) = true := by decide +kernel
def cc_302_2 : List xR := [(352, .iconst 2, 0, []), (353, .iadd, 0, []), (354, .iaload, 0, []), (355, .invokevirtual 34, 243, []), (358, .if_icmp .eq 791, 0, []), (361, .iconst 0, 0, []), (362, .ireturn, 0, []), (363, .aload_n 1, 0, []), (364, .aload_n 0, 0, []), (365, .iload_n 3, 0, []), (366, .iconst 1, 0, []), (367, .iadd, 0, []), (368, .iaload, 0, []), (369, .aload_n 0, 0, []), (370, .iload_n 3, 0, []), (371, .iconst 2, 0, []), (372, .iadd, 0, []), (373, .iaload, 0, []), (374, .invokevirtual 35, 57, []), (377, .aload_n 2, 0, []), (378, .aload_n 0, 0, []), (379, .iload_n 3, 0, []), (380, .iconst 1, 0, []), (381, .iadd, 0, []), (382, .iaload, 0, []), (383, .aload_n 0, 0, []), (384, .iload_n 3, 0, []), (385, .iconst 2, 0, []), (386, .iadd, 0, []), (387, .iaload, 0, []), (388, .invokevirtual 38, 265, []), (391, .if_icmp .eq 758, 0, []), (394, .iconst 0, 0, []), (395, .ireturn, 0, []), (396, .aload_n 1, 0, []), (397, .aload_n 0, 0, []), (398, .iload_n 3, 0, []), (399, .iconst 1, 0, []), (400, .iadd, 0, []), (401, .iaload, 0, []), (402, .aload_n 0, 0, []), (403, .iload_n 3, 0, []), (404, .iconst 2, 0, []), (405, .iadd, 0, []), (406, .iaload, 0, []), (407, .aload_n 0, 0, []), (408, .iload_n 3, 0, []), (409, .iconst 3, 0, []), (410, .iadd, 0, []), (411, .iaload, 0, []), (412, .aload_n 0, 0, []), (413, .iload_n 3, 0, []), (414, .iconst 4, 0, []), (415, .iadd, 0, []), (416, .iaload, 0, []), (417, .aload_n 0, 0, []), (418, .iload_n 3, 0, []), (419, .iconst 5, 0, []), (420, .iadd, 0, []), (421, .iaload, 0, []), (422, .invokevirtual 39, 66, []), (425, .aload_n 2, 0, []), (426, .aload_n 0, 0, []), (427, .iload_n 3, 0, []), (428, .iconst 1, 0, []), (429, .iadd, 0, []), (430, .iaload, 0, []), (431, .aload_n 0, 0, []), (432, .iload_n 3, 0, []), (433, .iconst 2, 0, [])]
set_option maxRecDepth 100000 in
theorem dkk_302_2 : cc_302_2.all (xrok code) = true := by decide +kernel
def cc_302_3 : List xR := [(434, .iadd, 0, []), (435, .iaload, 0, []), (436, .aload_n 0, 0, []), (437, .iload_n 3, 0, []), (438, .iconst 3, 0, []), (439, .iadd, 0, []), (440, .iaload, 0, []), (441, .aload_n 0, 0, []), (442, .iload_n 3, 0, []), (443, .iconst 4, 0, []), (444, .iadd, 0, []), (445, .iaload, 0, []), (446, .aload_n 0, 0, []), (447, .iload_n 3, 0, []), (448, .iconst 5, 0, []), (449, .iadd, 0, []), (450, .iaload, 0, []), (451, .invokevirtual 43, 284, []), (454, .if_icmp .eq 695, 0, []), (457, .iconst 0, 0, []), (458, .ireturn, 0, []), (459, .aload_n 1, 0, []), (460, .aload_n 0, 0, []), (461, .iload_n 3, 0, []), (462, .iconst 1, 0, []), (463, .iadd, 0, []), (464, .iaload, 0, []), (465, .invokevirtual 44, 68, []), (468, .aload_n 2, 0, []), (469, .aload_n 0, 0, []), (470, .iload_n 3, 0, []), (471, .iconst 1, 0, []), (472, .iadd, 0, []), (473, .iaload, 0, []), (474, .invokevirtual 47, 285, []), (477, .if_icmp .eq 672, 0, []), (480, .iconst 0, 0, []), (481, .ireturn, 0, []), (482, .aload_n 1, 0, []), (483, .invokevirtual 48, 69, []), (486, .aload_n 2, 0, []), (487, .invokevirtual 52, 268, []), (490, .if_icmp .eq 659, 0, []), (493, .iconst 0, 0, []), (494, .ireturn, 0, []), (495, .aload_n 1, 0, []), (496, .invokevirtual 53, 98, []), (499, .aload_n 2, 0, []), (500, .invokevirtual 56, 283, []), (503, .if_icmp .eq 646, 0, []), (506, .iconst 0, 0, []), (507, .ireturn, 0, []), (508, .aload_n 1, 0, []), (509, .invokevirtual 57, 99, []), (512, .aload_n 2, 0, []), (513, .invokevirtual 60, 286, []), (516, .if_icmp .eq 633, 0, []), (519, .iconst 0, 0, []), (520, .ireturn, 0, []), (521, .aload_n 1, 0, []), (522, .invokevirtual 61, 131, []), (525, .aload_n 2, 0, []), (526, .invokevirtual 64, 356, []), (529, .if_icmp .eq 620, 0, []), (532, .iconst 0, 0, []), (533, .ireturn, 0, []), (534, .aload_n 1, 0, []), (535, .invokevirtual 65, 160, []), (538, .aload_n 2, 0, []), (539, .invokevirtual 68, 309, [])]
set_option maxRecDepth 100000 in
theorem dkk_302_3 : cc_302_3.all (xrok code) = true := by decide +kernel
def cc_302_4 : List xR := [(542, .if_icmp .eq 607, 0, []), (545, .iconst 0, 0, []), (546, .ireturn, 0, []), (547, .aload_n 1, 0, []), (548, .invokevirtual 69, 161, []), (551, .aload_n 2, 0, []), (552, .invokevirtual 72, 355, []), (555, .if_icmp .eq 594, 0, []), (558, .iconst 0, 0, []), (559, .ireturn, 0, []), (560, .aload_n 1, 0, []), (561, .aload_n 0, 0, []), (562, .iload_n 3, 0, []), (563, .iconst 1, 0, []), (564, .iadd, 0, []), (565, .iaload, 0, []), (566, .invokevirtual 73, 162, []), (569, .aload_n 2, 0, []), (570, .aload_n 0, 0, []), (571, .iload_n 3, 0, []), (572, .iconst 1, 0, []), (573, .iadd, 0, []), (574, .iaload, 0, []), (575, .invokevirtual 76, 310, []), (578, .if_icmp .eq 571, 0, []), (581, .iconst 0, 0, []), (582, .ireturn, 0, []), (583, .aload_n 1, 0, []), (584, .aload_n 0, 0, []), (585, .iload_n 3, 0, []), (586, .iconst 1, 0, []), (587, .iadd, 0, []), (588, .iaload, 0, []), (589, .aload_n 0, 0, []), (590, .iload_n 3, 0, []), (591, .iconst 2, 0, []), (592, .iadd, 0, []), (593, .iaload, 0, []), (594, .invokevirtual 77, 163, []), (597, .aload_n 2, 0, []), (598, .aload_n 0, 0, []), (599, .iload_n 3, 0, []), (600, .iconst 1, 0, []), (601, .iadd, 0, []), (602, .iaload, 0, []), (603, .aload_n 0, 0, []), (604, .iload_n 3, 0, []), (605, .iconst 2, 0, []), (606, .iadd, 0, []), (607, .iaload, 0, []), (608, .invokevirtual 80, 313, []), (611, .if_icmp .eq 538, 0, []), (614, .iconst 0, 0, []), (615, .ireturn, 0, []), (616, .aload_n 1, 0, []), (617, .aload_n 0, 0, []), (618, .iload_n 3, 0, []), (619, .iconst 1, 0, []), (620, .iadd, 0, []), (621, .iaload, 0, []), (622, .invokevirtual 81, 165, []), (625, .aload_n 2, 0, []), (626, .aload_n 0, 0, []), (627, .iload_n 3, 0, []), (628, .iconst 1, 0, []), (629, .iadd, 0, []), (630, .iaload, 0, []), (631, .invokevirtual 84, 318, []), (634, .if_icmp .eq 515, 0, []), (637, .iconst 0, 0, [])]
set_option maxRecDepth 100000 in
theorem dkk_302_4 : cc_302_4.all (xrok code) = true := by decide +kernel
def cc_302_5 : List xR := [(638, .ireturn, 0, []), (639, .aload_n 1, 0, []), (640, .aload_n 0, 0, []), (641, .iload_n 3, 0, []), (642, .iconst 1, 0, []), (643, .iadd, 0, []), (644, .iaload, 0, []), (645, .invokevirtual 85, 166, []), (648, .aload_n 2, 0, []), (649, .aload_n 0, 0, []), (650, .iload_n 3, 0, []), (651, .iconst 1, 0, []), (652, .iadd, 0, []), (653, .iaload, 0, []), (654, .invokevirtual 88, 326, []), (657, .if_icmp .eq 492, 0, []), (660, .iconst 0, 0, []), (661, .ireturn, 0, []), (662, .aload_n 1, 0, []), (663, .aload_n 0, 0, []), (664, .iload_n 3, 0, []), (665, .iconst 1, 0, []), (666, .iadd, 0, []), (667, .iaload, 0, []), (668, .invokevirtual 89, 167, []), (671, .aload_n 2, 0, []), (672, .aload_n 0, 0, []), (673, .iload_n 3, 0, []), (674, .iconst 1, 0, []), (675, .iadd, 0, []), (676, .iaload, 0, []), (677, .invokevirtual 92, 328, []), (680, .if_icmp .eq 469, 0, []), (683, .iconst 0, 0, []), (684, .ireturn, 0, []), (685, .aload_n 1, 0, []), (686, .invokevirtual 93, 168, []), (689, .aload_n 2, 0, []), (690, .invokevirtual 96, 312, []), (693, .if_icmp .eq 456, 0, []), (696, .iconst 0, 0, []), (697, .ireturn, 0, []), (698, .aload_n 1, 0, []), (699, .aload_n 0, 0, []), (700, .iload_n 3, 0, []), (701, .iconst 1, 0, []), (702, .iadd, 0, []), (703, .iaload, 0, []), (704, .aload_n 0, 0, []), (705, .iload_n 3, 0, []), (706, .iconst 2, 0, []), (707, .iadd, 0, []), (708, .iaload, 0, []), (709, .invokevirtual 97, 170, []), (712, .aload_n 2, 0, []), (713, .aload_n 0, 0, []), (714, .iload_n 3, 0, []), (715, .iconst 1, 0, []), (716, .iadd, 0, []), (717, .iaload, 0, []), (718, .aload_n 0, 0, []), (719, .iload_n 3, 0, []), (720, .iconst 2, 0, []), (721, .iadd, 0, []), (722, .iaload, 0, []), (723, .invokevirtual 100, 333, []), (726, .if_icmp .eq 423, 0, []), (729, .iconst 0, 0, []), (730, .ireturn, 0, []), (731, .aload_n 1, 0, [])]
set_option maxRecDepth 100000 in
theorem dkk_302_5 : cc_302_5.all (xrok code) = true := by decide +kernel
def cc_302_6 : List xR := [(732, .aload_n 0, 0, []), (733, .iload_n 3, 0, []), (734, .iconst 1, 0, []), (735, .iadd, 0, []), (736, .iaload, 0, []), (737, .invokevirtual 101, 172, []), (740, .aload_n 2, 0, []), (741, .aload_n 0, 0, []), (742, .iload_n 3, 0, []), (743, .iconst 1, 0, []), (744, .iadd, 0, []), (745, .iaload, 0, []), (746, .invokevirtual 104, 334, []), (749, .if_icmp .eq 400, 0, []), (752, .iconst 0, 0, []), (753, .ireturn, 0, []), (754, .aload_n 1, 0, []), (755, .aload_n 0, 0, []), (756, .iload_n 3, 0, []), (757, .iconst 1, 0, []), (758, .iadd, 0, []), (759, .iaload, 0, []), (760, .invokevirtual 105, 175, []), (763, .aload_n 2, 0, []), (764, .aload_n 0, 0, []), (765, .iload_n 3, 0, []), (766, .iconst 1, 0, []), (767, .iadd, 0, []), (768, .iaload, 0, []), (769, .invokevirtual 108, 335, []), (772, .if_icmp .eq 377, 0, []), (775, .iconst 0, 0, []), (776, .ireturn, 0, []), (777, .aload_n 1, 0, []), (778, .invokevirtual 109, 178, []), (781, .aload_n 2, 0, []), (782, .invokevirtual 112, 337, []), (785, .if_icmp .eq 364, 0, []), (788, .iconst 0, 0, []), (789, .ireturn, 0, []), (790, .aload_n 1, 0, []), (791, .invokevirtual 113, 180, []), (794, .aload_n 2, 0, []), (795, .invokevirtual 116, 339, []), (798, .if_icmp .eq 351, 0, []), (801, .iconst 0, 0, []), (802, .ireturn, 0, []), (803, .aload_n 1, 0, []), (804, .aload_n 0, 0, []), (805, .iload_n 3, 0, []), (806, .iconst 1, 0, []), (807, .iadd, 0, []), (808, .iaload, 0, []), (809, .invokevirtual 117, 182, []), (812, .aload_n 2, 0, []), (813, .aload_n 0, 0, []), (814, .iload_n 3, 0, []), (815, .iconst 1, 0, []), (816, .iadd, 0, []), (817, .iaload, 0, []), (818, .invokevirtual 120, 341, []), (821, .if_icmp .eq 328, 0, []), (824, .iconst 0, 0, []), (825, .ireturn, 0, []), (826, .aload_n 1, 0, []), (827, .aload_n 0, 0, []), (828, .iload_n 3, 0, []), (829, .iconst 1, 0, []), (830, .iadd, 0, []), (831, .iaload, 0, [])]
set_option maxRecDepth 100000 in
theorem dkk_302_6 : cc_302_6.all (xrok code) = true := by decide +kernel
def cc_302_7 : List xR := [(832, .invokevirtual 121, 185, []), (835, .aload_n 2, 0, []), (836, .aload_n 0, 0, []), (837, .iload_n 3, 0, []), (838, .iconst 1, 0, []), (839, .iadd, 0, []), (840, .iaload, 0, []), (841, .invokevirtual 124, 342, []), (844, .if_icmp .eq 305, 0, []), (847, .iconst 0, 0, []), (848, .ireturn, 0, []), (849, .aload_n 1, 0, []), (850, .invokevirtual 125, 188, []), (853, .aload_n 2, 0, []), (854, .invokevirtual 128, 345, []), (857, .if_icmp .eq 292, 0, []), (860, .iconst 0, 0, []), (861, .ireturn, 0, []), (862, .aload_n 1, 0, []), (863, .aload_n 0, 0, []), (864, .iload_n 3, 0, []), (865, .iconst 1, 0, []), (866, .iadd, 0, []), (867, .iaload, 0, []), (868, .aload_n 0, 0, []), (869, .iload_n 3, 0, []), (870, .iconst 2, 0, []), (871, .iadd, 0, []), (872, .iaload, 0, []), (873, .invokevirtual 129, 190, []), (876, .aload_n 2, 0, []), (877, .aload_n 0, 0, []), (878, .iload_n 3, 0, []), (879, .iconst 1, 0, []), (880, .iadd, 0, []), (881, .iaload, 0, []), (882, .aload_n 0, 0, []), (883, .iload_n 3, 0, []), (884, .iconst 2, 0, []), (885, .iadd, 0, []), (886, .iaload, 0, []), (887, .invokevirtual 132, 346, []), (890, .if_icmp .eq 259, 0, []), (893, .iconst 0, 0, []), (894, .ireturn, 0, []), (895, .aload_n 1, 0, []), (896, .invokevirtual 133, 192, []), (899, .aload_n 2, 0, []), (900, .invokevirtual 136, 347, []), (903, .if_icmp .eq 246, 0, []), (906, .iconst 0, 0, []), (907, .ireturn, 0, []), (908, .aload_n 1, 0, []), (909, .invokevirtual 137, 193, []), (912, .aload_n 2, 0, []), (913, .invokevirtual 140, 348, []), (916, .if_icmp .eq 233, 0, []), (919, .iconst 0, 0, []), (920, .ireturn, 0, []), (921, .aload_n 1, 0, []), (922, .aload_n 0, 0, []), (923, .iload_n 3, 0, []), (924, .iconst 1, 0, []), (925, .iadd, 0, []), (926, .iaload, 0, []), (927, .invokevirtual 141, 199, []), (930, .aload_n 2, 0, []), (931, .aload_n 0, 0, []), (932, .iload_n 3, 0, []), (933, .iconst 1, 0, [])]
set_option maxRecDepth 100000 in
theorem dkk_302_7 : cc_302_7.all (xrok code) = true := by decide +kernel
def cc_302_8 : List xR := [(934, .iadd, 0, []), (935, .iaload, 0, []), (936, .invokevirtual 144, 350, []), (939, .if_icmp .eq 210, 0, []), (942, .iconst 0, 0, []), (943, .ireturn, 0, []), (944, .aload_n 1, 0, []), (945, .aload_n 0, 0, []), (946, .iload_n 3, 0, []), (947, .iconst 1, 0, []), (948, .iadd, 0, []), (949, .iaload, 0, []), (950, .aload_n 0, 0, []), (951, .iload_n 3, 0, []), (952, .iconst 2, 0, []), (953, .iadd, 0, []), (954, .iaload, 0, []), (955, .invokevirtual 145, 202, []), (958, .aload_n 2, 0, []), (959, .aload_n 0, 0, []), (960, .iload_n 3, 0, []), (961, .iconst 1, 0, []), (962, .iadd, 0, []), (963, .iaload, 0, []), (964, .aload_n 0, 0, []), (965, .iload_n 3, 0, []), (966, .iconst 2, 0, []), (967, .iadd, 0, []), (968, .iaload, 0, []), (969, .invokevirtual 149, 353, []), (972, .lcmp, 0, []), (973, .ifCond .eq 176, 0, []), (976, .iconst 0, 0, []), (977, .ireturn, 0, []), (978, .aload_n 1, 0, []), (979, .aload_n 0, 0, []), (980, .iload_n 3, 0, []), (981, .iconst 1, 0, []), (982, .iadd, 0, []), (983, .iaload, 0, []), (984, .aload_n 0, 0, []), (985, .iload_n 3, 0, []), (986, .iconst 2, 0, []), (987, .iadd, 0, []), (988, .iaload, 0, []), (989, .invokevirtual 150, 205, []), (992, .aload_n 2, 0, []), (993, .aload_n 0, 0, []), (994, .iload_n 3, 0, []), (995, .iconst 1, 0, []), (996, .iadd, 0, []), (997, .iaload, 0, []), (998, .aload_n 0, 0, []), (999, .iload_n 3, 0, []), (1000, .iconst 2, 0, []), (1001, .iadd, 0, []), (1002, .iaload, 0, []), (1003, .invokevirtual 153, 354, []), (1006, .if_icmp .eq 143, 0, []), (1009, .iconst 0, 0, []), (1010, .ireturn, 0, []), (1011, .aload_n 1, 0, []), (1012, .aload_n 0, 0, []), (1013, .iload_n 3, 0, []), (1014, .iconst 1, 0, []), (1015, .iadd, 0, []), (1016, .iaload, 0, []), (1017, .aload_n 0, 0, []), (1018, .iload_n 3, 0, []), (1019, .iconst 2, 0, [])]
set_option maxRecDepth 100000 in
theorem dkk_302_8 : cc_302_8.all (xrok code) = true := by decide +kernel
def cc_302_9 : List xR := [(1020, .iadd, 0, []), (1021, .iaload, 0, []), (1022, .invokevirtual 154, 207, []), (1025, .aload_n 2, 0, []), (1026, .aload_n 0, 0, []), (1027, .iload_n 3, 0, []), (1028, .iconst 1, 0, []), (1029, .iadd, 0, []), (1030, .iaload, 0, []), (1031, .aload_n 0, 0, []), (1032, .iload_n 3, 0, []), (1033, .iconst 2, 0, []), (1034, .iadd, 0, []), (1035, .iaload, 0, []), (1036, .invokevirtual 157, 361, []), (1039, .if_icmp .eq 110, 0, []), (1042, .iconst 0, 0, []), (1043, .ireturn, 0, []), (1044, .aload_n 1, 0, []), (1045, .aload_n 0, 0, []), (1046, .iload_n 3, 0, []), (1047, .iconst 1, 0, []), (1048, .iadd, 0, []), (1049, .iaload, 0, []), (1050, .invokevirtual 158, 211, []), (1053, .aload_n 2, 0, []), (1054, .aload_n 0, 0, []), (1055, .iload_n 3, 0, []), (1056, .iconst 1, 0, []), (1057, .iadd, 0, []), (1058, .iaload, 0, []), (1059, .invokevirtual 161, 364, []), (1062, .if_icmp .eq 87, 0, []), (1065, .iconst 0, 0, []), (1066, .ireturn, 0, []), (1067, .aload_n 1, 0, []), (1068, .aload_n 0, 0, []), (1069, .iload_n 3, 0, []), (1070, .iconst 1, 0, []), (1071, .iadd, 0, []), (1072, .iaload, 0, []), (1073, .invokevirtual 162, 212, []), (1076, .aload_n 2, 0, []), (1077, .aload_n 0, 0, []), (1078, .iload_n 3, 0, []), (1079, .iconst 1, 0, []), (1080, .iadd, 0, []), (1081, .iaload, 0, []), (1082, .invokevirtual 165, 226, []), (1085, .if_icmp .eq 64, 0, []), (1088, .iconst 0, 0, []), (1089, .ireturn, 0, []), (1090, .aload_n 1, 0, []), (1091, .aload_n 0, 0, []), (1092, .iload_n 3, 0, []), (1093, .iconst 1, 0, []), (1094, .iadd, 0, []), (1095, .iaload, 0, []), (1096, .invokevirtual 166, 221, []), (1099, .aload_n 2, 0, []), (1100, .aload_n 0, 0, []), (1101, .iload_n 3, 0, []), (1102, .iconst 1, 0, []), (1103, .iadd, 0, []), (1104, .iaload, 0, []), (1105, .invokevirtual 169, 230, []), (1108, .if_icmp .eq 41, 0, []), (1111, .iconst 0, 0, []), (1112, .ireturn, 0, []), (1113, .aload_n 1, 0, [])]
set_option maxRecDepth 100000 in
theorem dkk_302_9 : cc_302_9.all (xrok code) = true := by decide +kernel
def cc_302_10 : List xR := [(1114, .aload_n 0, 0, []), (1115, .iload_n 3, 0, []), (1116, .iconst 1, 0, []), (1117, .iadd, 0, []), (1118, .iaload, 0, []), (1119, .invokevirtual 170, 222, []), (1122, .aload_n 2, 0, []), (1123, .aload_n 0, 0, []), (1124, .iload_n 3, 0, []), (1125, .iconst 1, 0, []), (1126, .iadd, 0, []), (1127, .iaload, 0, []), (1128, .invokevirtual 173, 365, []), (1131, .if_icmp .eq 18, 0, []), (1134, .iconst 0, 0, []), (1135, .ireturn, 0, []), (1136, .aload_n 1, 0, []), (1137, .invokevirtual 174, 223, []), (1140, .aload_n 2, 0, []), (1141, .invokevirtual 177, 366, []), (1144, .if_icmp .eq 5, 0, []), (1147, .iconst 0, 0, []), (1148, .ireturn, 0, []), (1149, .iinc 3 6, 0, []), (1152, .goto (-1134), 0, []), (1155, .iconst 1, 0, []), (1156, .ireturn, 0, [])]
set_option maxRecDepth 100000 in
theorem dkk_302_10 : cc_302_10.all (xrok code) = true := by decide +kernel
set_option maxRecDepth 100000 in
theorem dk_302 : c_302.all (xrok code) = true := by
  rw [show c_302 = cc_302_0 ++ (cc_302_1 ++ (cc_302_2 ++ (cc_302_3 ++ (cc_302_4 ++ (cc_302_5 ++ (cc_302_6 ++ (cc_302_7 ++ (cc_302_8 ++ (cc_302_9 ++ (cc_302_10)))))))))) from rfl]
  exact all_app dkk_302_0 (all_app dkk_302_1 (all_app dkk_302_2 (all_app dkk_302_3 (all_app dkk_302_4 (all_app dkk_302_5 (all_app dkk_302_6 (all_app dkk_302_7 (all_app dkk_302_8 (all_app dkk_302_9 (dkk_302_10))))))))))
def xdkok (mid : Nat) : Prop := ∀ (M : xM) (y : MethodName) (b : ByteArray) (rt : Option FieldType), xprog[mid]? = some M → xmeta[mid]? = some (y, b, rt) → M.2.2.2.2.all (xrok b) = true
theorem dj_0 : xdkok 0 := fun M y b rt h1 h2 => by cases h1; cases h2; exact dk_0
theorem dj_1 : xdkok 1 := fun M y b rt h1 h2 => by cases h1; cases h2; exact dk_1
theorem dj_2 : xdkok 2 := fun M y b rt h1 h2 => by cases h1; cases h2; exact dk_2
theorem dj_3 : xdkok 3 := fun M y b rt h1 h2 => by cases h1; cases h2; exact dk_3
theorem dj_4 : xdkok 4 := fun M y b rt h1 h2 => by cases h1; cases h2; exact dk_4
theorem dj_5 : xdkok 5 := fun M y b rt h1 h2 => by cases h1; cases h2; exact dk_5
theorem dj_6 : xdkok 6 := fun M y b rt h1 h2 => by cases h1; cases h2; exact dk_6
theorem dj_7 : xdkok 7 := fun M y b rt h1 h2 => by cases h1; cases h2; exact dk_7
theorem dj_8 : xdkok 8 := fun M y b rt h1 h2 => by cases h1; cases h2; exact dk_8
theorem dj_9 : xdkok 9 := fun M y b rt h1 h2 => by cases h1; cases h2; exact dk_9
theorem dj_10 : xdkok 10 := fun M y b rt h1 h2 => by cases h1; cases h2; exact dk_10
theorem dj_11 : xdkok 11 := fun M y b rt h1 h2 => by cases h1; cases h2; exact dk_11
theorem dj_12 : xdkok 12 := fun M y b rt h1 h2 => by cases h1; cases h2; exact dk_12
theorem dj_13 : xdkok 13 := fun M y b rt h1 h2 => by cases h1; cases h2; exact dk_13
theorem dj_14 : xdkok 14 := fun M y b rt h1 h2 => by cases h1; cases h2; exact dk_14
theorem dj_15 : xdkok 15 := fun M y b rt h1 h2 => by cases h1; cases h2; exact dk_15
theorem dj_16 : xdkok 16 := fun M y b rt h1 h2 => by cases h1; cases h2; exact dk_16
theorem dj_17 : xdkok 17 := fun M y b rt h1 h2 => by cases h1; cases h2; exact dk_17
theorem dj_18 : xdkok 18 := fun M y b rt h1 h2 => by cases h1; cases h2; exact dk_18
theorem dj_19 : xdkok 19 := fun M y b rt h1 h2 => by cases h1; cases h2; exact dk_19
theorem dj_20 : xdkok 20 := fun M y b rt h1 h2 => by cases h1; cases h2; exact dk_20
theorem dj_21 : xdkok 21 := fun M y b rt h1 h2 => by cases h1; cases h2; exact dk_21
theorem dj_22 : xdkok 22 := fun M y b rt h1 h2 => by cases h1; cases h2; exact dk_22
theorem dj_23 : xdkok 23 := fun M y b rt h1 h2 => by cases h1; cases h2; exact dk_23
theorem dj_24 : xdkok 24 := fun M y b rt h1 h2 => by cases h1; cases h2; exact dk_24
theorem dj_25 : xdkok 25 := fun M y b rt h1 h2 => by cases h1; cases h2; exact dk_25
theorem dj_26 : xdkok 26 := fun M y b rt h1 h2 => by cases h1; cases h2; exact dk_26
theorem dj_27 : xdkok 27 := fun M y b rt h1 h2 => by cases h1; cases h2; exact dk_27
theorem dj_28 : xdkok 28 := fun M y b rt h1 h2 => by cases h1; cases h2; exact dk_28
theorem dj_29 : xdkok 29 := fun M y b rt h1 h2 => by cases h1; cases h2; exact dk_29
theorem dj_30 : xdkok 30 := fun M y b rt h1 h2 => by cases h1; cases h2; exact dk_30
theorem dj_31 : xdkok 31 := fun M y b rt h1 h2 => by cases h1; cases h2; exact dk_31
theorem dj_32 : xdkok 32 := fun M y b rt h1 h2 => by cases h1; cases h2; exact dk_32
theorem dj_33 : xdkok 33 := fun M y b rt h1 h2 => by cases h1; cases h2; exact dk_33
theorem dj_34 : xdkok 34 := fun M y b rt h1 h2 => by cases h1; cases h2; exact dk_34
theorem dj_35 : xdkok 35 := fun M y b rt h1 h2 => by cases h1; cases h2; exact dk_35
theorem dj_36 : xdkok 36 := fun M y b rt h1 h2 => by cases h1; cases h2; exact dk_36
theorem dj_37 : xdkok 37 := fun M y b rt h1 h2 => by cases h1; cases h2; exact dk_37
theorem dj_38 : xdkok 38 := fun M y b rt h1 h2 => by cases h1; cases h2; exact dk_38
theorem dj_39 : xdkok 39 := fun M y b rt h1 h2 => by cases h1; cases h2; exact dk_39
theorem dj_40 : xdkok 40 := fun M y b rt h1 h2 => by cases h1; cases h2; exact dk_40
theorem dj_41 : xdkok 41 := fun M y b rt h1 h2 => by cases h1; cases h2; exact dk_41
theorem dj_42 : xdkok 42 := fun M y b rt h1 h2 => by cases h1; cases h2; exact dk_42
theorem dj_43 : xdkok 43 := fun M y b rt h1 h2 => by cases h1; cases h2; exact dk_43
theorem dj_44 : xdkok 44 := fun M y b rt h1 h2 => by cases h1; cases h2; exact dk_44
theorem dj_45 : xdkok 45 := fun M y b rt h1 h2 => by cases h1; cases h2; exact dk_45
theorem dj_46 : xdkok 46 := fun M y b rt h1 h2 => by cases h1; cases h2; exact dk_46
theorem dj_47 : xdkok 47 := fun M y b rt h1 h2 => by cases h1; cases h2; exact dk_47
theorem dj_48 : xdkok 48 := fun M y b rt h1 h2 => by cases h1; cases h2; exact dk_48
theorem dj_49 : xdkok 49 := fun M y b rt h1 h2 => by cases h1; cases h2; exact dk_49
theorem dj_50 : xdkok 50 := fun M y b rt h1 h2 => by cases h1; cases h2; exact dk_50
theorem dj_51 : xdkok 51 := fun M y b rt h1 h2 => by cases h1; cases h2; exact dk_51
theorem dj_52 : xdkok 52 := fun M y b rt h1 h2 => by cases h1; cases h2; exact dk_52
theorem dj_53 : xdkok 53 := fun M y b rt h1 h2 => by cases h1; cases h2; exact dk_53
theorem dj_54 : xdkok 54 := fun M y b rt h1 h2 => by cases h1; cases h2; exact dk_54
theorem dj_55 : xdkok 55 := fun M y b rt h1 h2 => by cases h1; cases h2; exact dk_55
theorem dj_56 : xdkok 56 := fun M y b rt h1 h2 => by cases h1; cases h2; exact dk_56
theorem dj_57 : xdkok 57 := fun M y b rt h1 h2 => by cases h1; cases h2; exact dk_57
theorem dj_58 : xdkok 58 := fun M y b rt h1 h2 => by cases h1; cases h2; exact dk_58
theorem dj_59 : xdkok 59 := fun M y b rt h1 h2 => by cases h1; cases h2; exact dk_59
theorem dj_60 : xdkok 60 := fun M y b rt h1 h2 => by cases h1; cases h2; exact dk_60
theorem dj_61 : xdkok 61 := fun M y b rt h1 h2 => by cases h1; cases h2; exact dk_61
theorem dj_62 : xdkok 62 := fun M y b rt h1 h2 => by cases h1; cases h2; exact dk_62
theorem dj_63 : xdkok 63 := fun M y b rt h1 h2 => by cases h1; cases h2; exact dk_63
theorem dj_64 : xdkok 64 := fun M y b rt h1 h2 => by cases h1; cases h2; exact dk_64
theorem dj_65 : xdkok 65 := fun M y b rt h1 h2 => by cases h1; cases h2; exact dk_65
theorem dj_66 : xdkok 66 := fun M y b rt h1 h2 => by cases h1; cases h2; exact dk_66
theorem dj_67 : xdkok 67 := fun M y b rt h1 h2 => by cases h1; cases h2; exact dk_67
theorem dj_68 : xdkok 68 := fun M y b rt h1 h2 => by cases h1; cases h2; exact dk_68
theorem dj_69 : xdkok 69 := fun M y b rt h1 h2 => by cases h1; cases h2; exact dk_69
theorem dj_70 : xdkok 70 := fun M y b rt h1 h2 => by cases h1; cases h2; exact dk_70
theorem dj_71 : xdkok 71 := fun M y b rt h1 h2 => by cases h1; cases h2; exact dk_71
theorem dj_72 : xdkok 72 := fun M y b rt h1 h2 => by cases h1; cases h2; exact dk_72
theorem dj_73 : xdkok 73 := fun M y b rt h1 h2 => by cases h1; cases h2; exact dk_73
theorem dj_74 : xdkok 74 := fun M y b rt h1 h2 => by cases h1; cases h2; exact dk_74
theorem dj_75 : xdkok 75 := fun M y b rt h1 h2 => by cases h1; cases h2; exact dk_75
theorem dj_76 : xdkok 76 := fun M y b rt h1 h2 => by cases h1; cases h2; exact dk_76
theorem dj_77 : xdkok 77 := fun M y b rt h1 h2 => by cases h1; cases h2; exact dk_77
theorem dj_78 : xdkok 78 := fun M y b rt h1 h2 => by cases h1; cases h2; exact dk_78
theorem dj_79 : xdkok 79 := fun M y b rt h1 h2 => by cases h1; cases h2; exact dk_79
theorem dj_80 : xdkok 80 := fun M y b rt h1 h2 => by cases h1; cases h2; exact dk_80
theorem dj_81 : xdkok 81 := fun M y b rt h1 h2 => by cases h1; cases h2; exact dk_81
theorem dj_82 : xdkok 82 := fun M y b rt h1 h2 => by cases h1; cases h2; exact dk_82
theorem dj_83 : xdkok 83 := fun M y b rt h1 h2 => by cases h1; cases h2; exact dk_83
theorem dj_84 : xdkok 84 := fun M y b rt h1 h2 => by cases h1; cases h2; exact dk_84
theorem dj_85 : xdkok 85 := fun M y b rt h1 h2 => by cases h1; cases h2; exact dk_85
theorem dj_86 : xdkok 86 := fun M y b rt h1 h2 => by cases h1; cases h2; exact dk_86
theorem dj_87 : xdkok 87 := fun M y b rt h1 h2 => by cases h1; cases h2; exact dk_87
theorem dj_88 : xdkok 88 := fun M y b rt h1 h2 => by cases h1; cases h2; exact dk_88
theorem dj_89 : xdkok 89 := fun M y b rt h1 h2 => by cases h1; cases h2; exact dk_89
theorem dj_90 : xdkok 90 := fun M y b rt h1 h2 => by cases h1; cases h2; exact dk_90
theorem dj_91 : xdkok 91 := fun M y b rt h1 h2 => by cases h1; cases h2; exact dk_91
theorem dj_92 : xdkok 92 := fun M y b rt h1 h2 => by cases h1; cases h2; exact dk_92
theorem dj_93 : xdkok 93 := fun M y b rt h1 h2 => by cases h1; cases h2; exact dk_93
theorem dj_94 : xdkok 94 := fun M y b rt h1 h2 => by cases h1; cases h2; exact dk_94
theorem dj_95 : xdkok 95 := fun M y b rt h1 h2 => by cases h1; cases h2; exact dk_95
theorem dj_96 : xdkok 96 := fun M y b rt h1 h2 => by cases h1; cases h2; exact dk_96
theorem dj_97 : xdkok 97 := fun M y b rt h1 h2 => by cases h1; cases h2; exact dk_97
theorem dj_98 : xdkok 98 := fun M y b rt h1 h2 => by cases h1; cases h2; exact dk_98
theorem dj_99 : xdkok 99 := fun M y b rt h1 h2 => by cases h1; cases h2; exact dk_99
theorem dj_100 : xdkok 100 := fun M y b rt h1 h2 => by cases h1; cases h2; exact dk_100
theorem dj_101 : xdkok 101 := fun M y b rt h1 h2 => by cases h1; cases h2; exact dk_101
theorem dj_102 : xdkok 102 := fun M y b rt h1 h2 => by cases h1; cases h2; exact dk_102
theorem dj_103 : xdkok 103 := fun M y b rt h1 h2 => by cases h1; cases h2; exact dk_103
theorem dj_104 : xdkok 104 := fun M y b rt h1 h2 => by cases h1; cases h2; exact dk_104
theorem dj_105 : xdkok 105 := fun M y b rt h1 h2 => by cases h1; cases h2; exact dk_105
theorem dj_106 : xdkok 106 := fun M y b rt h1 h2 => by cases h1; cases h2; exact dk_106
theorem dj_107 : xdkok 107 := fun M y b rt h1 h2 => by cases h1; cases h2; exact dk_107
theorem dj_108 : xdkok 108 := fun M y b rt h1 h2 => by cases h1; cases h2; exact dk_108
theorem dj_109 : xdkok 109 := fun M y b rt h1 h2 => by cases h1; cases h2; exact dk_109
theorem dj_110 : xdkok 110 := fun M y b rt h1 h2 => by cases h1; cases h2; exact dk_110
theorem dj_111 : xdkok 111 := fun M y b rt h1 h2 => by cases h1; cases h2; exact dk_111
theorem dj_112 : xdkok 112 := fun M y b rt h1 h2 => by cases h1; cases h2; exact dk_112
theorem dj_113 : xdkok 113 := fun M y b rt h1 h2 => by cases h1; cases h2; exact dk_113
theorem dj_114 : xdkok 114 := fun M y b rt h1 h2 => by cases h1; cases h2; exact dk_114
theorem dj_115 : xdkok 115 := fun M y b rt h1 h2 => by cases h1; cases h2; exact dk_115
theorem dj_116 : xdkok 116 := fun M y b rt h1 h2 => by cases h1; cases h2; exact dk_116
theorem dj_117 : xdkok 117 := fun M y b rt h1 h2 => by cases h1; cases h2; exact dk_117
theorem dj_118 : xdkok 118 := fun M y b rt h1 h2 => by cases h1; cases h2; exact dk_118
theorem dj_119 : xdkok 119 := fun M y b rt h1 h2 => by cases h1; cases h2; exact dk_119
theorem dj_120 : xdkok 120 := fun M y b rt h1 h2 => by cases h1; cases h2; exact dk_120
theorem dj_121 : xdkok 121 := fun M y b rt h1 h2 => by cases h1; cases h2; exact dk_121
theorem dj_122 : xdkok 122 := fun M y b rt h1 h2 => by cases h1; cases h2; exact dk_122
theorem dj_123 : xdkok 123 := fun M y b rt h1 h2 => by cases h1; cases h2; exact dk_123
theorem dj_124 : xdkok 124 := fun M y b rt h1 h2 => by cases h1; cases h2; exact dk_124
theorem dj_125 : xdkok 125 := fun M y b rt h1 h2 => by cases h1; cases h2; exact dk_125
theorem dj_126 : xdkok 126 := fun M y b rt h1 h2 => by cases h1; cases h2; exact dk_126
theorem dj_127 : xdkok 127 := fun M y b rt h1 h2 => by cases h1; cases h2; exact dk_127
theorem dj_128 : xdkok 128 := fun M y b rt h1 h2 => by cases h1; cases h2; exact dk_128
theorem dj_129 : xdkok 129 := fun M y b rt h1 h2 => by cases h1; cases h2; exact dk_129
theorem dj_130 : xdkok 130 := fun M y b rt h1 h2 => by cases h1; cases h2; exact dk_130
theorem dj_131 : xdkok 131 := fun M y b rt h1 h2 => by cases h1; cases h2; exact dk_131
theorem dj_132 : xdkok 132 := fun M y b rt h1 h2 => by cases h1; cases h2; exact dk_132
theorem dj_133 : xdkok 133 := fun M y b rt h1 h2 => by cases h1; cases h2; exact dk_133
theorem dj_134 : xdkok 134 := fun M y b rt h1 h2 => by cases h1; cases h2; exact dk_134
theorem dj_135 : xdkok 135 := fun M y b rt h1 h2 => by cases h1; cases h2; exact dk_135
theorem dj_136 : xdkok 136 := fun M y b rt h1 h2 => by cases h1; cases h2; exact dk_136
theorem dj_137 : xdkok 137 := fun M y b rt h1 h2 => by cases h1; cases h2; exact dk_137
theorem dj_138 : xdkok 138 := fun M y b rt h1 h2 => by cases h1; cases h2; exact dk_138
theorem dj_139 : xdkok 139 := fun M y b rt h1 h2 => by cases h1; cases h2; exact dk_139
theorem dj_140 : xdkok 140 := fun M y b rt h1 h2 => by cases h1; cases h2; exact dk_140
theorem dj_141 : xdkok 141 := fun M y b rt h1 h2 => by cases h1; cases h2; exact dk_141
theorem dj_142 : xdkok 142 := fun M y b rt h1 h2 => by cases h1; cases h2; exact dk_142
theorem dj_143 : xdkok 143 := fun M y b rt h1 h2 => by cases h1; cases h2; exact dk_143
theorem dj_144 : xdkok 144 := fun M y b rt h1 h2 => by cases h1; cases h2; exact dk_144
theorem dj_145 : xdkok 145 := fun M y b rt h1 h2 => by cases h1; cases h2; exact dk_145
theorem dj_146 : xdkok 146 := fun M y b rt h1 h2 => by cases h1; cases h2; exact dk_146
theorem dj_147 : xdkok 147 := fun M y b rt h1 h2 => by cases h1; cases h2; exact dk_147
theorem dj_148 : xdkok 148 := fun M y b rt h1 h2 => by cases h1; cases h2; exact dk_148
theorem dj_149 : xdkok 149 := fun M y b rt h1 h2 => by cases h1; cases h2; exact dk_149
theorem dj_150 : xdkok 150 := fun M y b rt h1 h2 => by cases h1; cases h2; exact dk_150
theorem dj_151 : xdkok 151 := fun M y b rt h1 h2 => by cases h1; cases h2; exact dk_151
theorem dj_152 : xdkok 152 := fun M y b rt h1 h2 => by cases h1; cases h2; exact dk_152
theorem dj_153 : xdkok 153 := fun M y b rt h1 h2 => by cases h1; cases h2; exact dk_153
theorem dj_154 : xdkok 154 := fun M y b rt h1 h2 => by cases h1; cases h2; exact dk_154
theorem dj_155 : xdkok 155 := fun M y b rt h1 h2 => by cases h1; cases h2; exact dk_155
theorem dj_156 : xdkok 156 := fun M y b rt h1 h2 => by cases h1; cases h2; exact dk_156
theorem dj_157 : xdkok 157 := fun M y b rt h1 h2 => by cases h1; cases h2; exact dk_157
theorem dj_158 : xdkok 158 := fun M y b rt h1 h2 => by cases h1; cases h2; exact dk_158
theorem dj_159 : xdkok 159 := fun M y b rt h1 h2 => by cases h1; cases h2; exact dk_159
theorem dj_160 : xdkok 160 := fun M y b rt h1 h2 => by cases h1; cases h2; exact dk_160
theorem dj_161 : xdkok 161 := fun M y b rt h1 h2 => by cases h1; cases h2; exact dk_161
theorem dj_162 : xdkok 162 := fun M y b rt h1 h2 => by cases h1; cases h2; exact dk_162
theorem dj_163 : xdkok 163 := fun M y b rt h1 h2 => by cases h1; cases h2; exact dk_163
theorem dj_164 : xdkok 164 := fun M y b rt h1 h2 => by cases h1; cases h2; exact dk_164
theorem dj_165 : xdkok 165 := fun M y b rt h1 h2 => by cases h1; cases h2; exact dk_165
theorem dj_166 : xdkok 166 := fun M y b rt h1 h2 => by cases h1; cases h2; exact dk_166
theorem dj_167 : xdkok 167 := fun M y b rt h1 h2 => by cases h1; cases h2; exact dk_167
theorem dj_168 : xdkok 168 := fun M y b rt h1 h2 => by cases h1; cases h2; exact dk_168
theorem dj_169 : xdkok 169 := fun M y b rt h1 h2 => by cases h1; cases h2; exact dk_169
theorem dj_170 : xdkok 170 := fun M y b rt h1 h2 => by cases h1; cases h2; exact dk_170
theorem dj_171 : xdkok 171 := fun M y b rt h1 h2 => by cases h1; cases h2; exact dk_171
theorem dj_172 : xdkok 172 := fun M y b rt h1 h2 => by cases h1; cases h2; exact dk_172
theorem dj_173 : xdkok 173 := fun M y b rt h1 h2 => by cases h1; cases h2; exact dk_173
theorem dj_174 : xdkok 174 := fun M y b rt h1 h2 => by cases h1; cases h2; exact dk_174
theorem dj_175 : xdkok 175 := fun M y b rt h1 h2 => by cases h1; cases h2; exact dk_175
theorem dj_176 : xdkok 176 := fun M y b rt h1 h2 => by cases h1; cases h2; exact dk_176
theorem dj_177 : xdkok 177 := fun M y b rt h1 h2 => by cases h1; cases h2; exact dk_177
theorem dj_178 : xdkok 178 := fun M y b rt h1 h2 => by cases h1; cases h2; exact dk_178
theorem dj_179 : xdkok 179 := fun M y b rt h1 h2 => by cases h1; cases h2; exact dk_179
theorem dj_180 : xdkok 180 := fun M y b rt h1 h2 => by cases h1; cases h2; exact dk_180
theorem dj_181 : xdkok 181 := fun M y b rt h1 h2 => by cases h1; cases h2; exact dk_181
theorem dj_182 : xdkok 182 := fun M y b rt h1 h2 => by cases h1; cases h2; exact dk_182
theorem dj_183 : xdkok 183 := fun M y b rt h1 h2 => by cases h1; cases h2; exact dk_183
theorem dj_184 : xdkok 184 := fun M y b rt h1 h2 => by cases h1; cases h2; exact dk_184
theorem dj_185 : xdkok 185 := fun M y b rt h1 h2 => by cases h1; cases h2; exact dk_185
theorem dj_186 : xdkok 186 := fun M y b rt h1 h2 => by cases h1; cases h2; exact dk_186
theorem dj_187 : xdkok 187 := fun M y b rt h1 h2 => by cases h1; cases h2; exact dk_187
theorem dj_188 : xdkok 188 := fun M y b rt h1 h2 => by cases h1; cases h2; exact dk_188
theorem dj_189 : xdkok 189 := fun M y b rt h1 h2 => by cases h1; cases h2; exact dk_189
theorem dj_190 : xdkok 190 := fun M y b rt h1 h2 => by cases h1; cases h2; exact dk_190
theorem dj_191 : xdkok 191 := fun M y b rt h1 h2 => by cases h1; cases h2; exact dk_191
theorem dj_192 : xdkok 192 := fun M y b rt h1 h2 => by cases h1; cases h2; exact dk_192
theorem dj_193 : xdkok 193 := fun M y b rt h1 h2 => by cases h1; cases h2; exact dk_193
theorem dj_194 : xdkok 194 := fun M y b rt h1 h2 => by cases h1; cases h2; exact dk_194
theorem dj_195 : xdkok 195 := fun M y b rt h1 h2 => by cases h1; cases h2; exact dk_195
theorem dj_196 : xdkok 196 := fun M y b rt h1 h2 => by cases h1; cases h2; exact dk_196
theorem dj_197 : xdkok 197 := fun M y b rt h1 h2 => by cases h1; cases h2; exact dk_197
theorem dj_198 : xdkok 198 := fun M y b rt h1 h2 => by cases h1; cases h2; exact dk_198
theorem dj_199 : xdkok 199 := fun M y b rt h1 h2 => by cases h1; cases h2; exact dk_199
theorem dj_200 : xdkok 200 := fun M y b rt h1 h2 => by cases h1; cases h2; exact dk_200
theorem dj_201 : xdkok 201 := fun M y b rt h1 h2 => by cases h1; cases h2; exact dk_201
theorem dj_202 : xdkok 202 := fun M y b rt h1 h2 => by cases h1; cases h2; exact dk_202
theorem dj_203 : xdkok 203 := fun M y b rt h1 h2 => by cases h1; cases h2; exact dk_203
theorem dj_204 : xdkok 204 := fun M y b rt h1 h2 => by cases h1; cases h2; exact dk_204
theorem dj_205 : xdkok 205 := fun M y b rt h1 h2 => by cases h1; cases h2; exact dk_205
theorem dj_206 : xdkok 206 := fun M y b rt h1 h2 => by cases h1; cases h2; exact dk_206
theorem dj_207 : xdkok 207 := fun M y b rt h1 h2 => by cases h1; cases h2; exact dk_207
theorem dj_208 : xdkok 208 := fun M y b rt h1 h2 => by cases h1; cases h2; exact dk_208
theorem dj_209 : xdkok 209 := fun M y b rt h1 h2 => by cases h1; cases h2; exact dk_209
theorem dj_210 : xdkok 210 := fun M y b rt h1 h2 => by cases h1; cases h2; exact dk_210
theorem dj_211 : xdkok 211 := fun M y b rt h1 h2 => by cases h1; cases h2; exact dk_211
theorem dj_212 : xdkok 212 := fun M y b rt h1 h2 => by cases h1; cases h2; exact dk_212
theorem dj_213 : xdkok 213 := fun M y b rt h1 h2 => by cases h1; cases h2; exact dk_213
theorem dj_214 : xdkok 214 := fun M y b rt h1 h2 => by cases h1; cases h2; exact dk_214
theorem dj_215 : xdkok 215 := fun M y b rt h1 h2 => by cases h1; cases h2; exact dk_215
theorem dj_216 : xdkok 216 := fun M y b rt h1 h2 => by cases h1; cases h2; exact dk_216
theorem dj_217 : xdkok 217 := fun M y b rt h1 h2 => by cases h1; cases h2; exact dk_217
theorem dj_218 : xdkok 218 := fun M y b rt h1 h2 => by cases h1; cases h2; exact dk_218
theorem dj_219 : xdkok 219 := fun M y b rt h1 h2 => by cases h1; cases h2; exact dk_219
theorem dj_220 : xdkok 220 := fun M y b rt h1 h2 => by cases h1; cases h2; exact dk_220
theorem dj_221 : xdkok 221 := fun M y b rt h1 h2 => by cases h1; cases h2; exact dk_221
theorem dj_222 : xdkok 222 := fun M y b rt h1 h2 => by cases h1; cases h2; exact dk_222
theorem dj_223 : xdkok 223 := fun M y b rt h1 h2 => by cases h1; cases h2; exact dk_223
theorem dj_224 : xdkok 224 := fun M y b rt h1 h2 => by cases h1; cases h2; exact dk_224
theorem dj_225 : xdkok 225 := fun M y b rt h1 h2 => by cases h1; cases h2; exact dk_225
theorem dj_226 : xdkok 226 := fun M y b rt h1 h2 => by cases h1; cases h2; exact dk_226
theorem dj_227 : xdkok 227 := fun M y b rt h1 h2 => by cases h1; cases h2; exact dk_227
theorem dj_228 : xdkok 228 := fun M y b rt h1 h2 => by cases h1; cases h2; exact dk_228
theorem dj_229 : xdkok 229 := fun M y b rt h1 h2 => by cases h1; cases h2; exact dk_229
theorem dj_230 : xdkok 230 := fun M y b rt h1 h2 => by cases h1; cases h2; exact dk_230
theorem dj_231 : xdkok 231 := fun M y b rt h1 h2 => by cases h1; cases h2; exact dk_231
theorem dj_232 : xdkok 232 := fun M y b rt h1 h2 => by cases h1; cases h2; exact dk_232
theorem dj_233 : xdkok 233 := fun M y b rt h1 h2 => by cases h1; cases h2; exact dk_233
theorem dj_234 : xdkok 234 := fun M y b rt h1 h2 => by cases h1; cases h2; exact dk_234
theorem dj_235 : xdkok 235 := fun M y b rt h1 h2 => by cases h1; cases h2; exact dk_235
theorem dj_236 : xdkok 236 := fun M y b rt h1 h2 => by cases h1; cases h2; exact dk_236
theorem dj_237 : xdkok 237 := fun M y b rt h1 h2 => by cases h1; cases h2; exact dk_237
theorem dj_238 : xdkok 238 := fun M y b rt h1 h2 => by cases h1; cases h2; exact dk_238
theorem dj_239 : xdkok 239 := fun M y b rt h1 h2 => by cases h1; cases h2; exact dk_239
theorem dj_240 : xdkok 240 := fun M y b rt h1 h2 => by cases h1; cases h2; exact dk_240
theorem dj_241 : xdkok 241 := fun M y b rt h1 h2 => by cases h1; cases h2; exact dk_241
theorem dj_242 : xdkok 242 := fun M y b rt h1 h2 => by cases h1; cases h2; exact dk_242
theorem dj_243 : xdkok 243 := fun M y b rt h1 h2 => by cases h1; cases h2; exact dk_243
theorem dj_244 : xdkok 244 := fun M y b rt h1 h2 => by cases h1; cases h2; exact dk_244
theorem dj_245 : xdkok 245 := fun M y b rt h1 h2 => by cases h1; cases h2; exact dk_245
theorem dj_246 : xdkok 246 := fun M y b rt h1 h2 => by cases h1; cases h2; exact dk_246
theorem dj_247 : xdkok 247 := fun M y b rt h1 h2 => by cases h1; cases h2; exact dk_247
theorem dj_248 : xdkok 248 := fun M y b rt h1 h2 => by cases h1; cases h2; exact dk_248
theorem dj_249 : xdkok 249 := fun M y b rt h1 h2 => by cases h1; cases h2; exact dk_249
theorem dj_250 : xdkok 250 := fun M y b rt h1 h2 => by cases h1; cases h2; exact dk_250
theorem dj_251 : xdkok 251 := fun M y b rt h1 h2 => by cases h1; cases h2; exact dk_251
theorem dj_252 : xdkok 252 := fun M y b rt h1 h2 => by cases h1; cases h2; exact dk_252
theorem dj_253 : xdkok 253 := fun M y b rt h1 h2 => by cases h1; cases h2; exact dk_253
theorem dj_254 : xdkok 254 := fun M y b rt h1 h2 => by cases h1; cases h2; exact dk_254
theorem dj_255 : xdkok 255 := fun M y b rt h1 h2 => by cases h1; cases h2; exact dk_255
theorem dj_256 : xdkok 256 := fun M y b rt h1 h2 => by cases h1; cases h2; exact dk_256
theorem dj_257 : xdkok 257 := fun M y b rt h1 h2 => by cases h1; cases h2; exact dk_257
theorem dj_258 : xdkok 258 := fun M y b rt h1 h2 => by cases h1; cases h2; exact dk_258
theorem dj_259 : xdkok 259 := fun M y b rt h1 h2 => by cases h1; cases h2; exact dk_259
theorem dj_260 : xdkok 260 := fun M y b rt h1 h2 => by cases h1; cases h2; exact dk_260
theorem dj_261 : xdkok 261 := fun M y b rt h1 h2 => by cases h1; cases h2; exact dk_261
theorem dj_262 : xdkok 262 := fun M y b rt h1 h2 => by cases h1; cases h2; exact dk_262
theorem dj_263 : xdkok 263 := fun M y b rt h1 h2 => by cases h1; cases h2; exact dk_263
theorem dj_264 : xdkok 264 := fun M y b rt h1 h2 => by cases h1; cases h2; exact dk_264
theorem dj_265 : xdkok 265 := fun M y b rt h1 h2 => by cases h1; cases h2; exact dk_265
theorem dj_266 : xdkok 266 := fun M y b rt h1 h2 => by cases h1; cases h2; exact dk_266
theorem dj_267 : xdkok 267 := fun M y b rt h1 h2 => by cases h1; cases h2; exact dk_267
theorem dj_268 : xdkok 268 := fun M y b rt h1 h2 => by cases h1; cases h2; exact dk_268
theorem dj_269 : xdkok 269 := fun M y b rt h1 h2 => by cases h1; cases h2; exact dk_269
theorem dj_270 : xdkok 270 := fun M y b rt h1 h2 => by cases h1; cases h2; exact dk_270
theorem dj_271 : xdkok 271 := fun M y b rt h1 h2 => by cases h1; cases h2; exact dk_271
theorem dj_272 : xdkok 272 := fun M y b rt h1 h2 => by cases h1; cases h2; exact dk_272
theorem dj_273 : xdkok 273 := fun M y b rt h1 h2 => by cases h1; cases h2; exact dk_273
theorem dj_274 : xdkok 274 := fun M y b rt h1 h2 => by cases h1; cases h2; exact dk_274
theorem dj_275 : xdkok 275 := fun M y b rt h1 h2 => by cases h1; cases h2; exact dk_275
theorem dj_276 : xdkok 276 := fun M y b rt h1 h2 => by cases h1; cases h2; exact dk_276
theorem dj_277 : xdkok 277 := fun M y b rt h1 h2 => by cases h1; cases h2; exact dk_277
theorem dj_278 : xdkok 278 := fun M y b rt h1 h2 => by cases h1; cases h2; exact dk_278
theorem dj_279 : xdkok 279 := fun M y b rt h1 h2 => by cases h1; cases h2; exact dk_279
theorem dj_280 : xdkok 280 := fun M y b rt h1 h2 => by cases h1; cases h2; exact dk_280
theorem dj_281 : xdkok 281 := fun M y b rt h1 h2 => by cases h1; cases h2; exact dk_281
theorem dj_282 : xdkok 282 := fun M y b rt h1 h2 => by cases h1; cases h2; exact dk_282
theorem dj_283 : xdkok 283 := fun M y b rt h1 h2 => by cases h1; cases h2; exact dk_283
theorem dj_284 : xdkok 284 := fun M y b rt h1 h2 => by cases h1; cases h2; exact dk_284
theorem dj_285 : xdkok 285 := fun M y b rt h1 h2 => by cases h1; cases h2; exact dk_285
theorem dj_286 : xdkok 286 := fun M y b rt h1 h2 => by cases h1; cases h2; exact dk_286
theorem dj_287 : xdkok 287 := fun M y b rt h1 h2 => by cases h1; cases h2; exact dk_287
theorem dj_288 : xdkok 288 := fun M y b rt h1 h2 => by cases h1; cases h2; exact dk_288
theorem dj_289 : xdkok 289 := fun M y b rt h1 h2 => by cases h1; cases h2; exact dk_289
theorem dj_290 : xdkok 290 := fun M y b rt h1 h2 => by cases h1; cases h2; exact dk_290
theorem dj_291 : xdkok 291 := fun M y b rt h1 h2 => by cases h1; cases h2; exact dk_291
theorem dj_292 : xdkok 292 := fun M y b rt h1 h2 => by cases h1; cases h2; exact dk_292
theorem dj_293 : xdkok 293 := fun M y b rt h1 h2 => by cases h1; cases h2; exact dk_293
theorem dj_294 : xdkok 294 := fun M y b rt h1 h2 => by cases h1; cases h2; exact dk_294
theorem dj_295 : xdkok 295 := fun M y b rt h1 h2 => by cases h1; cases h2; exact dk_295
theorem dj_296 : xdkok 296 := fun M y b rt h1 h2 => by cases h1; cases h2; exact dk_296
theorem dj_297 : xdkok 297 := fun M y b rt h1 h2 => by cases h1; cases h2; exact dk_297
theorem dj_298 : xdkok 298 := fun M y b rt h1 h2 => by cases h1; cases h2; exact dk_298
theorem dj_299 : xdkok 299 := fun M y b rt h1 h2 => by cases h1; cases h2; exact dk_299
theorem dj_300 : xdkok 300 := fun M y b rt h1 h2 => by cases h1; cases h2; exact dk_300
theorem dj_301 : xdkok 301 := fun M y b rt h1 h2 => by cases h1; cases h2; exact dk_301
theorem dj_302 : xdkok 302 := fun M y b rt h1 h2 => by cases h1; cases h2; exact dk_302
set_option maxRecDepth 100000 in
theorem dk_all : ∀ mid, mid < 303 → xdkok mid := by
  have h : ∀ mid ∈ List.range 303, xdkok mid := by
    rw [show List.range 303 = [0, 1, 2, 3, 4, 5, 6, 7, 8, 9, 10, 11, 12, 13, 14, 15, 16, 17, 18, 19, 20, 21, 22, 23, 24, 25, 26, 27, 28, 29, 30, 31, 32, 33, 34, 35, 36, 37, 38, 39, 40, 41, 42, 43, 44, 45, 46, 47, 48, 49, 50, 51, 52, 53, 54, 55, 56, 57, 58, 59, 60, 61, 62, 63, 64, 65, 66, 67, 68, 69, 70, 71, 72, 73, 74, 75, 76, 77, 78, 79, 80, 81, 82, 83, 84, 85, 86, 87, 88, 89, 90, 91, 92, 93, 94, 95, 96, 97, 98, 99, 100, 101, 102, 103, 104, 105, 106, 107, 108, 109, 110, 111, 112, 113, 114, 115, 116, 117, 118, 119, 120, 121, 122, 123, 124, 125, 126, 127, 128, 129, 130, 131, 132, 133, 134, 135, 136, 137, 138, 139, 140, 141, 142, 143, 144, 145, 146, 147, 148, 149, 150, 151, 152, 153, 154, 155, 156, 157, 158, 159, 160, 161, 162, 163, 164, 165, 166, 167, 168, 169, 170, 171, 172, 173, 174, 175, 176, 177, 178, 179, 180, 181, 182, 183, 184, 185, 186, 187, 188, 189, 190, 191, 192, 193, 194, 195, 196, 197, 198, 199, 200, 201, 202, 203, 204, 205, 206, 207, 208, 209, 210, 211, 212, 213, 214, 215, 216, 217, 218, 219, 220, 221, 222, 223, 224, 225, 226, 227, 228, 229, 230, 231, 232, 233, 234, 235, 236, 237, 238, 239, 240, 241, 242, 243, 244, 245, 246, 247, 248, 249, 250, 251, 252, 253, 254, 255, 256, 257, 258, 259, 260, 261, 262, 263, 264, 265, 266, 267, 268, 269, 270, 271, 272, 273, 274, 275, 276, 277, 278, 279, 280, 281, 282, 283, 284, 285, 286, 287, 288, 289, 290, 291, 292, 293, 294, 295, 296, 297, 298, 299, 300, 301, 302] by decide +kernel]
    exact List.forall_mem_cons.mpr ⟨dj_0, List.forall_mem_cons.mpr ⟨dj_1, List.forall_mem_cons.mpr ⟨dj_2, List.forall_mem_cons.mpr ⟨dj_3, List.forall_mem_cons.mpr ⟨dj_4, List.forall_mem_cons.mpr ⟨dj_5, List.forall_mem_cons.mpr ⟨dj_6, List.forall_mem_cons.mpr ⟨dj_7, List.forall_mem_cons.mpr ⟨dj_8, List.forall_mem_cons.mpr ⟨dj_9, List.forall_mem_cons.mpr ⟨dj_10, List.forall_mem_cons.mpr ⟨dj_11, List.forall_mem_cons.mpr ⟨dj_12, List.forall_mem_cons.mpr ⟨dj_13, List.forall_mem_cons.mpr ⟨dj_14, List.forall_mem_cons.mpr ⟨dj_15, List.forall_mem_cons.mpr ⟨dj_16, List.forall_mem_cons.mpr ⟨dj_17, List.forall_mem_cons.mpr ⟨dj_18, List.forall_mem_cons.mpr ⟨dj_19, List.forall_mem_cons.mpr ⟨dj_20, List.forall_mem_cons.mpr ⟨dj_21, List.forall_mem_cons.mpr ⟨dj_22, List.forall_mem_cons.mpr ⟨dj_23, List.forall_mem_cons.mpr ⟨dj_24, List.forall_mem_cons.mpr ⟨dj_25, List.forall_mem_cons.mpr ⟨dj_26, List.forall_mem_cons.mpr ⟨dj_27, List.forall_mem_cons.mpr ⟨dj_28, List.forall_mem_cons.mpr ⟨dj_29, List.forall_mem_cons.mpr ⟨dj_30, List.forall_mem_cons.mpr ⟨dj_31, List.forall_mem_cons.mpr ⟨dj_32, List.forall_mem_cons.mpr ⟨dj_33, List.forall_mem_cons.mpr ⟨dj_34, List.forall_mem_cons.mpr ⟨dj_35, List.forall_mem_cons.mpr ⟨dj_36, List.forall_mem_cons.mpr ⟨dj_37, List.forall_mem_cons.mpr ⟨dj_38, List.forall_mem_cons.mpr ⟨dj_39, List.forall_mem_cons.mpr ⟨dj_40, List.forall_mem_cons.mpr ⟨dj_41, List.forall_mem_cons.mpr ⟨dj_42, List.forall_mem_cons.mpr ⟨dj_43, List.forall_mem_cons.mpr ⟨dj_44, List.forall_mem_cons.mpr ⟨dj_45, List.forall_mem_cons.mpr ⟨dj_46, List.forall_mem_cons.mpr ⟨dj_47, List.forall_mem_cons.mpr ⟨dj_48, List.forall_mem_cons.mpr ⟨dj_49, List.forall_mem_cons.mpr ⟨dj_50, List.forall_mem_cons.mpr ⟨dj_51, List.forall_mem_cons.mpr ⟨dj_52, List.forall_mem_cons.mpr ⟨dj_53, List.forall_mem_cons.mpr ⟨dj_54, List.forall_mem_cons.mpr ⟨dj_55, List.forall_mem_cons.mpr ⟨dj_56, List.forall_mem_cons.mpr ⟨dj_57, List.forall_mem_cons.mpr ⟨dj_58, List.forall_mem_cons.mpr ⟨dj_59, List.forall_mem_cons.mpr ⟨dj_60, List.forall_mem_cons.mpr ⟨dj_61, List.forall_mem_cons.mpr ⟨dj_62, List.forall_mem_cons.mpr ⟨dj_63, List.forall_mem_cons.mpr ⟨dj_64, List.forall_mem_cons.mpr ⟨dj_65, List.forall_mem_cons.mpr ⟨dj_66, List.forall_mem_cons.mpr ⟨dj_67, List.forall_mem_cons.mpr ⟨dj_68, List.forall_mem_cons.mpr ⟨dj_69, List.forall_mem_cons.mpr ⟨dj_70, List.forall_mem_cons.mpr ⟨dj_71, List.forall_mem_cons.mpr ⟨dj_72, List.forall_mem_cons.mpr ⟨dj_73, List.forall_mem_cons.mpr ⟨dj_74, List.forall_mem_cons.mpr ⟨dj_75, List.forall_mem_cons.mpr ⟨dj_76, List.forall_mem_cons.mpr ⟨dj_77, List.forall_mem_cons.mpr ⟨dj_78, List.forall_mem_cons.mpr ⟨dj_79, List.forall_mem_cons.mpr ⟨dj_80, List.forall_mem_cons.mpr ⟨dj_81, List.forall_mem_cons.mpr ⟨dj_82, List.forall_mem_cons.mpr ⟨dj_83, List.forall_mem_cons.mpr ⟨dj_84, List.forall_mem_cons.mpr ⟨dj_85, List.forall_mem_cons.mpr ⟨dj_86, List.forall_mem_cons.mpr ⟨dj_87, List.forall_mem_cons.mpr ⟨dj_88, List.forall_mem_cons.mpr ⟨dj_89, List.forall_mem_cons.mpr ⟨dj_90, List.forall_mem_cons.mpr ⟨dj_91, List.forall_mem_cons.mpr ⟨dj_92, List.forall_mem_cons.mpr ⟨dj_93, List.forall_mem_cons.mpr ⟨dj_94, List.forall_mem_cons.mpr ⟨dj_95, List.forall_mem_cons.mpr ⟨dj_96, List.forall_mem_cons.mpr ⟨dj_97, List.forall_mem_cons.mpr ⟨dj_98, List.forall_mem_cons.mpr ⟨dj_99, List.forall_mem_cons.mpr ⟨dj_100, List.forall_mem_cons.mpr ⟨dj_101, List.forall_mem_cons.mpr ⟨dj_102, List.forall_mem_cons.mpr ⟨dj_103, List.forall_mem_cons.mpr ⟨dj_104, List.forall_mem_cons.mpr ⟨dj_105, List.forall_mem_cons.mpr ⟨dj_106, List.forall_mem_cons.mpr ⟨dj_107, List.forall_mem_cons.mpr ⟨dj_108, List.forall_mem_cons.mpr ⟨dj_109, List.forall_mem_cons.mpr ⟨dj_110, List.forall_mem_cons.mpr ⟨dj_111, List.forall_mem_cons.mpr ⟨dj_112, List.forall_mem_cons.mpr ⟨dj_113, List.forall_mem_cons.mpr ⟨dj_114, List.forall_mem_cons.mpr ⟨dj_115, List.forall_mem_cons.mpr ⟨dj_116, List.forall_mem_cons.mpr ⟨dj_117, List.forall_mem_cons.mpr ⟨dj_118, List.forall_mem_cons.mpr ⟨dj_119, List.forall_mem_cons.mpr ⟨dj_120, List.forall_mem_cons.mpr ⟨dj_121, List.forall_mem_cons.mpr ⟨dj_122, List.forall_mem_cons.mpr ⟨dj_123, List.forall_mem_cons.mpr ⟨dj_124, List.forall_mem_cons.mpr ⟨dj_125, List.forall_mem_cons.mpr ⟨dj_126, List.forall_mem_cons.mpr ⟨dj_127, List.forall_mem_cons.mpr ⟨dj_128, List.forall_mem_cons.mpr ⟨dj_129, List.forall_mem_cons.mpr ⟨dj_130, List.forall_mem_cons.mpr ⟨dj_131, List.forall_mem_cons.mpr ⟨dj_132, List.forall_mem_cons.mpr ⟨dj_133, List.forall_mem_cons.mpr ⟨dj_134, List.forall_mem_cons.mpr ⟨dj_135, List.forall_mem_cons.mpr ⟨dj_136, List.forall_mem_cons.mpr ⟨dj_137, List.forall_mem_cons.mpr ⟨dj_138, List.forall_mem_cons.mpr ⟨dj_139, List.forall_mem_cons.mpr ⟨dj_140, List.forall_mem_cons.mpr ⟨dj_141, List.forall_mem_cons.mpr ⟨dj_142, List.forall_mem_cons.mpr ⟨dj_143, List.forall_mem_cons.mpr ⟨dj_144, List.forall_mem_cons.mpr ⟨dj_145, List.forall_mem_cons.mpr ⟨dj_146, List.forall_mem_cons.mpr ⟨dj_147, List.forall_mem_cons.mpr ⟨dj_148, List.forall_mem_cons.mpr ⟨dj_149, List.forall_mem_cons.mpr ⟨dj_150, List.forall_mem_cons.mpr ⟨dj_151, List.forall_mem_cons.mpr ⟨dj_152, List.forall_mem_cons.mpr ⟨dj_153, List.forall_mem_cons.mpr ⟨dj_154, List.forall_mem_cons.mpr ⟨dj_155, List.forall_mem_cons.mpr ⟨dj_156, List.forall_mem_cons.mpr ⟨dj_157, List.forall_mem_cons.mpr ⟨dj_158, List.forall_mem_cons.mpr ⟨dj_159, List.forall_mem_cons.mpr ⟨dj_160, List.forall_mem_cons.mpr ⟨dj_161, List.forall_mem_cons.mpr ⟨dj_162, List.forall_mem_cons.mpr ⟨dj_163, List.forall_mem_cons.mpr ⟨dj_164, List.forall_mem_cons.mpr ⟨dj_165, List.forall_mem_cons.mpr ⟨dj_166, List.forall_mem_cons.mpr ⟨dj_167, List.forall_mem_cons.mpr ⟨dj_168, List.forall_mem_cons.mpr ⟨dj_169, List.forall_mem_cons.mpr ⟨dj_170, List.forall_mem_cons.mpr ⟨dj_171, List.forall_mem_cons.mpr ⟨dj_172, List.forall_mem_cons.mpr ⟨dj_173, List.forall_mem_cons.mpr ⟨dj_174, List.forall_mem_cons.mpr ⟨dj_175, List.forall_mem_cons.mpr ⟨dj_176, List.forall_mem_cons.mpr ⟨dj_177, List.forall_mem_cons.mpr ⟨dj_178, List.forall_mem_cons.mpr ⟨dj_179, List.forall_mem_cons.mpr ⟨dj_180, List.forall_mem_cons.mpr ⟨dj_181, List.forall_mem_cons.mpr ⟨dj_182, List.forall_mem_cons.mpr ⟨dj_183, List.forall_mem_cons.mpr ⟨dj_184, List.forall_mem_cons.mpr ⟨dj_185, List.forall_mem_cons.mpr ⟨dj_186, List.forall_mem_cons.mpr ⟨dj_187, List.forall_mem_cons.mpr ⟨dj_188, List.forall_mem_cons.mpr ⟨dj_189, List.forall_mem_cons.mpr ⟨dj_190, List.forall_mem_cons.mpr ⟨dj_191, List.forall_mem_cons.mpr ⟨dj_192, List.forall_mem_cons.mpr ⟨dj_193, List.forall_mem_cons.mpr ⟨dj_194, List.forall_mem_cons.mpr ⟨dj_195, List.forall_mem_cons.mpr ⟨dj_196, List.forall_mem_cons.mpr ⟨dj_197, List.forall_mem_cons.mpr ⟨dj_198, List.forall_mem_cons.mpr ⟨dj_199, List.forall_mem_cons.mpr ⟨dj_200, List.forall_mem_cons.mpr ⟨dj_201, List.forall_mem_cons.mpr ⟨dj_202, List.forall_mem_cons.mpr ⟨dj_203, List.forall_mem_cons.mpr ⟨dj_204, List.forall_mem_cons.mpr ⟨dj_205, List.forall_mem_cons.mpr ⟨dj_206, List.forall_mem_cons.mpr ⟨dj_207, List.forall_mem_cons.mpr ⟨dj_208, List.forall_mem_cons.mpr ⟨dj_209, List.forall_mem_cons.mpr ⟨dj_210, List.forall_mem_cons.mpr ⟨dj_211, List.forall_mem_cons.mpr ⟨dj_212, List.forall_mem_cons.mpr ⟨dj_213, List.forall_mem_cons.mpr ⟨dj_214, List.forall_mem_cons.mpr ⟨dj_215, List.forall_mem_cons.mpr ⟨dj_216, List.forall_mem_cons.mpr ⟨dj_217, List.forall_mem_cons.mpr ⟨dj_218, List.forall_mem_cons.mpr ⟨dj_219, List.forall_mem_cons.mpr ⟨dj_220, List.forall_mem_cons.mpr ⟨dj_221, List.forall_mem_cons.mpr ⟨dj_222, List.forall_mem_cons.mpr ⟨dj_223, List.forall_mem_cons.mpr ⟨dj_224, List.forall_mem_cons.mpr ⟨dj_225, List.forall_mem_cons.mpr ⟨dj_226, List.forall_mem_cons.mpr ⟨dj_227, List.forall_mem_cons.mpr ⟨dj_228, List.forall_mem_cons.mpr ⟨dj_229, List.forall_mem_cons.mpr ⟨dj_230, List.forall_mem_cons.mpr ⟨dj_231, List.forall_mem_cons.mpr ⟨dj_232, List.forall_mem_cons.mpr ⟨dj_233, List.forall_mem_cons.mpr ⟨dj_234, List.forall_mem_cons.mpr ⟨dj_235, List.forall_mem_cons.mpr ⟨dj_236, List.forall_mem_cons.mpr ⟨dj_237, List.forall_mem_cons.mpr ⟨dj_238, List.forall_mem_cons.mpr ⟨dj_239, List.forall_mem_cons.mpr ⟨dj_240, List.forall_mem_cons.mpr ⟨dj_241, List.forall_mem_cons.mpr ⟨dj_242, List.forall_mem_cons.mpr ⟨dj_243, List.forall_mem_cons.mpr ⟨dj_244, List.forall_mem_cons.mpr ⟨dj_245, List.forall_mem_cons.mpr ⟨dj_246, List.forall_mem_cons.mpr ⟨dj_247, List.forall_mem_cons.mpr ⟨dj_248, List.forall_mem_cons.mpr ⟨dj_249, List.forall_mem_cons.mpr ⟨dj_250, List.forall_mem_cons.mpr ⟨dj_251, List.forall_mem_cons.mpr ⟨dj_252, List.forall_mem_cons.mpr ⟨dj_253, List.forall_mem_cons.mpr ⟨dj_254, List.forall_mem_cons.mpr ⟨dj_255, List.forall_mem_cons.mpr ⟨dj_256, List.forall_mem_cons.mpr ⟨dj_257, List.forall_mem_cons.mpr ⟨dj_258, List.forall_mem_cons.mpr ⟨dj_259, List.forall_mem_cons.mpr ⟨dj_260, List.forall_mem_cons.mpr ⟨dj_261, List.forall_mem_cons.mpr ⟨dj_262, List.forall_mem_cons.mpr ⟨dj_263, List.forall_mem_cons.mpr ⟨dj_264, List.forall_mem_cons.mpr ⟨dj_265, List.forall_mem_cons.mpr ⟨dj_266, List.forall_mem_cons.mpr ⟨dj_267, List.forall_mem_cons.mpr ⟨dj_268, List.forall_mem_cons.mpr ⟨dj_269, List.forall_mem_cons.mpr ⟨dj_270, List.forall_mem_cons.mpr ⟨dj_271, List.forall_mem_cons.mpr ⟨dj_272, List.forall_mem_cons.mpr ⟨dj_273, List.forall_mem_cons.mpr ⟨dj_274, List.forall_mem_cons.mpr ⟨dj_275, List.forall_mem_cons.mpr ⟨dj_276, List.forall_mem_cons.mpr ⟨dj_277, List.forall_mem_cons.mpr ⟨dj_278, List.forall_mem_cons.mpr ⟨dj_279, List.forall_mem_cons.mpr ⟨dj_280, List.forall_mem_cons.mpr ⟨dj_281, List.forall_mem_cons.mpr ⟨dj_282, List.forall_mem_cons.mpr ⟨dj_283, List.forall_mem_cons.mpr ⟨dj_284, List.forall_mem_cons.mpr ⟨dj_285, List.forall_mem_cons.mpr ⟨dj_286, List.forall_mem_cons.mpr ⟨dj_287, List.forall_mem_cons.mpr ⟨dj_288, List.forall_mem_cons.mpr ⟨dj_289, List.forall_mem_cons.mpr ⟨dj_290, List.forall_mem_cons.mpr ⟨dj_291, List.forall_mem_cons.mpr ⟨dj_292, List.forall_mem_cons.mpr ⟨dj_293, List.forall_mem_cons.mpr ⟨dj_294, List.forall_mem_cons.mpr ⟨dj_295, List.forall_mem_cons.mpr ⟨dj_296, List.forall_mem_cons.mpr ⟨dj_297, List.forall_mem_cons.mpr ⟨dj_298, List.forall_mem_cons.mpr ⟨dj_299, List.forall_mem_cons.mpr ⟨dj_300, List.forall_mem_cons.mpr ⟨dj_301, List.forall_mem_cons.mpr ⟨dj_302, fun _ h => absurd h List.not_mem_nil⟩⟩⟩⟩⟩⟩⟩⟩⟩⟩⟩⟩⟩⟩⟩⟩⟩⟩⟩⟩⟩⟩⟩⟩⟩⟩⟩⟩⟩⟩⟩⟩⟩⟩⟩⟩⟩⟩⟩⟩⟩⟩⟩⟩⟩⟩⟩⟩⟩⟩⟩⟩⟩⟩⟩⟩⟩⟩⟩⟩⟩⟩⟩⟩⟩⟩⟩⟩⟩⟩⟩⟩⟩⟩⟩⟩⟩⟩⟩⟩⟩⟩⟩⟩⟩⟩⟩⟩⟩⟩⟩⟩⟩⟩⟩⟩⟩⟩⟩⟩⟩⟩⟩⟩⟩⟩⟩⟩⟩⟩⟩⟩⟩⟩⟩⟩⟩⟩⟩⟩⟩⟩⟩⟩⟩⟩⟩⟩⟩⟩⟩⟩⟩⟩⟩⟩⟩⟩⟩⟩⟩⟩⟩⟩⟩⟩⟩⟩⟩⟩⟩⟩⟩⟩⟩⟩⟩⟩⟩⟩⟩⟩⟩⟩⟩⟩⟩⟩⟩⟩⟩⟩⟩⟩⟩⟩⟩⟩⟩⟩⟩⟩⟩⟩⟩⟩⟩⟩⟩⟩⟩⟩⟩⟩⟩⟩⟩⟩⟩⟩⟩⟩⟩⟩⟩⟩⟩⟩⟩⟩⟩⟩⟩⟩⟩⟩⟩⟩⟩⟩⟩⟩⟩⟩⟩⟩⟩⟩⟩⟩⟩⟩⟩⟩⟩⟩⟩⟩⟩⟩⟩⟩⟩⟩⟩⟩⟩⟩⟩⟩⟩⟩⟩⟩⟩⟩⟩⟩⟩⟩⟩⟩⟩⟩⟩⟩⟩⟩⟩⟩⟩⟩⟩⟩⟩⟩⟩⟩⟩⟩⟩⟩⟩⟩⟩⟩⟩⟩⟩⟩⟩⟩⟩⟩⟩⟩⟩⟩⟩⟩⟩⟩⟩
  exact fun mid hm => h mid (List.mem_range.mpr hm)
