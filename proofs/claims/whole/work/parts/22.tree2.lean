/-! ClosedRoomsModel.isLetter(I)Z -/
theorem f_172_0 : fnd 172 0 = some (0, .iload_n 0, 1, 0, 0, 0, 0) := ceB_eq (by decide +kernel)
theorem f_172_1 : fnd 172 1 = some (1, .bipush 97, 2, 0, 0, 0, 0) := ceB_eq (by decide +kernel)
theorem f_172_3 : fnd 172 3 = some (3, .if_icmp .lt 13, 3, 0, 0, 0, 0) := ceB_eq (by decide +kernel)
theorem f_172_6 : fnd 172 6 = some (6, .iload_n 0, 1, 0, 0, 0, 0) := ceB_eq (by decide +kernel)
theorem f_172_7 : fnd 172 7 = some (7, .bipush 122, 2, 0, 0, 0, 0) := ceB_eq (by decide +kernel)
theorem f_172_9 : fnd 172 9 = some (9, .if_icmp .gt 7, 3, 0, 0, 0, 0) := ceB_eq (by decide +kernel)
theorem f_172_12 : fnd 172 12 = some (12, .iconst 1, 1, 0, 0, 0, 0) := ceB_eq (by decide +kernel)
theorem f_172_13 : fnd 172 13 = some (13, .goto 4, 3, 0, 0, 0, 0) := ceB_eq (by decide +kernel)
theorem f_172_16 : fnd 172 16 = some (16, .iconst 0, 1, 0, 0, 0, 0) := ceB_eq (by decide +kernel)
theorem f_172_17 : fnd 172 17 = some (17, .ireturn, 1, 0, 0, 0, 0) := ceB_eq (by decide +kernel)
theorem rk_172 : rkm 172 = 1 := by decide +kernel
theorem ml_172 : (mth 172).2.1 = 1 := by decide +kernel
set_option maxRecDepth 100000 in
theorem T_Z_isLetter (x1 : Int) (σ : ST) (Q : Option AV → ST → Prop) (h :
  (((x1 < 97 : Prop) →
    ((0 : Int) = 0 ∨ (0 : Int) = 1) ∧ Q (some (.inl 0)) σ) ∧
  (¬ (x1 < 97) →
    (((122 < x1 : Prop) →
      ((0 : Int) = 0 ∨ (0 : Int) = 1) ∧ Q (some (.inl 0)) σ) ∧
    (¬ (122 < x1) →
      ((1 : Int) = 0 ∨ (1 : Int) = 1) ∧ Q (some (.inl 1)) σ))))) :
  wpM m_Z_isLetter [.inl x1] σ Q :=
 wpM_of ml_172 (L := [some (.inl x1)]) rfl
 (w_iload_n (p' := 1) f_172_0 rfl rfl
 (w_bipush (p' := 3) f_172_1 rfl
 (w_icmp (p' := 16) (q' := 6) f_172_3 rfl rfl
 (fun c102 => w_iconst (p' := 17) f_172_16 rfl
 (w_zret f_172_17 rk_172 (h.1 c102).1 (h.1 c102).2))
 (fun c102 => w_iload_n (p' := 7) f_172_6 rfl rfl
 (w_bipush (p' := 9) f_172_7 rfl
 (w_icmp (p' := 16) (q' := 12) f_172_9 rfl rfl
 (fun c101 => w_iconst (p' := 17) f_172_16 rfl
 (w_zret f_172_17 rk_172 ((h.2 c102).1 c101).1 ((h.2 c102).1 c101).2))
 (fun c101 => w_iconst (p' := 13) f_172_12 rfl
 (w_goto (p' := 17) f_172_13 rfl
 (w_zret f_172_17 rk_172 ((h.2 c102).2 c101).1 ((h.2 c102).2 c101).2)))))))))
/-! ClosedRoomsModel.isDigit(I)Z -/
theorem f_173_0 : fnd 173 0 = some (0, .iload_n 0, 1, 0, 0, 0, 0) := ceB_eq (by decide +kernel)
theorem f_173_1 : fnd 173 1 = some (1, .bipush 48, 2, 0, 0, 0, 0) := ceB_eq (by decide +kernel)
theorem f_173_3 : fnd 173 3 = some (3, .if_icmp .lt 13, 3, 0, 0, 0, 0) := ceB_eq (by decide +kernel)
theorem f_173_6 : fnd 173 6 = some (6, .iload_n 0, 1, 0, 0, 0, 0) := ceB_eq (by decide +kernel)
theorem f_173_7 : fnd 173 7 = some (7, .bipush 57, 2, 0, 0, 0, 0) := ceB_eq (by decide +kernel)
theorem f_173_9 : fnd 173 9 = some (9, .if_icmp .gt 7, 3, 0, 0, 0, 0) := ceB_eq (by decide +kernel)
theorem f_173_12 : fnd 173 12 = some (12, .iconst 1, 1, 0, 0, 0, 0) := ceB_eq (by decide +kernel)
theorem f_173_13 : fnd 173 13 = some (13, .goto 4, 3, 0, 0, 0, 0) := ceB_eq (by decide +kernel)
theorem f_173_16 : fnd 173 16 = some (16, .iconst 0, 1, 0, 0, 0, 0) := ceB_eq (by decide +kernel)
theorem f_173_17 : fnd 173 17 = some (17, .ireturn, 1, 0, 0, 0, 0) := ceB_eq (by decide +kernel)
theorem rk_173 : rkm 173 = 1 := by decide +kernel
theorem ml_173 : (mth 173).2.1 = 1 := by decide +kernel
set_option maxRecDepth 100000 in
theorem T_Z_isDigit (x1 : Int) (σ : ST) (Q : Option AV → ST → Prop) (h :
  (((x1 < 48 : Prop) →
    ((0 : Int) = 0 ∨ (0 : Int) = 1) ∧ Q (some (.inl 0)) σ) ∧
  (¬ (x1 < 48) →
    (((57 < x1 : Prop) →
      ((0 : Int) = 0 ∨ (0 : Int) = 1) ∧ Q (some (.inl 0)) σ) ∧
    (¬ (57 < x1) →
      ((1 : Int) = 0 ∨ (1 : Int) = 1) ∧ Q (some (.inl 1)) σ))))) :
  wpM m_Z_isDigit [.inl x1] σ Q :=
 wpM_of ml_173 (L := [some (.inl x1)]) rfl
 (w_iload_n (p' := 1) f_173_0 rfl rfl
 (w_bipush (p' := 3) f_173_1 rfl
 (w_icmp (p' := 16) (q' := 6) f_173_3 rfl rfl
 (fun c102 => w_iconst (p' := 17) f_173_16 rfl
 (w_zret f_173_17 rk_173 (h.1 c102).1 (h.1 c102).2))
 (fun c102 => w_iload_n (p' := 7) f_173_6 rfl rfl
 (w_bipush (p' := 9) f_173_7 rfl
 (w_icmp (p' := 16) (q' := 12) f_173_9 rfl rfl
 (fun c101 => w_iconst (p' := 17) f_173_16 rfl
 (w_zret f_173_17 rk_173 ((h.2 c102).1 c101).1 ((h.2 c102).1 c101).2))
 (fun c101 => w_iconst (p' := 13) f_173_12 rfl
 (w_goto (p' := 17) f_173_13 rfl
 (w_zret f_173_17 rk_173 ((h.2 c102).2 c101).1 ((h.2 c102).2 c101).2)))))))))
/-! java/lang/Math.min(II)I -/
theorem f_174_0 : fnd 174 0 = some (0, .iload_n 0, 1, 0, 0, 0, 0) := ceB_eq (by decide +kernel)
theorem f_174_1 : fnd 174 1 = some (1, .iload_n 1, 1, 0, 0, 0, 0) := ceB_eq (by decide +kernel)
theorem f_174_2 : fnd 174 2 = some (2, .if_icmp .gt 7, 3, 0, 0, 0, 0) := ceB_eq (by decide +kernel)
theorem f_174_5 : fnd 174 5 = some (5, .iload_n 0, 1, 0, 0, 0, 0) := ceB_eq (by decide +kernel)
theorem f_174_6 : fnd 174 6 = some (6, .goto 4, 3, 0, 0, 0, 0) := ceB_eq (by decide +kernel)
theorem f_174_9 : fnd 174 9 = some (9, .iload_n 1, 1, 0, 0, 0, 0) := ceB_eq (by decide +kernel)
theorem f_174_10 : fnd 174 10 = some (10, .ireturn, 1, 0, 0, 0, 0) := ceB_eq (by decide +kernel)
theorem rk_174 : rkm 174 = 0 := by decide +kernel
theorem ml_174 : (mth 174).2.1 = 2 := by decide +kernel
set_option maxRecDepth 100000 in
theorem T_JMath_min (x1 x2 : Int) (σ : ST) (Q : Option AV → ST → Prop) (h :
  (((x2 < x1 : Prop) →
    Q (some (.inl x2)) σ) ∧
  (¬ (x2 < x1) →
    Q (some (.inl x1)) σ))) :
  wpM m_JMath_min [.inl x1, .inl x2] σ Q :=
 wpM_of ml_174 (L := [some (.inl x1), some (.inl x2)]) rfl
 (w_iload_n (p' := 1) f_174_0 rfl rfl
 (w_iload_n (p' := 2) f_174_1 rfl rfl
 (w_icmp (p' := 9) (q' := 5) f_174_2 rfl rfl
 (fun c101 => w_iload_n (p' := 10) f_174_9 rfl rfl
 (w_iret f_174_10 rk_174 (h.1 c101)))
 (fun c101 => w_iload_n (p' := 6) f_174_5 rfl rfl
 (w_goto (p' := 10) f_174_6 rfl
 (w_iret f_174_10 rk_174 (h.2 c101)))))))
/-! ClosedRoomsModel.next()V -/
theorem f_175_0 : fnd 175 0 = some (0, .aload_n 0, 1, 0, 0, 0, 0) := ceB_eq (by decide +kernel)
theorem f_175_1 : fnd 175 1 = some (1, .invokevirtual 61, 3, 171, 1, 10, 0) := ceB_eq (by decide +kernel)
theorem f_175_4 : fnd 175 4 = some (4, .bipush 32, 2, 0, 0, 0, 0) := ceB_eq (by decide +kernel)
theorem f_175_6 : fnd 175 6 = some (6, .if_icmp .ne 16, 3, 0, 0, 0, 0) := ceB_eq (by decide +kernel)
theorem f_175_9 : fnd 175 9 = some (9, .aload_n 0, 1, 0, 0, 0, 0) := ceB_eq (by decide +kernel)
theorem f_175_10 : fnd 175 10 = some (10, .dup, 1, 0, 0, 0, 0) := ceB_eq (by decide +kernel)
theorem f_175_11 : fnd 175 11 = some (11, .getfield 58, 3, 10, 3, 3, 0) := ceB_eq (by decide +kernel)
theorem f_175_14 : fnd 175 14 = some (14, .iconst 1, 1, 0, 0, 0, 0) := ceB_eq (by decide +kernel)
theorem f_175_15 : fnd 175 15 = some (15, .iadd, 1, 0, 0, 0, 0) := ceB_eq (by decide +kernel)
theorem f_175_16 : fnd 175 16 = some (16, .putfield 58, 3, 10, 3, 3, 0) := ceB_eq (by decide +kernel)
theorem f_175_19 : fnd 175 19 = some (19, .goto (-19), 3, 0, 0, 0, 0) := ceB_eq (by decide +kernel)
theorem f_175_22 : fnd 175 22 = some (22, .aload_n 0, 1, 0, 0, 0, 0) := ceB_eq (by decide +kernel)
theorem f_175_23 : fnd 175 23 = some (23, .aload_n 0, 1, 0, 0, 0, 0) := ceB_eq (by decide +kernel)
theorem f_175_24 : fnd 175 24 = some (24, .getfield 58, 3, 10, 3, 3, 0) := ceB_eq (by decide +kernel)
theorem f_175_27 : fnd 175 27 = some (27, .putfield 65, 3, 10, 6, 6, 0) := ceB_eq (by decide +kernel)
theorem f_175_30 : fnd 175 30 = some (30, .aload_n 0, 1, 0, 0, 0, 0) := ceB_eq (by decide +kernel)
theorem f_175_31 : fnd 175 31 = some (31, .invokevirtual 61, 3, 171, 1, 10, 0) := ceB_eq (by decide +kernel)
theorem f_175_34 : fnd 175 34 = some (34, .istore_n 1, 1, 0, 0, 0, 0) := ceB_eq (by decide +kernel)
theorem f_175_35 : fnd 175 35 = some (35, .iload_n 1, 1, 0, 0, 0, 0) := ceB_eq (by decide +kernel)
theorem f_175_36 : fnd 175 36 = some (36, .iconst (-1), 1, 0, 0, 0, 0) := ceB_eq (by decide +kernel)
theorem f_175_37 : fnd 175 37 = some (37, .if_icmp .ne 11, 3, 0, 0, 0, 0) := ceB_eq (by decide +kernel)
theorem f_175_40 : fnd 175 40 = some (40, .aload_n 0, 1, 0, 0, 0, 0) := ceB_eq (by decide +kernel)
theorem f_175_41 : fnd 175 41 = some (41, .iconst 0, 1, 0, 0, 0, 0) := ceB_eq (by decide +kernel)
theorem f_175_42 : fnd 175 42 = some (42, .putfield 68, 3, 10, 5, 5, 0) := ceB_eq (by decide +kernel)
theorem f_175_45 : fnd 175 45 = some (45, .goto 182, 3, 0, 0, 0, 0) := ceB_eq (by decide +kernel)
theorem f_175_48 : fnd 175 48 = some (48, .iload_n 1, 1, 0, 0, 0, 0) := ceB_eq (by decide +kernel)
theorem f_175_49 : fnd 175 49 = some (49, .invokestatic 71, 3, 172, 1, 10, 0) := ceB_eq (by decide +kernel)
theorem f_175_52 : fnd 175 52 = some (52, .ifCond .eq 76, 3, 0, 0, 0, 0) := ceB_eq (by decide +kernel)
theorem f_175_55 : fnd 175 55 = some (55, .aload_n 0, 1, 0, 0, 0, 0) := ceB_eq (by decide +kernel)
theorem f_175_56 : fnd 175 56 = some (56, .iconst 1, 1, 0, 0, 0, 0) := ceB_eq (by decide +kernel)
theorem f_175_57 : fnd 175 57 = some (57, .putfield 68, 3, 10, 5, 5, 0) := ceB_eq (by decide +kernel)
theorem f_175_60 : fnd 175 60 = some (60, .aload_n 0, 1, 0, 0, 0, 0) := ceB_eq (by decide +kernel)
theorem f_175_61 : fnd 175 61 = some (61, .lconst 0, 1, 0, 0, 0, 0) := ceB_eq (by decide +kernel)
theorem f_175_62 : fnd 175 62 = some (62, .putfield 75, 3, 10, 8, 8, 0) := ceB_eq (by decide +kernel)
theorem f_175_65 : fnd 175 65 = some (65, .iconst 0, 1, 0, 0, 0, 0) := ceB_eq (by decide +kernel)
theorem f_175_66 : fnd 175 66 = some (66, .istore_n 2, 1, 0, 0, 0, 0) := ceB_eq (by decide +kernel)
theorem f_175_67 : fnd 175 67 = some (67, .aload_n 0, 1, 0, 0, 0, 0) := ceB_eq (by decide +kernel)
theorem f_175_68 : fnd 175 68 = some (68, .invokevirtual 61, 3, 171, 1, 10, 0) := ceB_eq (by decide +kernel)
theorem f_175_71 : fnd 175 71 = some (71, .invokestatic 71, 3, 172, 1, 10, 0) := ceB_eq (by decide +kernel)
theorem f_175_74 : fnd 175 74 = some (74, .ifCond .eq 51, 3, 0, 0, 0, 0) := ceB_eq (by decide +kernel)
theorem f_175_77 : fnd 175 77 = some (77, .aload_n 0, 1, 0, 0, 0, 0) := ceB_eq (by decide +kernel)
theorem f_175_78 : fnd 175 78 = some (78, .iload_n 2, 1, 0, 0, 0, 0) := ceB_eq (by decide +kernel)
theorem f_175_79 : fnd 175 79 = some (79, .bipush 7, 2, 0, 0, 0, 0) := ceB_eq (by decide +kernel)
theorem f_175_81 : fnd 175 81 = some (81, .if_icmp .ge 24, 3, 0, 0, 0, 0) := ceB_eq (by decide +kernel)
theorem f_175_84 : fnd 175 84 = some (84, .ldc2_w 79, 3, 0, 0, 0, 32) := ceB_eq (by decide +kernel)
theorem f_175_87 : fnd 175 87 = some (87, .aload_n 0, 1, 0, 0, 0, 0) := ceB_eq (by decide +kernel)
theorem f_175_88 : fnd 175 88 = some (88, .getfield 75, 3, 10, 8, 8, 0) := ceB_eq (by decide +kernel)
theorem f_175_91 : fnd 175 91 = some (91, .lmul, 1, 0, 0, 0, 0) := ceB_eq (by decide +kernel)
theorem f_175_92 : fnd 175 92 = some (92, .aload_n 0, 1, 0, 0, 0, 0) := ceB_eq (by decide +kernel)
theorem f_175_93 : fnd 175 93 = some (93, .invokevirtual 61, 3, 171, 1, 10, 0) := ceB_eq (by decide +kernel)
theorem f_175_96 : fnd 175 96 = some (96, .i2l, 1, 0, 0, 0, 0) := ceB_eq (by decide +kernel)
theorem f_175_97 : fnd 175 97 = some (97, .ladd, 1, 0, 0, 0, 0) := ceB_eq (by decide +kernel)
theorem f_175_98 : fnd 175 98 = some (98, .ldc2_w 81, 3, 0, 0, 0, 96) := ceB_eq (by decide +kernel)
theorem f_175_101 : fnd 175 101 = some (101, .lsub, 1, 0, 0, 0, 0) := ceB_eq (by decide +kernel)
theorem f_175_102 : fnd 175 102 = some (102, .goto 4, 3, 0, 0, 0, 0) := ceB_eq (by decide +kernel)
theorem f_175_105 : fnd 175 105 = some (105, .lconst 0, 1, 0, 0, 0, 0) := ceB_eq (by decide +kernel)
theorem f_175_106 : fnd 175 106 = some (106, .putfield 75, 3, 10, 8, 8, 0) := ceB_eq (by decide +kernel)
theorem f_175_109 : fnd 175 109 = some (109, .aload_n 0, 1, 0, 0, 0, 0) := ceB_eq (by decide +kernel)
theorem f_175_110 : fnd 175 110 = some (110, .dup, 1, 0, 0, 0, 0) := ceB_eq (by decide +kernel)
theorem f_175_111 : fnd 175 111 = some (111, .getfield 58, 3, 10, 3, 3, 0) := ceB_eq (by decide +kernel)
theorem f_175_114 : fnd 175 114 = some (114, .iconst 1, 1, 0, 0, 0, 0) := ceB_eq (by decide +kernel)
theorem f_175_115 : fnd 175 115 = some (115, .iadd, 1, 0, 0, 0, 0) := ceB_eq (by decide +kernel)
theorem f_175_116 : fnd 175 116 = some (116, .putfield 58, 3, 10, 3, 3, 0) := ceB_eq (by decide +kernel)
theorem f_175_119 : fnd 175 119 = some (119, .iinc 2 1, 3, 0, 0, 0, 0) := ceB_eq (by decide +kernel)
theorem f_175_122 : fnd 175 122 = some (122, .goto (-55), 3, 0, 0, 0, 0) := ceB_eq (by decide +kernel)
theorem f_175_125 : fnd 175 125 = some (125, .goto 102, 3, 0, 0, 0, 0) := ceB_eq (by decide +kernel)
theorem f_175_128 : fnd 175 128 = some (128, .iload_n 1, 1, 0, 0, 0, 0) := ceB_eq (by decide +kernel)
theorem f_175_129 : fnd 175 129 = some (129, .invokestatic 83, 3, 173, 1, 10, 0) := ceB_eq (by decide +kernel)
theorem f_175_132 : fnd 175 132 = some (132, .ifCond .eq 60, 3, 0, 0, 0, 0) := ceB_eq (by decide +kernel)
theorem f_175_135 : fnd 175 135 = some (135, .aload_n 0, 1, 0, 0, 0, 0) := ceB_eq (by decide +kernel)
theorem f_175_136 : fnd 175 136 = some (136, .iconst 2, 1, 0, 0, 0, 0) := ceB_eq (by decide +kernel)
theorem f_175_137 : fnd 175 137 = some (137, .putfield 68, 3, 10, 5, 5, 0) := ceB_eq (by decide +kernel)
theorem f_175_140 : fnd 175 140 = some (140, .aload_n 0, 1, 0, 0, 0, 0) := ceB_eq (by decide +kernel)
theorem f_175_141 : fnd 175 141 = some (141, .iconst 0, 1, 0, 0, 0, 0) := ceB_eq (by decide +kernel)
theorem f_175_142 : fnd 175 142 = some (142, .putfield 86, 3, 10, 7, 7, 0) := ceB_eq (by decide +kernel)
theorem f_175_145 : fnd 175 145 = some (145, .aload_n 0, 1, 0, 0, 0, 0) := ceB_eq (by decide +kernel)
theorem f_175_146 : fnd 175 146 = some (146, .invokevirtual 61, 3, 171, 1, 10, 0) := ceB_eq (by decide +kernel)
theorem f_175_149 : fnd 175 149 = some (149, .invokestatic 83, 3, 173, 1, 10, 0) := ceB_eq (by decide +kernel)
theorem f_175_152 : fnd 175 152 = some (152, .ifCond .eq 75, 3, 0, 0, 0, 0) := ceB_eq (by decide +kernel)
theorem f_175_155 : fnd 175 155 = some (155, .aload_n 0, 1, 0, 0, 0, 0) := ceB_eq (by decide +kernel)
theorem f_175_156 : fnd 175 156 = some (156, .ldc 89, 2, 0, 0, 0, 100000) := ceB_eq (by decide +kernel)
theorem f_175_158 : fnd 175 158 = some (158, .bipush 10, 2, 0, 0, 0, 0) := ceB_eq (by decide +kernel)
theorem f_175_160 : fnd 175 160 = some (160, .aload_n 0, 1, 0, 0, 0, 0) := ceB_eq (by decide +kernel)
theorem f_175_161 : fnd 175 161 = some (161, .getfield 86, 3, 10, 7, 7, 0) := ceB_eq (by decide +kernel)
theorem f_175_164 : fnd 175 164 = some (164, .imul, 1, 0, 0, 0, 0) := ceB_eq (by decide +kernel)
theorem f_175_165 : fnd 175 165 = some (165, .aload_n 0, 1, 0, 0, 0, 0) := ceB_eq (by decide +kernel)
theorem f_175_166 : fnd 175 166 = some (166, .invokevirtual 61, 3, 171, 1, 10, 0) := ceB_eq (by decide +kernel)
theorem f_175_169 : fnd 175 169 = some (169, .iadd, 1, 0, 0, 0, 0) := ceB_eq (by decide +kernel)
theorem f_175_170 : fnd 175 170 = some (170, .bipush 48, 2, 0, 0, 0, 0) := ceB_eq (by decide +kernel)
theorem f_175_172 : fnd 175 172 = some (172, .isub, 1, 0, 0, 0, 0) := ceB_eq (by decide +kernel)
theorem f_175_173 : fnd 175 173 = some (173, .invokestatic 90, 3, 174, 2, 11, 0) := ceB_eq (by decide +kernel)
theorem f_175_176 : fnd 175 176 = some (176, .putfield 86, 3, 10, 7, 7, 0) := ceB_eq (by decide +kernel)
theorem f_175_179 : fnd 175 179 = some (179, .aload_n 0, 1, 0, 0, 0, 0) := ceB_eq (by decide +kernel)
theorem f_175_180 : fnd 175 180 = some (180, .dup, 1, 0, 0, 0, 0) := ceB_eq (by decide +kernel)
theorem f_175_181 : fnd 175 181 = some (181, .getfield 58, 3, 10, 3, 3, 0) := ceB_eq (by decide +kernel)
theorem f_175_184 : fnd 175 184 = some (184, .iconst 1, 1, 0, 0, 0, 0) := ceB_eq (by decide +kernel)
theorem f_175_185 : fnd 175 185 = some (185, .iadd, 1, 0, 0, 0, 0) := ceB_eq (by decide +kernel)
theorem f_175_186 : fnd 175 186 = some (186, .putfield 58, 3, 10, 3, 3, 0) := ceB_eq (by decide +kernel)
theorem f_175_189 : fnd 175 189 = some (189, .goto (-44), 3, 0, 0, 0, 0) := ceB_eq (by decide +kernel)
theorem f_175_192 : fnd 175 192 = some (192, .aload_n 0, 1, 0, 0, 0, 0) := ceB_eq (by decide +kernel)
theorem f_175_193 : fnd 175 193 = some (193, .dup, 1, 0, 0, 0, 0) := ceB_eq (by decide +kernel)
theorem f_175_194 : fnd 175 194 = some (194, .getfield 58, 3, 10, 3, 3, 0) := ceB_eq (by decide +kernel)
theorem f_175_197 : fnd 175 197 = some (197, .iconst 1, 1, 0, 0, 0, 0) := ceB_eq (by decide +kernel)
theorem f_175_198 : fnd 175 198 = some (198, .iadd, 1, 0, 0, 0, 0) := ceB_eq (by decide +kernel)
theorem f_175_199 : fnd 175 199 = some (199, .putfield 58, 3, 10, 3, 3, 0) := ceB_eq (by decide +kernel)
theorem f_175_202 : fnd 175 202 = some (202, .aload_n 0, 1, 0, 0, 0, 0) := ceB_eq (by decide +kernel)
theorem f_175_203 : fnd 175 203 = some (203, .iload_n 1, 1, 0, 0, 0, 0) := ceB_eq (by decide +kernel)
theorem f_175_204 : fnd 175 204 = some (204, .bipush 59, 2, 0, 0, 0, 0) := ceB_eq (by decide +kernel)
theorem f_175_206 : fnd 175 206 = some (206, .if_icmp .ne 7, 3, 0, 0, 0, 0) := ceB_eq (by decide +kernel)
theorem f_175_209 : fnd 175 209 = some (209, .iconst 3, 1, 0, 0, 0, 0) := ceB_eq (by decide +kernel)
theorem f_175_210 : fnd 175 210 = some (210, .goto 14, 3, 0, 0, 0, 0) := ceB_eq (by decide +kernel)
theorem f_175_213 : fnd 175 213 = some (213, .iload_n 1, 1, 0, 0, 0, 0) := ceB_eq (by decide +kernel)
theorem f_175_214 : fnd 175 214 = some (214, .bipush 44, 2, 0, 0, 0, 0) := ceB_eq (by decide +kernel)
theorem f_175_216 : fnd 175 216 = some (216, .if_icmp .ne 7, 3, 0, 0, 0, 0) := ceB_eq (by decide +kernel)
theorem f_175_219 : fnd 175 219 = some (219, .iconst 4, 1, 0, 0, 0, 0) := ceB_eq (by decide +kernel)
theorem f_175_220 : fnd 175 220 = some (220, .goto 4, 3, 0, 0, 0, 0) := ceB_eq (by decide +kernel)
theorem f_175_223 : fnd 175 223 = some (223, .iconst 5, 1, 0, 0, 0, 0) := ceB_eq (by decide +kernel)
theorem f_175_224 : fnd 175 224 = some (224, .putfield 68, 3, 10, 5, 5, 0) := ceB_eq (by decide +kernel)
theorem f_175_227 : fnd 175 227 = some (227, .return_, 1, 0, 0, 0, 0) := ceB_eq (by decide +kernel)
theorem rk_175 : rkm 175 = 4 := by decide +kernel
theorem ml_175 : (mth 175).2.1 = 3 := by decide +kernel
set_option maxRecDepth 100000 in
theorem T_Z_next (k0 i0 : Int) (σ : ST) (Q : Option AV → ST → Prop) (h :
  wpM m_Z_here [.inr (.inr (40, k0, i0))] σ (asI fun r101 s101 =>
  (((r101 ≠ 32 : Prop) →
    wpM m_Z_here [.inr (.inr (40, k0, i0))] (up s101 40 k0 i0 6 (s101 40 k0 i0 3)) (asI fun r102 s102 =>
    (((r102 ≠ (-1) : Prop) →
      wpM m_Z_isLetter [.inl r102] s102 (asI fun r103 s103 =>
      (((r103 = 0 : Prop) →
        wpM m_Z_isDigit [.inl r102] s103 (asI fun r104 s104 =>
        (((r104 = 0 : Prop) →
          (((r102 ≠ 59 : Prop) →
            (((r102 ≠ 44 : Prop) →
              Q none (up (up s104 40 k0 i0 3 (wr ((s104 40 k0 i0 3) + 1))) 40 k0 i0 5 5)) ∧
            (¬ (r102 ≠ 44) →
              Q none (up (up s104 40 k0 i0 3 (wr ((s104 40 k0 i0 3) + 1))) 40 k0 i0 5 4)))) ∧
          (¬ (r102 ≠ 59) →
            Q none (up (up s104 40 k0 i0 3 (wr ((s104 40 k0 i0 3) + 1))) 40 k0 i0 5 3)))) ∧
        (¬ (r104 = 0) →
          wp m_Z_next (145, [some (.inr (.inr (40, k0, i0))), some (.inl r102), none], [], (up (up s104 40 k0 i0 5 2) 40 k0 i0 7 0)) Q)))) ∧
      (¬ (r103 = 0) →
        wp m_Z_next (67, [some (.inr (.inr (40, k0, i0))), some (.inl r102), some (.inl 0)], [], (up (up s103 40 k0 i0 5 1) 40 k0 i0 8 0)) Q)))) ∧
    (¬ (r102 ≠ (-1)) →
      Q none (up s102 40 k0 i0 5 0))))) ∧
  (¬ (r101 ≠ 32) →
    wp m_Z_next (0, [some (.inr (.inr (40, k0, i0))), none, none], [], (up s101 40 k0 i0 3 (wr ((s101 40 k0 i0 3) + 1)))) Q)))) :
  wpM m_Z_next [.inr (.inr (40, k0, i0))] σ Q :=
 wpM_of ml_175 (L := [some (.inr (.inr (40, k0, i0))), none, none]) rfl
 (w_aload_n (p' := 1) f_175_0 rfl rfl
 (w_callV (p' := 4) f_175_1 rfl rfl rfl rfl rfl (r := []) rfl rfl (kI (.inl rk_171) fun r101 s101 h101 =>
 w_bipush (p' := 6) f_175_4 rfl
 (w_icmp (p' := 22) (q' := 9) f_175_6 rfl rfl
 (fun c110 => w_aload_n (p' := 23) f_175_22 rfl rfl
 (w_aload_n (p' := 24) f_175_23 rfl rfl
 (w_getfield (p' := 27) f_175_24 rfl (x := .inl (s101 40 k0 i0 3)) rfl rfl
 (w_putI (p' := 30) f_175_27 rfl rfl (c' := 6) rfl rfl
 (w_aload_n (p' := 31) f_175_30 rfl rfl
 (w_callV (p' := 34) f_175_31 rfl rfl rfl rfl rfl (r := []) rfl rfl (kI (.inl rk_171) fun r102 s102 h102 =>
 w_istore_n (p' := 35) f_175_34 (L' := [some (.inr (.inr (40, k0, i0))), some (.inl r102), none]) rfl rfl
 (w_iload_n (p' := 36) f_175_35 rfl rfl
 (w_iconst (p' := 37) f_175_36 rfl
 (w_icmp (p' := 48) (q' := 40) f_175_37 rfl rfl
 (fun c109 => w_iload_n (p' := 49) f_175_48 rfl rfl
 (w_callS (p' := 52) f_175_49 rfl rfl rfl (r := []) rfl rfl (kI (.inr rk_172) fun r103 s103 h103 =>
 w_if (p' := 128) (q' := 55) f_175_52 rfl rfl
 (fun c108 => w_iload_n (p' := 129) f_175_128 rfl rfl
 (w_callS (p' := 132) f_175_129 rfl rfl rfl (r := []) rfl rfl (kI (.inr rk_173) fun r104 s104 h104 =>
 w_if (p' := 192) (q' := 135) f_175_132 rfl rfl
 (fun c107 => w_aload_n (p' := 193) f_175_192 rfl rfl
 (w_dupR (p' := 194) f_175_193 rfl
 (w_getfield (p' := 197) f_175_194 rfl (x := .inl (s104 40 k0 i0 3)) rfl rfl
 (w_iconst (p' := 198) f_175_197 rfl
 (w_iadd (p' := 199) f_175_198 rfl
 (w_putI (p' := 202) f_175_199 rfl rfl (c' := 3) rfl rfl
 (w_aload_n (p' := 203) f_175_202 rfl rfl
 (w_iload_n (p' := 204) f_175_203 rfl rfl
 (w_bipush (p' := 206) f_175_204 rfl
 (w_icmp (p' := 213) (q' := 209) f_175_206 rfl rfl
 (fun c106 => w_iload_n (p' := 214) f_175_213 rfl rfl
 (w_bipush (p' := 216) f_175_214 rfl
 (w_icmp (p' := 223) (q' := 219) f_175_216 rfl rfl
 (fun c105 => w_iconst (p' := 224) f_175_223 rfl
 (w_putI (p' := 227) f_175_224 rfl rfl (c' := 5) rfl rfl
 (w_vret f_175_227 rk_175 (((h104.1 c107).1 c106).1 c105))))
 (fun c105 => w_iconst (p' := 220) f_175_219 rfl
 (w_goto (p' := 224) f_175_220 rfl
 (w_putI (p' := 227) f_175_224 rfl rfl (c' := 5) rfl rfl
 (w_vret f_175_227 rk_175 (((h104.1 c107).1 c106).2 c105))))))))
 (fun c106 => w_iconst (p' := 210) f_175_209 rfl
 (w_goto (p' := 224) f_175_210 rfl
 (w_putI (p' := 227) f_175_224 rfl rfl (c' := 5) rfl rfl
 (w_vret f_175_227 rk_175 ((h104.1 c107).2 c106)))))))))))))))
 (fun c107 => w_aload_n (p' := 136) f_175_135 rfl rfl
 (w_iconst (p' := 137) f_175_136 rfl
 (w_putI (p' := 140) f_175_137 rfl rfl (c' := 5) rfl rfl
 (w_aload_n (p' := 141) f_175_140 rfl rfl
 (w_iconst (p' := 142) f_175_141 rfl
 (w_putI (p' := 145) f_175_142 rfl rfl (c' := 7) rfl rfl
 ((h104.2 c107))))))))) (h103.1 c108)))
 (fun c108 => w_aload_n (p' := 56) f_175_55 rfl rfl
 (w_iconst (p' := 57) f_175_56 rfl
 (w_putI (p' := 60) f_175_57 rfl rfl (c' := 5) rfl rfl
 (w_aload_n (p' := 61) f_175_60 rfl rfl
 (w_lconst (p' := 62) (x := 0) rfl f_175_61 rfl
 (w_putJ (p' := 65) f_175_62 rfl rfl (c' := 8) rfl rfl
 (w_iconst (p' := 66) f_175_65 rfl
 (w_istore_n (p' := 67) f_175_66 (L' := [some (.inr (.inr (40, k0, i0))), some (.inl r102), some (.inl 0)]) rfl rfl
 ((h103.2 c108))))))))))) (h102.1 c109)))
 (fun c109 => w_aload_n (p' := 41) f_175_40 rfl rfl
 (w_iconst (p' := 42) f_175_41 rfl
 (w_putI (p' := 45) f_175_42 rfl rfl (c' := 5) rfl rfl
 (w_goto (p' := 227) f_175_45 rfl
 (w_vret f_175_227 rk_175 (h102.2 c109)))))))))) (h101.1 c110)))))))
 (fun c110 => w_aload_n (p' := 10) f_175_9 rfl rfl
 (w_dupR (p' := 11) f_175_10 rfl
 (w_getfield (p' := 14) f_175_11 rfl (x := .inl (s101 40 k0 i0 3)) rfl rfl
 (w_iconst (p' := 15) f_175_14 rfl
 (w_iadd (p' := 16) f_175_15 rfl
 (w_putI (p' := 19) f_175_16 rfl rfl (c' := 3) rfl rfl
 (w_goto (p' := 0) f_175_19 rfl
 ((h101.2 c110))))))))))) h))
set_option maxRecDepth 100000 in
theorem T_Z_next_0 (k0 i0 : Int) (o1 o2 : Option AV) (σ : ST) (Q : Option AV → ST → Prop) (h :
  wpM m_Z_here [.inr (.inr (40, k0, i0))] σ (asI fun r101 s101 =>
  (((r101 ≠ 32 : Prop) →
    wpM m_Z_here [.inr (.inr (40, k0, i0))] (up s101 40 k0 i0 6 (s101 40 k0 i0 3)) (asI fun r102 s102 =>
    (((r102 ≠ (-1) : Prop) →
      wpM m_Z_isLetter [.inl r102] s102 (asI fun r103 s103 =>
      (((r103 = 0 : Prop) →
        wpM m_Z_isDigit [.inl r102] s103 (asI fun r104 s104 =>
        (((r104 = 0 : Prop) →
          (((r102 ≠ 59 : Prop) →
            (((r102 ≠ 44 : Prop) →
              Q none (up (up s104 40 k0 i0 3 (wr ((s104 40 k0 i0 3) + 1))) 40 k0 i0 5 5)) ∧
            (¬ (r102 ≠ 44) →
              Q none (up (up s104 40 k0 i0 3 (wr ((s104 40 k0 i0 3) + 1))) 40 k0 i0 5 4)))) ∧
          (¬ (r102 ≠ 59) →
            Q none (up (up s104 40 k0 i0 3 (wr ((s104 40 k0 i0 3) + 1))) 40 k0 i0 5 3)))) ∧
        (¬ (r104 = 0) →
          wp m_Z_next (145, [some (.inr (.inr (40, k0, i0))), some (.inl r102), o2], [], (up (up s104 40 k0 i0 5 2) 40 k0 i0 7 0)) Q)))) ∧
      (¬ (r103 = 0) →
        wp m_Z_next (67, [some (.inr (.inr (40, k0, i0))), some (.inl r102), some (.inl 0)], [], (up (up s103 40 k0 i0 5 1) 40 k0 i0 8 0)) Q)))) ∧
    (¬ (r102 ≠ (-1)) →
      Q none (up s102 40 k0 i0 5 0))))) ∧
  (¬ (r101 ≠ 32) →
    wp m_Z_next (0, [some (.inr (.inr (40, k0, i0))), o1, o2], [], (up s101 40 k0 i0 3 (wr ((s101 40 k0 i0 3) + 1)))) Q)))) :
  wp m_Z_next (0, [some (.inr (.inr (40, k0, i0))), o1, o2], [], σ) Q :=
 w_aload_n (p' := 1) f_175_0 rfl rfl
 (w_callV (p' := 4) f_175_1 rfl rfl rfl rfl rfl (r := []) rfl rfl (kI (.inl rk_171) fun r101 s101 h101 =>
 w_bipush (p' := 6) f_175_4 rfl
 (w_icmp (p' := 22) (q' := 9) f_175_6 rfl rfl
 (fun c110 => w_aload_n (p' := 23) f_175_22 rfl rfl
 (w_aload_n (p' := 24) f_175_23 rfl rfl
 (w_getfield (p' := 27) f_175_24 rfl (x := .inl (s101 40 k0 i0 3)) rfl rfl
 (w_putI (p' := 30) f_175_27 rfl rfl (c' := 6) rfl rfl
 (w_aload_n (p' := 31) f_175_30 rfl rfl
 (w_callV (p' := 34) f_175_31 rfl rfl rfl rfl rfl (r := []) rfl rfl (kI (.inl rk_171) fun r102 s102 h102 =>
 w_istore_n (p' := 35) f_175_34 (L' := [some (.inr (.inr (40, k0, i0))), some (.inl r102), o2]) rfl rfl
 (w_iload_n (p' := 36) f_175_35 rfl rfl
 (w_iconst (p' := 37) f_175_36 rfl
 (w_icmp (p' := 48) (q' := 40) f_175_37 rfl rfl
 (fun c109 => w_iload_n (p' := 49) f_175_48 rfl rfl
 (w_callS (p' := 52) f_175_49 rfl rfl rfl (r := []) rfl rfl (kI (.inr rk_172) fun r103 s103 h103 =>
 w_if (p' := 128) (q' := 55) f_175_52 rfl rfl
 (fun c108 => w_iload_n (p' := 129) f_175_128 rfl rfl
 (w_callS (p' := 132) f_175_129 rfl rfl rfl (r := []) rfl rfl (kI (.inr rk_173) fun r104 s104 h104 =>
 w_if (p' := 192) (q' := 135) f_175_132 rfl rfl
 (fun c107 => w_aload_n (p' := 193) f_175_192 rfl rfl
 (w_dupR (p' := 194) f_175_193 rfl
 (w_getfield (p' := 197) f_175_194 rfl (x := .inl (s104 40 k0 i0 3)) rfl rfl
 (w_iconst (p' := 198) f_175_197 rfl
 (w_iadd (p' := 199) f_175_198 rfl
 (w_putI (p' := 202) f_175_199 rfl rfl (c' := 3) rfl rfl
 (w_aload_n (p' := 203) f_175_202 rfl rfl
 (w_iload_n (p' := 204) f_175_203 rfl rfl
 (w_bipush (p' := 206) f_175_204 rfl
 (w_icmp (p' := 213) (q' := 209) f_175_206 rfl rfl
 (fun c106 => w_iload_n (p' := 214) f_175_213 rfl rfl
 (w_bipush (p' := 216) f_175_214 rfl
 (w_icmp (p' := 223) (q' := 219) f_175_216 rfl rfl
 (fun c105 => w_iconst (p' := 224) f_175_223 rfl
 (w_putI (p' := 227) f_175_224 rfl rfl (c' := 5) rfl rfl
 (w_vret f_175_227 rk_175 (((h104.1 c107).1 c106).1 c105))))
 (fun c105 => w_iconst (p' := 220) f_175_219 rfl
 (w_goto (p' := 224) f_175_220 rfl
 (w_putI (p' := 227) f_175_224 rfl rfl (c' := 5) rfl rfl
 (w_vret f_175_227 rk_175 (((h104.1 c107).1 c106).2 c105))))))))
 (fun c106 => w_iconst (p' := 210) f_175_209 rfl
 (w_goto (p' := 224) f_175_210 rfl
 (w_putI (p' := 227) f_175_224 rfl rfl (c' := 5) rfl rfl
 (w_vret f_175_227 rk_175 ((h104.1 c107).2 c106)))))))))))))))
 (fun c107 => w_aload_n (p' := 136) f_175_135 rfl rfl
 (w_iconst (p' := 137) f_175_136 rfl
 (w_putI (p' := 140) f_175_137 rfl rfl (c' := 5) rfl rfl
 (w_aload_n (p' := 141) f_175_140 rfl rfl
 (w_iconst (p' := 142) f_175_141 rfl
 (w_putI (p' := 145) f_175_142 rfl rfl (c' := 7) rfl rfl
 ((h104.2 c107))))))))) (h103.1 c108)))
 (fun c108 => w_aload_n (p' := 56) f_175_55 rfl rfl
 (w_iconst (p' := 57) f_175_56 rfl
 (w_putI (p' := 60) f_175_57 rfl rfl (c' := 5) rfl rfl
 (w_aload_n (p' := 61) f_175_60 rfl rfl
 (w_lconst (p' := 62) (x := 0) rfl f_175_61 rfl
 (w_putJ (p' := 65) f_175_62 rfl rfl (c' := 8) rfl rfl
 (w_iconst (p' := 66) f_175_65 rfl
 (w_istore_n (p' := 67) f_175_66 (L' := [some (.inr (.inr (40, k0, i0))), some (.inl r102), some (.inl 0)]) rfl rfl
 ((h103.2 c108))))))))))) (h102.1 c109)))
 (fun c109 => w_aload_n (p' := 41) f_175_40 rfl rfl
 (w_iconst (p' := 42) f_175_41 rfl
 (w_putI (p' := 45) f_175_42 rfl rfl (c' := 5) rfl rfl
 (w_goto (p' := 227) f_175_45 rfl
 (w_vret f_175_227 rk_175 (h102.2 c109)))))))))) (h101.1 c110)))))))
 (fun c110 => w_aload_n (p' := 10) f_175_9 rfl rfl
 (w_dupR (p' := 11) f_175_10 rfl
 (w_getfield (p' := 14) f_175_11 rfl (x := .inl (s101 40 k0 i0 3)) rfl rfl
 (w_iconst (p' := 15) f_175_14 rfl
 (w_iadd (p' := 16) f_175_15 rfl
 (w_putI (p' := 19) f_175_16 rfl rfl (c' := 3) rfl rfl
 (w_goto (p' := 0) f_175_19 rfl
 ((h101.2 c110))))))))))) h)
set_option maxRecDepth 100000 in
theorem T_Z_next_67 (k0 i0 x2 : Int) (o1 : Option AV) (σ : ST) (Q : Option AV → ST → Prop) (h :
  wpM m_Z_here [.inr (.inr (40, k0, i0))] σ (asI fun r101 s101 =>
  wpM m_Z_isLetter [.inl r101] s101 (asI fun r102 s102 =>
  (((r102 = 0 : Prop) →
    Q none s102) ∧
  (¬ (r102 = 0) →
    (((7 ≤ x2 : Prop) →
      wp m_Z_next (106, [some (.inr (.inr (40, k0, i0))), o1, some (.inl x2)], [.inr (.inl 0), .inr (.inr (40, k0, i0))], s102) Q) ∧
    (¬ (7 ≤ x2) →
      wpM m_Z_here [.inr (.inr (40, k0, i0))] s102 (asI fun r103 s103 =>
      wp m_Z_next (106, [some (.inr (.inr (40, k0, i0))), o1, some (.inl x2)], [.inr (.inl (wl ((wl ((wl (32 * (s102 40 k0 i0 8))) + r103)) - 96))), .inr (.inr (40, k0, i0))], s103) Q)))))))) :
  wp m_Z_next (67, [some (.inr (.inr (40, k0, i0))), o1, some (.inl x2)], [], σ) Q :=
 w_aload_n (p' := 68) f_175_67 rfl rfl
 (w_callV (p' := 71) f_175_68 rfl rfl rfl rfl rfl (r := []) rfl rfl (kI (.inl rk_171) fun r101 s101 h101 =>
 w_callS (p' := 74) f_175_71 rfl rfl rfl (r := []) rfl rfl (kI (.inr rk_172) fun r102 s102 h102 =>
 w_if (p' := 125) (q' := 77) f_175_74 rfl rfl
 (fun c105 => w_goto (p' := 227) f_175_125 rfl
 (w_vret f_175_227 rk_175 (h102.1 c105)))
 (fun c105 => w_aload_n (p' := 78) f_175_77 rfl rfl
 (w_iload_n (p' := 79) f_175_78 rfl rfl
 (w_bipush (p' := 81) f_175_79 rfl
 (w_icmp (p' := 105) (q' := 84) f_175_81 rfl rfl
 (fun c104 => w_lconst (p' := 106) (x := 0) rfl f_175_105 rfl
 (((h102.2 c105).1 c104)))
 (fun c104 => w_ldc2_w (p' := 87) f_175_84 rfl
 (w_aload_n (p' := 88) f_175_87 rfl rfl
 (w_getfield (p' := 91) f_175_88 rfl (x := .inr (.inl (s102 40 k0 i0 8))) rfl rfl
 (w_lmul (p' := 92) f_175_91 rfl
 (w_aload_n (p' := 93) f_175_92 rfl rfl
 (w_callV (p' := 96) f_175_93 rfl rfl rfl rfl rfl (r := [.inr (.inl (wl (32 * (s102 40 k0 i0 8)))), .inr (.inr (40, k0, i0))]) rfl rfl (kI (.inl rk_171) fun r103 s103 h103 =>
 w_i2l (p' := 97) f_175_96 rfl
 (w_ladd (p' := 98) f_175_97 rfl
 (w_ldc2_w (p' := 101) f_175_98 rfl
 (w_lsub (p' := 102) f_175_101 rfl
 (w_goto (p' := 106) f_175_102 rfl
 (h103)))))) ((h102.2 c105).2 c104)))))))))))) h101) h)
set_option maxRecDepth 100000 in
theorem T_Z_next_106 (k0 i0 x2 t0 kt1 it1 : Int) (o1 : Option AV) (σ : ST) (Q : Option AV → ST → Prop) (h :
  wp m_Z_next (67, [some (.inr (.inr (40, k0, i0))), o1, some (.inl (wr (x2 + 1)))], [], (up (up σ 40 kt1 it1 8 t0) 40 k0 i0 3 (wr (((up σ 40 kt1 it1 8 t0) 40 k0 i0 3) + 1)))) Q) :
  wp m_Z_next (106, [some (.inr (.inr (40, k0, i0))), o1, some (.inl x2)], [.inr (.inl t0), .inr (.inr (40, kt1, it1))], σ) Q :=
 w_putJ (p' := 109) f_175_106 rfl rfl (c' := 8) rfl rfl
 (w_aload_n (p' := 110) f_175_109 rfl rfl
 (w_dupR (p' := 111) f_175_110 rfl
 (w_getfield (p' := 114) f_175_111 rfl (x := .inl ((up σ 40 kt1 it1 8 t0) 40 k0 i0 3)) rfl rfl
 (w_iconst (p' := 115) f_175_114 rfl
 (w_iadd (p' := 116) f_175_115 rfl
 (w_putI (p' := 119) f_175_116 rfl rfl (c' := 3) rfl rfl
 (w_iinc (p' := 122) f_175_119 rfl (L' := [some (.inr (.inr (40, k0, i0))), o1, some (.inl (wr (x2 + 1)))]) rfl rfl
 (w_goto (p' := 67) f_175_122 rfl
 (h)))))))))
set_option maxRecDepth 100000 in
theorem T_Z_next_145 (k0 i0 : Int) (o1 o2 : Option AV) (σ : ST) (Q : Option AV → ST → Prop) (h :
  wpM m_Z_here [.inr (.inr (40, k0, i0))] σ (asI fun r101 s101 =>
  wpM m_Z_isDigit [.inl r101] s101 (asI fun r102 s102 =>
  (((r102 = 0 : Prop) →
    Q none s102) ∧
  (¬ (r102 = 0) →
    wpM m_Z_here [.inr (.inr (40, k0, i0))] s102 (asI fun r103 s103 =>
    wpM m_JMath_min [.inl 100000, .inl (wr ((wr ((wr (10 * (s102 40 k0 i0 7))) + r103)) - 48))] s103 (asI fun r104 s104 =>
    wp m_Z_next (145, [some (.inr (.inr (40, k0, i0))), o1, o2], [], (up (up s104 40 k0 i0 7 r104) 40 k0 i0 3 (wr (((up s104 40 k0 i0 7 r104) 40 k0 i0 3) + 1)))) Q))))))) :
  wp m_Z_next (145, [some (.inr (.inr (40, k0, i0))), o1, o2], [], σ) Q :=
 w_aload_n (p' := 146) f_175_145 rfl rfl
 (w_callV (p' := 149) f_175_146 rfl rfl rfl rfl rfl (r := []) rfl rfl (kI (.inl rk_171) fun r101 s101 h101 =>
 w_callS (p' := 152) f_175_149 rfl rfl rfl (r := []) rfl rfl (kI (.inr rk_173) fun r102 s102 h102 =>
 w_if (p' := 227) (q' := 155) f_175_152 rfl rfl
 (fun c105 => w_vret f_175_227 rk_175 (h102.1 c105))
 (fun c105 => w_aload_n (p' := 156) f_175_155 rfl rfl
 (w_ldc (p' := 158) f_175_156 rfl
 (w_bipush (p' := 160) f_175_158 rfl
 (w_aload_n (p' := 161) f_175_160 rfl rfl
 (w_getfield (p' := 164) f_175_161 rfl (x := .inl (s102 40 k0 i0 7)) rfl rfl
 (w_imul (p' := 165) f_175_164 rfl
 (w_aload_n (p' := 166) f_175_165 rfl rfl
 (w_callV (p' := 169) f_175_166 rfl rfl rfl rfl rfl (r := [.inl (wr (10 * (s102 40 k0 i0 7))), .inl 100000, .inr (.inr (40, k0, i0))]) rfl rfl (kI (.inl rk_171) fun r103 s103 h103 =>
 w_iadd (p' := 170) f_175_169 rfl
 (w_bipush (p' := 172) f_175_170 rfl
 (w_isub (p' := 173) f_175_172 rfl
 (w_callS (p' := 176) f_175_173 rfl rfl rfl (r := [.inr (.inr (40, k0, i0))]) rfl rfl (kI (.inl rk_174) fun r104 s104 h104 =>
 w_putI (p' := 179) f_175_176 rfl rfl (c' := 7) rfl rfl
 (w_aload_n (p' := 180) f_175_179 rfl rfl
 (w_dupR (p' := 181) f_175_180 rfl
 (w_getfield (p' := 184) f_175_181 rfl (x := .inl ((up s104 40 k0 i0 7 r104) 40 k0 i0 3)) rfl rfl
 (w_iconst (p' := 185) f_175_184 rfl
 (w_iadd (p' := 186) f_175_185 rfl
 (w_putI (p' := 189) f_175_186 rfl rfl (c' := 3) rfl rfl
 (w_goto (p' := 145) f_175_189 rfl
 (h104))))))))) h103)))) (h102.2 c105)))))))))) h101) h)
/-! ClosedRoomsModel.stepWord(I)Ljava/lang/String; -/
theorem f_176_0 : fnd 176 0 = some (0, .iload_n 0, 1, 0, 0, 0, 0) := ceB_eq (by decide +kernel)
theorem f_176_1 : fnd 176 1 = some (1, .tableswitch 120 0 14 #[75, 78, 81, 84, 87, 90, 93, 96, 99, 102, 105, 108, 111, 114, 117], 75, 0, 0, 0, 0) := ceB_eq (by decide +kernel)
theorem f_176_76 : fnd 176 76 = some (76, .ldc 116, 2, 1, 0, 0, 4) := ceB_eq (by decide +kernel)
theorem f_176_78 : fnd 176 78 = some (78, .areturn, 1, 0, 0, 0, 0) := ceB_eq (by decide +kernel)
theorem f_176_79 : fnd 176 79 = some (79, .ldc 118, 2, 1, 0, 0, 5) := ceB_eq (by decide +kernel)
theorem f_176_81 : fnd 176 81 = some (81, .areturn, 1, 0, 0, 0, 0) := ceB_eq (by decide +kernel)
theorem f_176_82 : fnd 176 82 = some (82, .ldc 120, 2, 1, 0, 0, 6) := ceB_eq (by decide +kernel)
theorem f_176_84 : fnd 176 84 = some (84, .areturn, 1, 0, 0, 0, 0) := ceB_eq (by decide +kernel)
theorem f_176_85 : fnd 176 85 = some (85, .ldc 122, 2, 1, 0, 0, 7) := ceB_eq (by decide +kernel)
theorem f_176_87 : fnd 176 87 = some (87, .areturn, 1, 0, 0, 0, 0) := ceB_eq (by decide +kernel)
theorem f_176_88 : fnd 176 88 = some (88, .ldc 124, 2, 1, 0, 0, 8) := ceB_eq (by decide +kernel)
theorem f_176_90 : fnd 176 90 = some (90, .areturn, 1, 0, 0, 0, 0) := ceB_eq (by decide +kernel)
theorem f_176_91 : fnd 176 91 = some (91, .ldc 126, 2, 1, 0, 0, 9) := ceB_eq (by decide +kernel)
theorem f_176_93 : fnd 176 93 = some (93, .areturn, 1, 0, 0, 0, 0) := ceB_eq (by decide +kernel)
theorem f_176_94 : fnd 176 94 = some (94, .ldc 128, 2, 1, 0, 0, 10) := ceB_eq (by decide +kernel)
theorem f_176_96 : fnd 176 96 = some (96, .areturn, 1, 0, 0, 0, 0) := ceB_eq (by decide +kernel)
theorem f_176_97 : fnd 176 97 = some (97, .ldc 130, 2, 1, 0, 0, 11) := ceB_eq (by decide +kernel)
theorem f_176_99 : fnd 176 99 = some (99, .areturn, 1, 0, 0, 0, 0) := ceB_eq (by decide +kernel)
theorem f_176_100 : fnd 176 100 = some (100, .ldc 132, 2, 1, 0, 0, 12) := ceB_eq (by decide +kernel)
theorem f_176_102 : fnd 176 102 = some (102, .areturn, 1, 0, 0, 0, 0) := ceB_eq (by decide +kernel)
theorem f_176_103 : fnd 176 103 = some (103, .ldc 134, 2, 1, 0, 0, 13) := ceB_eq (by decide +kernel)
theorem f_176_105 : fnd 176 105 = some (105, .areturn, 1, 0, 0, 0, 0) := ceB_eq (by decide +kernel)
theorem f_176_106 : fnd 176 106 = some (106, .ldc 136, 2, 1, 0, 0, 14) := ceB_eq (by decide +kernel)
theorem f_176_108 : fnd 176 108 = some (108, .areturn, 1, 0, 0, 0, 0) := ceB_eq (by decide +kernel)
theorem f_176_109 : fnd 176 109 = some (109, .ldc 138, 2, 1, 0, 0, 15) := ceB_eq (by decide +kernel)
theorem f_176_111 : fnd 176 111 = some (111, .areturn, 1, 0, 0, 0, 0) := ceB_eq (by decide +kernel)
theorem f_176_112 : fnd 176 112 = some (112, .ldc 140, 2, 1, 0, 0, 16) := ceB_eq (by decide +kernel)
theorem f_176_114 : fnd 176 114 = some (114, .areturn, 1, 0, 0, 0, 0) := ceB_eq (by decide +kernel)
theorem f_176_115 : fnd 176 115 = some (115, .ldc 142, 2, 1, 0, 0, 17) := ceB_eq (by decide +kernel)
theorem f_176_117 : fnd 176 117 = some (117, .areturn, 1, 0, 0, 0, 0) := ceB_eq (by decide +kernel)
theorem f_176_118 : fnd 176 118 = some (118, .ldc 144, 2, 1, 0, 0, 18) := ceB_eq (by decide +kernel)
theorem f_176_120 : fnd 176 120 = some (120, .areturn, 1, 0, 0, 0, 0) := ceB_eq (by decide +kernel)
theorem f_176_121 : fnd 176 121 = some (121, .ldc 146, 2, 1, 0, 0, 19) := ceB_eq (by decide +kernel)
theorem f_176_123 : fnd 176 123 = some (123, .areturn, 1, 0, 0, 0, 0) := ceB_eq (by decide +kernel)
theorem rk_176 : rkm 176 = 3 := by decide +kernel
theorem ml_176 : (mth 176).2.1 = 1 := by decide +kernel
set_option maxRecDepth 100000 in
theorem T_Z_stepWord (x1 : Int) (σ : ST) (Q : Option AV → ST → Prop) (h :
  ((x1 = 0 →
    Q (some (.inr (.inr (70, 4, 0)))) σ) ∧ (x1 ≠ 0 →
  ((x1 = 1 →
    Q (some (.inr (.inr (70, 5, 0)))) σ) ∧ (x1 ≠ 1 →
  ((x1 = 2 →
    Q (some (.inr (.inr (70, 6, 0)))) σ) ∧ (x1 ≠ 2 →
  ((x1 = 3 →
    Q (some (.inr (.inr (70, 7, 0)))) σ) ∧ (x1 ≠ 3 →
  ((x1 = 4 →
    Q (some (.inr (.inr (70, 8, 0)))) σ) ∧ (x1 ≠ 4 →
  ((x1 = 5 →
    Q (some (.inr (.inr (70, 9, 0)))) σ) ∧ (x1 ≠ 5 →
  ((x1 = 6 →
    Q (some (.inr (.inr (70, 10, 0)))) σ) ∧ (x1 ≠ 6 →
  ((x1 = 7 →
    Q (some (.inr (.inr (70, 11, 0)))) σ) ∧ (x1 ≠ 7 →
  ((x1 = 8 →
    Q (some (.inr (.inr (70, 12, 0)))) σ) ∧ (x1 ≠ 8 →
  ((x1 = 9 →
    Q (some (.inr (.inr (70, 13, 0)))) σ) ∧ (x1 ≠ 9 →
  ((x1 = 10 →
    Q (some (.inr (.inr (70, 14, 0)))) σ) ∧ (x1 ≠ 10 →
  ((x1 = 11 →
    Q (some (.inr (.inr (70, 15, 0)))) σ) ∧ (x1 ≠ 11 →
  ((x1 = 12 →
    Q (some (.inr (.inr (70, 16, 0)))) σ) ∧ (x1 ≠ 12 →
  ((x1 = 13 →
    Q (some (.inr (.inr (70, 17, 0)))) σ) ∧ (x1 ≠ 13 →
  ((x1 = 14 →
    Q (some (.inr (.inr (70, 18, 0)))) σ) ∧ (x1 ≠ 14 →
    Q (some (.inr (.inr (70, 19, 0)))) σ))))))))))))))))))))))))))))))) :
  wpM m_Z_stepWord [.inl x1] σ Q :=
 wpM_of ml_176 (L := [some (.inl x1)]) rfl
 (w_iload_n (p' := 1) f_176_0 rfl rfl
 (w_switch f_176_1 (cs := [(0, 76), (1, 79), (2, 82), (3, 85), (4, 88), (5, 91), (6, 94), (7, 97), (8, 100), (9, 103), (10, 106), (11, 109), (12, 112), (13, 115), (14, 118)]) rfl (d' := 121) rfl
 (⟨fun c101 => w_ldcS (p' := 78) f_176_76 rfl
 (w_aret f_176_78 rk_176 (h.1 c101)), fun c101_0 =>
 ⟨fun c101 => w_ldcS (p' := 81) f_176_79 rfl
 (w_aret f_176_81 rk_176 ((h.2 c101_0).1 c101)), fun c101_1 =>
 ⟨fun c101 => w_ldcS (p' := 84) f_176_82 rfl
 (w_aret f_176_84 rk_176 (((h.2 c101_0).2 c101_1).1 c101)), fun c101_2 =>
 ⟨fun c101 => w_ldcS (p' := 87) f_176_85 rfl
 (w_aret f_176_87 rk_176 ((((h.2 c101_0).2 c101_1).2 c101_2).1 c101)), fun c101_3 =>
 ⟨fun c101 => w_ldcS (p' := 90) f_176_88 rfl
 (w_aret f_176_90 rk_176 (((((h.2 c101_0).2 c101_1).2 c101_2).2 c101_3).1 c101)), fun c101_4 =>
 ⟨fun c101 => w_ldcS (p' := 93) f_176_91 rfl
 (w_aret f_176_93 rk_176 ((((((h.2 c101_0).2 c101_1).2 c101_2).2 c101_3).2 c101_4).1 c101)), fun c101_5 =>
 ⟨fun c101 => w_ldcS (p' := 96) f_176_94 rfl
 (w_aret f_176_96 rk_176 (((((((h.2 c101_0).2 c101_1).2 c101_2).2 c101_3).2 c101_4).2 c101_5).1 c101)), fun c101_6 =>
 ⟨fun c101 => w_ldcS (p' := 99) f_176_97 rfl
 (w_aret f_176_99 rk_176 ((((((((h.2 c101_0).2 c101_1).2 c101_2).2 c101_3).2 c101_4).2 c101_5).2 c101_6).1 c101)), fun c101_7 =>
 ⟨fun c101 => w_ldcS (p' := 102) f_176_100 rfl
 (w_aret f_176_102 rk_176 (((((((((h.2 c101_0).2 c101_1).2 c101_2).2 c101_3).2 c101_4).2 c101_5).2 c101_6).2 c101_7).1 c101)), fun c101_8 =>
 ⟨fun c101 => w_ldcS (p' := 105) f_176_103 rfl
 (w_aret f_176_105 rk_176 ((((((((((h.2 c101_0).2 c101_1).2 c101_2).2 c101_3).2 c101_4).2 c101_5).2 c101_6).2 c101_7).2 c101_8).1 c101)), fun c101_9 =>
 ⟨fun c101 => w_ldcS (p' := 108) f_176_106 rfl
 (w_aret f_176_108 rk_176 (((((((((((h.2 c101_0).2 c101_1).2 c101_2).2 c101_3).2 c101_4).2 c101_5).2 c101_6).2 c101_7).2 c101_8).2 c101_9).1 c101)), fun c101_10 =>
 ⟨fun c101 => w_ldcS (p' := 111) f_176_109 rfl
 (w_aret f_176_111 rk_176 ((((((((((((h.2 c101_0).2 c101_1).2 c101_2).2 c101_3).2 c101_4).2 c101_5).2 c101_6).2 c101_7).2 c101_8).2 c101_9).2 c101_10).1 c101)), fun c101_11 =>
 ⟨fun c101 => w_ldcS (p' := 114) f_176_112 rfl
 (w_aret f_176_114 rk_176 (((((((((((((h.2 c101_0).2 c101_1).2 c101_2).2 c101_3).2 c101_4).2 c101_5).2 c101_6).2 c101_7).2 c101_8).2 c101_9).2 c101_10).2 c101_11).1 c101)), fun c101_12 =>
 ⟨fun c101 => w_ldcS (p' := 117) f_176_115 rfl
 (w_aret f_176_117 rk_176 ((((((((((((((h.2 c101_0).2 c101_1).2 c101_2).2 c101_3).2 c101_4).2 c101_5).2 c101_6).2 c101_7).2 c101_8).2 c101_9).2 c101_10).2 c101_11).2 c101_12).1 c101)), fun c101_13 =>
 ⟨fun c101 => w_ldcS (p' := 120) f_176_118 rfl
 (w_aret f_176_120 rk_176 (((((((((((((((h.2 c101_0).2 c101_1).2 c101_2).2 c101_3).2 c101_4).2 c101_5).2 c101_6).2 c101_7).2 c101_8).2 c101_9).2 c101_10).2 c101_11).2 c101_12).2 c101_13).1 c101)), fun c101_14 =>
 w_ldcS (p' := 123) f_176_121 rfl
 (w_aret f_176_123 rk_176 (((((((((((((((h.2 c101_0).2 c101_1).2 c101_2).2 c101_3).2 c101_4).2 c101_5).2 c101_6).2 c101_7).2 c101_8).2 c101_9).2 c101_10).2 c101_11).2 c101_12).2 c101_13).2 c101_14))⟩⟩⟩⟩⟩⟩⟩⟩⟩⟩⟩⟩⟩⟩⟩)))
/-! ClosedRoomsModel.machineWord(I)Ljava/lang/String; -/
theorem f_177_0 : fnd 177 0 = some (0, .iload_n 0, 1, 0, 0, 0, 0) := ceB_eq (by decide +kernel)
theorem f_177_1 : fnd 177 1 = some (1, .tableswitch 36 0 2 #[27, 30, 33], 27, 0, 0, 0, 0) := ceB_eq (by decide +kernel)
theorem f_177_28 : fnd 177 28 = some (28, .ldc 108, 2, 1, 0, 0, 0) := ceB_eq (by decide +kernel)
theorem f_177_30 : fnd 177 30 = some (30, .areturn, 1, 0, 0, 0, 0) := ceB_eq (by decide +kernel)
theorem f_177_31 : fnd 177 31 = some (31, .ldc 110, 2, 1, 0, 0, 1) := ceB_eq (by decide +kernel)
theorem f_177_33 : fnd 177 33 = some (33, .areturn, 1, 0, 0, 0, 0) := ceB_eq (by decide +kernel)
theorem f_177_34 : fnd 177 34 = some (34, .ldc 112, 2, 1, 0, 0, 2) := ceB_eq (by decide +kernel)
theorem f_177_36 : fnd 177 36 = some (36, .areturn, 1, 0, 0, 0, 0) := ceB_eq (by decide +kernel)
theorem f_177_37 : fnd 177 37 = some (37, .ldc 114, 2, 1, 0, 0, 3) := ceB_eq (by decide +kernel)
theorem f_177_39 : fnd 177 39 = some (39, .areturn, 1, 0, 0, 0, 0) := ceB_eq (by decide +kernel)
theorem rk_177 : rkm 177 = 3 := by decide +kernel
theorem ml_177 : (mth 177).2.1 = 1 := by decide +kernel
set_option maxRecDepth 100000 in
theorem T_Z_machineWord (x1 : Int) (σ : ST) (Q : Option AV → ST → Prop) (h :
  ((x1 = 0 →
    Q (some (.inr (.inr (70, 0, 0)))) σ) ∧ (x1 ≠ 0 →
  ((x1 = 1 →
    Q (some (.inr (.inr (70, 1, 0)))) σ) ∧ (x1 ≠ 1 →
  ((x1 = 2 →
    Q (some (.inr (.inr (70, 2, 0)))) σ) ∧ (x1 ≠ 2 →
    Q (some (.inr (.inr (70, 3, 0)))) σ))))))) :
  wpM m_Z_machineWord [.inl x1] σ Q :=
 wpM_of ml_177 (L := [some (.inl x1)]) rfl
 (w_iload_n (p' := 1) f_177_0 rfl rfl
 (w_switch f_177_1 (cs := [(0, 28), (1, 31), (2, 34)]) rfl (d' := 37) rfl
 (⟨fun c101 => w_ldcS (p' := 30) f_177_28 rfl
 (w_aret f_177_30 rk_177 (h.1 c101)), fun c101_0 =>
 ⟨fun c101 => w_ldcS (p' := 33) f_177_31 rfl
 (w_aret f_177_33 rk_177 ((h.2 c101_0).1 c101)), fun c101_1 =>
 ⟨fun c101 => w_ldcS (p' := 36) f_177_34 rfl
 (w_aret f_177_36 rk_177 (((h.2 c101_0).2 c101_1).1 c101)), fun c101_2 =>
 w_ldcS (p' := 39) f_177_37 rfl
 (w_aret f_177_39 rk_177 (((h.2 c101_0).2 c101_1).2 c101_2))⟩⟩⟩)))
/-! ClosedRoomsModel.spelled(Ljava/lang/String;)J -/
theorem f_178_0 : fnd 178 0 = some (0, .lconst 0, 1, 0, 0, 0, 0) := ceB_eq (by decide +kernel)
theorem f_178_1 : fnd 178 1 = some (1, .lstore_n 1, 1, 0, 0, 0, 0) := ceB_eq (by decide +kernel)
theorem f_178_2 : fnd 178 2 = some (2, .iconst 0, 1, 0, 0, 0, 0) := ceB_eq (by decide +kernel)
theorem f_178_3 : fnd 178 3 = some (3, .istore_n 3, 1, 0, 0, 0, 0) := ceB_eq (by decide +kernel)
theorem f_178_4 : fnd 178 4 = some (4, .iload_n 3, 1, 0, 0, 0, 0) := ceB_eq (by decide +kernel)
theorem f_178_5 : fnd 178 5 = some (5, .aload_n 0, 1, 0, 0, 0, 0) := ceB_eq (by decide +kernel)
theorem f_178_6 : fnd 178 6 = some (6, .invokevirtual 99, 3, 901, 1, 0, 0) := ceB_eq (by decide +kernel)
theorem f_178_9 : fnd 178 9 = some (9, .if_icmp .ge 26, 3, 0, 0, 0, 0) := ceB_eq (by decide +kernel)
theorem f_178_12 : fnd 178 12 = some (12, .ldc2_w 79, 3, 0, 0, 0, 32) := ceB_eq (by decide +kernel)
theorem f_178_15 : fnd 178 15 = some (15, .lload_n 1, 1, 0, 0, 0, 0) := ceB_eq (by decide +kernel)
theorem f_178_16 : fnd 178 16 = some (16, .lmul, 1, 0, 0, 0, 0) := ceB_eq (by decide +kernel)
theorem f_178_17 : fnd 178 17 = some (17, .aload_n 0, 1, 0, 0, 0, 0) := ceB_eq (by decide +kernel)
theorem f_178_18 : fnd 178 18 = some (18, .iload_n 3, 1, 0, 0, 0, 0) := ceB_eq (by decide +kernel)
theorem f_178_19 : fnd 178 19 = some (19, .invokevirtual 104, 3, 902, 2, 0, 0) := ceB_eq (by decide +kernel)
theorem f_178_22 : fnd 178 22 = some (22, .i2l, 1, 0, 0, 0, 0) := ceB_eq (by decide +kernel)
theorem f_178_23 : fnd 178 23 = some (23, .ladd, 1, 0, 0, 0, 0) := ceB_eq (by decide +kernel)
theorem f_178_24 : fnd 178 24 = some (24, .ldc2_w 81, 3, 0, 0, 0, 96) := ceB_eq (by decide +kernel)
theorem f_178_27 : fnd 178 27 = some (27, .lsub, 1, 0, 0, 0, 0) := ceB_eq (by decide +kernel)
theorem f_178_28 : fnd 178 28 = some (28, .lstore_n 1, 1, 0, 0, 0, 0) := ceB_eq (by decide +kernel)
theorem f_178_29 : fnd 178 29 = some (29, .iinc 3 1, 3, 0, 0, 0, 0) := ceB_eq (by decide +kernel)
theorem f_178_32 : fnd 178 32 = some (32, .goto (-28), 3, 0, 0, 0, 0) := ceB_eq (by decide +kernel)
theorem f_178_35 : fnd 178 35 = some (35, .lload_n 1, 1, 0, 0, 0, 0) := ceB_eq (by decide +kernel)
theorem f_178_36 : fnd 178 36 = some (36, .lreturn, 1, 0, 0, 0, 0) := ceB_eq (by decide +kernel)
theorem rk_178 : rkm 178 = 2 := by decide +kernel
theorem ml_178 : (mth 178).2.1 = 4 := by decide +kernel
set_option maxRecDepth 100000 in
theorem T_Z_spelled (k1 i1 : Int) (σ : ST) (Q : Option AV → ST → Prop) (h :
  wp m_Z_spelled (4, [some (.inr (.inr (70, k1, i1))), some (.inr (.inl 0)), none, some (.inl 0)], [], σ) Q) :
  wpM m_Z_spelled [.inr (.inr (70, k1, i1))] σ Q :=
 wpM_of ml_178 (L := [some (.inr (.inr (70, k1, i1))), none, none, none]) rfl
 (w_lconst (p' := 1) (x := 0) rfl f_178_0 rfl
 (w_lstore_n (p' := 2) f_178_1 rfl (L' := [some (.inr (.inr (70, k1, i1))), some (.inr (.inl 0)), none, none]) rfl rfl
 (w_iconst (p' := 3) f_178_2 rfl
 (w_istore_n (p' := 4) f_178_3 (L' := [some (.inr (.inr (70, k1, i1))), some (.inr (.inl 0)), none, some (.inl 0)]) rfl rfl
 (h)))))
set_option maxRecDepth 100000 in
theorem T_Z_spelled_4 (k0 i0 x1 x3 : Int) (o2 : Option AV) (σ : ST) (Q : Option AV → ST → Prop) (h :
  ((0 : Int) ≤ k0 ∧ k0 < (strs.length : Int)) ∧
  (((((strs.getD (Int.toNat k0) []).length : Int) ≤ x3 : Prop) →
    Q (some (.inr (.inl x1))) σ) ∧
  (¬ (((strs.getD (Int.toNat k0) []).length : Int) ≤ x3) →
    (((0 : Int) ≤ k0 ∧ k0 < (strs.length : Int)) ∧ (0 : Int) ≤ x3 ∧ x3 < ((strs.getD (Int.toNat k0) []).length : Int)) ∧
    wp m_Z_spelled (4, [some (.inr (.inr (70, k0, i0))), some (.inr (.inl (wl ((wl ((wl (32 * x1)) + ((strs.getD (Int.toNat k0) []).getD (Int.toNat x3) 0))) - 96)))), none, some (.inl (wr (x3 + 1)))], [], σ) Q))) :
  wp m_Z_spelled (4, [some (.inr (.inr (70, k0, i0))), some (.inr (.inl x1)), o2, some (.inl x3)], [], σ) Q :=
 w_iload_n (p' := 5) f_178_4 rfl rfl
 (w_aload_n (p' := 6) f_178_5 rfl rfl
 (w_slen (p' := 9) f_178_6 rfl h.1 rfl
 (w_icmp (p' := 35) (q' := 12) f_178_9 rfl rfl
 (fun c101 => w_lload_n (p' := 36) f_178_35 rfl rfl
 (w_lret f_178_36 rk_178 (h.2.1 c101)))
 (fun c101 => w_ldc2_w (p' := 15) f_178_12 rfl
 (w_lload_n (p' := 16) f_178_15 rfl rfl
 (w_lmul (p' := 17) f_178_16 rfl
 (w_aload_n (p' := 18) f_178_17 rfl rfl
 (w_iload_n (p' := 19) f_178_18 rfl rfl
 (w_schar (p' := 22) f_178_19 rfl (h.2.2 c101).1 rfl
 (w_i2l (p' := 23) f_178_22 rfl
 (w_ladd (p' := 24) f_178_23 rfl
 (w_ldc2_w (p' := 27) f_178_24 rfl
 (w_lsub (p' := 28) f_178_27 rfl
 (w_lstore_n (p' := 29) f_178_28 rfl (L' := [some (.inr (.inr (70, k0, i0))), some (.inr (.inl (wl ((wl ((wl (32 * x1)) + ((strs.getD (Int.toNat k0) []).getD (Int.toNat x3) 0))) - 96)))), none, some (.inl x3)]) rfl rfl
 (w_iinc (p' := 32) f_178_29 rfl (L' := [some (.inr (.inr (70, k0, i0))), some (.inr (.inl (wl ((wl ((wl (32 * x1)) + ((strs.getD (Int.toNat k0) []).getD (Int.toNat x3) 0))) - 96)))), none, some (.inl (wr (x3 + 1)))]) rfl rfl
 (w_goto (p' := 4) f_178_32 rfl
 ((h.2.2 c101).2)))))))))))))))))
/-! ClosedRoomsModel.wordHere(Z)I -/
theorem f_179_0 : fnd 179 0 = some (0, .iload_n 1, 1, 0, 0, 0, 0) := ceB_eq (by decide +kernel)
theorem f_179_1 : fnd 179 1 = some (1, .ifCond .eq 8, 3, 0, 0, 0, 0) := ceB_eq (by decide +kernel)
theorem f_179_4 : fnd 179 4 = some (4, .bipush 16, 2, 0, 0, 0, 0) := ceB_eq (by decide +kernel)
theorem f_179_6 : fnd 179 6 = some (6, .goto 4, 3, 0, 0, 0, 0) := ceB_eq (by decide +kernel)
theorem f_179_9 : fnd 179 9 = some (9, .iconst 4, 1, 0, 0, 0, 0) := ceB_eq (by decide +kernel)
theorem f_179_10 : fnd 179 10 = some (10, .istore_n 2, 1, 0, 0, 0, 0) := ceB_eq (by decide +kernel)
theorem f_179_11 : fnd 179 11 = some (11, .iconst 0, 1, 0, 0, 0, 0) := ceB_eq (by decide +kernel)
theorem f_179_12 : fnd 179 12 = some (12, .istore_n 3, 1, 0, 0, 0, 0) := ceB_eq (by decide +kernel)
theorem f_179_13 : fnd 179 13 = some (13, .iload_n 3, 1, 0, 0, 0, 0) := ceB_eq (by decide +kernel)
theorem f_179_14 : fnd 179 14 = some (14, .iload_n 2, 1, 0, 0, 0, 0) := ceB_eq (by decide +kernel)
theorem f_179_15 : fnd 179 15 = some (15, .if_icmp .ge 45, 3, 0, 0, 0, 0) := ceB_eq (by decide +kernel)
theorem f_179_18 : fnd 179 18 = some (18, .aload_n 0, 1, 0, 0, 0, 0) := ceB_eq (by decide +kernel)
theorem f_179_19 : fnd 179 19 = some (19, .getfield 68, 3, 10, 5, 5, 0) := ceB_eq (by decide +kernel)
theorem f_179_22 : fnd 179 22 = some (22, .iconst 1, 1, 0, 0, 0, 0) := ceB_eq (by decide +kernel)
theorem f_179_23 : fnd 179 23 = some (23, .if_icmp .ne 31, 3, 0, 0, 0, 0) := ceB_eq (by decide +kernel)
theorem f_179_26 : fnd 179 26 = some (26, .aload_n 0, 1, 0, 0, 0, 0) := ceB_eq (by decide +kernel)
theorem f_179_27 : fnd 179 27 = some (27, .getfield 75, 3, 10, 8, 8, 0) := ceB_eq (by decide +kernel)
theorem f_179_30 : fnd 179 30 = some (30, .iload_n 1, 1, 0, 0, 0, 0) := ceB_eq (by decide +kernel)
theorem f_179_31 : fnd 179 31 = some (31, .ifCond .eq 10, 3, 0, 0, 0, 0) := ceB_eq (by decide +kernel)
theorem f_179_34 : fnd 179 34 = some (34, .iload_n 3, 1, 0, 0, 0, 0) := ceB_eq (by decide +kernel)
theorem f_179_35 : fnd 179 35 = some (35, .invokestatic 148, 3, 176, 1, 10, 70) := ceB_eq (by decide +kernel)
theorem f_179_38 : fnd 179 38 = some (38, .goto 7, 3, 0, 0, 0, 0) := ceB_eq (by decide +kernel)
theorem f_179_41 : fnd 179 41 = some (41, .iload_n 3, 1, 0, 0, 0, 0) := ceB_eq (by decide +kernel)
theorem f_179_42 : fnd 179 42 = some (42, .invokestatic 152, 3, 177, 1, 10, 70) := ceB_eq (by decide +kernel)
theorem f_179_45 : fnd 179 45 = some (45, .invokestatic 155, 3, 178, 1, 10, 0) := ceB_eq (by decide +kernel)
theorem f_179_48 : fnd 179 48 = some (48, .lcmp, 1, 0, 0, 0, 0) := ceB_eq (by decide +kernel)
theorem f_179_49 : fnd 179 49 = some (49, .ifCond .ne 5, 3, 0, 0, 0, 0) := ceB_eq (by decide +kernel)
theorem f_179_52 : fnd 179 52 = some (52, .iload_n 3, 1, 0, 0, 0, 0) := ceB_eq (by decide +kernel)
theorem f_179_53 : fnd 179 53 = some (53, .ireturn, 1, 0, 0, 0, 0) := ceB_eq (by decide +kernel)
theorem f_179_54 : fnd 179 54 = some (54, .iinc 3 1, 3, 0, 0, 0, 0) := ceB_eq (by decide +kernel)
theorem f_179_57 : fnd 179 57 = some (57, .goto (-44), 3, 0, 0, 0, 0) := ceB_eq (by decide +kernel)
theorem f_179_60 : fnd 179 60 = some (60, .iconst (-1), 1, 0, 0, 0, 0) := ceB_eq (by decide +kernel)
theorem f_179_61 : fnd 179 61 = some (61, .ireturn, 1, 0, 0, 0, 0) := ceB_eq (by decide +kernel)
theorem rk_179 : rkm 179 = 0 := by decide +kernel
theorem ml_179 : (mth 179).2.1 = 4 := by decide +kernel
set_option maxRecDepth 100000 in
theorem T_Z_wordHere (k0 i0 x1 : Int) (σ : ST) (Q : Option AV → ST → Prop) (h :
  (((x1 = 0 : Prop) →
    wp m_Z_wordHere (13, [some (.inr (.inr (40, k0, i0))), some (.inl x1), some (.inl 4), some (.inl 0)], [], σ) Q) ∧
  (¬ (x1 = 0) →
    wp m_Z_wordHere (13, [some (.inr (.inr (40, k0, i0))), some (.inl x1), some (.inl 16), some (.inl 0)], [], σ) Q))) :
  wpM m_Z_wordHere [.inr (.inr (40, k0, i0)), .inl x1] σ Q :=
 wpM_of ml_179 (L := [some (.inr (.inr (40, k0, i0))), some (.inl x1), none, none]) rfl
 (w_iload_n (p' := 1) f_179_0 rfl rfl
 (w_if (p' := 9) (q' := 4) f_179_1 rfl rfl
 (fun c101 => w_iconst (p' := 10) f_179_9 rfl
 (w_istore_n (p' := 11) f_179_10 (L' := [some (.inr (.inr (40, k0, i0))), some (.inl x1), some (.inl 4), none]) rfl rfl
 (w_iconst (p' := 12) f_179_11 rfl
 (w_istore_n (p' := 13) f_179_12 (L' := [some (.inr (.inr (40, k0, i0))), some (.inl x1), some (.inl 4), some (.inl 0)]) rfl rfl
 ((h.1 c101))))))
 (fun c101 => w_bipush (p' := 6) f_179_4 rfl
 (w_goto (p' := 10) f_179_6 rfl
 (w_istore_n (p' := 11) f_179_10 (L' := [some (.inr (.inr (40, k0, i0))), some (.inl x1), some (.inl 16), none]) rfl rfl
 (w_iconst (p' := 12) f_179_11 rfl
 (w_istore_n (p' := 13) f_179_12 (L' := [some (.inr (.inr (40, k0, i0))), some (.inl x1), some (.inl 16), some (.inl 0)]) rfl rfl
 ((h.2 c101)))))))))
set_option maxRecDepth 100000 in
theorem T_Z_wordHere_13 (k0 i0 x1 x2 x3 : Int) (σ : ST) (Q : Option AV → ST → Prop) (h :
  (((x2 ≤ x3 : Prop) →
    Q (some (.inl (-1))) σ) ∧
  (¬ (x2 ≤ x3) →
    ((((σ 40 k0 i0 5) ≠ 1 : Prop) →
      wp m_Z_wordHere (13, [some (.inr (.inr (40, k0, i0))), some (.inl x1), some (.inl x2), some (.inl (wr (x3 + 1)))], [], σ) Q) ∧
    (¬ ((σ 40 k0 i0 5) ≠ 1) →
      (((x1 = 0 : Prop) →
        wpM m_Z_machineWord [.inl x3] σ (asR 70 fun a101 b101 s101 =>
        wp m_Z_wordHere (45, [some (.inr (.inr (40, k0, i0))), some (.inl x1), some (.inl x2), some (.inl x3)], [.inr (.inr (70, a101, b101)), .inr (.inl (σ 40 k0 i0 8))], s101) Q)) ∧
      (¬ (x1 = 0) →
        wpM m_Z_stepWord [.inl x3] σ (asR 70 fun a102 b102 s102 =>
        wp m_Z_wordHere (45, [some (.inr (.inr (40, k0, i0))), some (.inl x1), some (.inl x2), some (.inl x3)], [.inr (.inr (70, a102, b102)), .inr (.inl (σ 40 k0 i0 8))], s102) Q)))))))) :
  wp m_Z_wordHere (13, [some (.inr (.inr (40, k0, i0))), some (.inl x1), some (.inl x2), some (.inl x3)], [], σ) Q :=
 w_iload_n (p' := 14) f_179_13 rfl rfl
 (w_iload_n (p' := 15) f_179_14 rfl rfl
 (w_icmp (p' := 60) (q' := 18) f_179_15 rfl rfl
 (fun c105 => w_iconst (p' := 61) f_179_60 rfl
 (w_iret f_179_61 rk_179 (h.1 c105)))
 (fun c105 => w_aload_n (p' := 19) f_179_18 rfl rfl
 (w_getfield (p' := 22) f_179_19 rfl (x := .inl (σ 40 k0 i0 5)) rfl rfl
 (w_iconst (p' := 23) f_179_22 rfl
 (w_icmp (p' := 54) (q' := 26) f_179_23 rfl rfl
 (fun c104 => w_iinc (p' := 57) f_179_54 rfl (L' := [some (.inr (.inr (40, k0, i0))), some (.inl x1), some (.inl x2), some (.inl (wr (x3 + 1)))]) rfl rfl
 (w_goto (p' := 13) f_179_57 rfl
 (((h.2 c105).1 c104))))
 (fun c104 => w_aload_n (p' := 27) f_179_26 rfl rfl
 (w_getfield (p' := 30) f_179_27 rfl (x := .inr (.inl (σ 40 k0 i0 8))) rfl rfl
 (w_iload_n (p' := 31) f_179_30 rfl rfl
 (w_if (p' := 41) (q' := 34) f_179_31 rfl rfl
 (fun c103 => w_iload_n (p' := 42) f_179_41 rfl rfl
 (w_callS (p' := 45) f_179_42 rfl rfl rfl (r := [.inr (.inl (σ 40 k0 i0 8))]) rfl rfl (kR rfl rk_177 fun a101 b101 s101 h101 =>
 h101) (((h.2 c105).2 c104).1 c103)))
 (fun c103 => w_iload_n (p' := 35) f_179_34 rfl rfl
 (w_callS (p' := 38) f_179_35 rfl rfl rfl (r := [.inr (.inl (σ 40 k0 i0 8))]) rfl rfl (kR rfl rk_176 fun a102 b102 s102 h102 =>
 w_goto (p' := 45) f_179_38 rfl
 (h102)) (((h.2 c105).2 c104).2 c103)))))))))))))
set_option maxRecDepth 100000 in
theorem T_Z_wordHere_45 (k0 i0 x1 x2 x3 kt0 it0 t1 : Int) (σ : ST) (Q : Option AV → ST → Prop) (h :
  wpM m_Z_spelled [.inr (.inr (70, kt0, it0))] σ (asL fun r101 s101 =>
  ((((l_cmp t1 r101) ≠ 0 : Prop) →
    wp m_Z_wordHere (13, [some (.inr (.inr (40, k0, i0))), some (.inl x1), some (.inl x2), some (.inl (wr (x3 + 1)))], [], s101) Q) ∧
  (¬ ((l_cmp t1 r101) ≠ 0) →
    Q (some (.inl x3)) s101)))) :
  wp m_Z_wordHere (45, [some (.inr (.inr (40, k0, i0))), some (.inl x1), some (.inl x2), some (.inl x3)], [.inr (.inr (70, kt0, it0)), .inr (.inl t1)], σ) Q :=
 w_callS (p' := 48) f_179_45 rfl rfl rfl (r := [.inr (.inl t1)]) rfl rfl (kL rk_178 fun r101 s101 h101 =>
 w_lcmp (p' := 49) f_179_48 rfl
 (w_if (p' := 54) (q' := 52) f_179_49 rfl rfl
 (fun c102 => w_iinc (p' := 57) f_179_54 rfl (L' := [some (.inr (.inr (40, k0, i0))), some (.inl x1), some (.inl x2), some (.inl (wr (x3 + 1)))]) rfl rfl
 (w_goto (p' := 13) f_179_57 rfl
 ((h101.1 c102))))
 (fun c102 => w_iload_n (p' := 53) f_179_52 rfl rfl
 (w_iret f_179_53 rk_179 (h101.2 c102))))) h
/-! ClosedRoomsModel.has(II)Z -/
theorem f_180_0 : fnd 180 0 = some (0, .iload_n 0, 1, 0, 0, 0, 0) := ceB_eq (by decide +kernel)
theorem f_180_1 : fnd 180 1 = some (1, .iload_n 1, 1, 0, 0, 0, 0) := ceB_eq (by decide +kernel)
theorem f_180_2 : fnd 180 2 = some (2, .ishr, 1, 0, 0, 0, 0) := ceB_eq (by decide +kernel)
theorem f_180_3 : fnd 180 3 = some (3, .iconst 1, 1, 0, 0, 0, 0) := ceB_eq (by decide +kernel)
theorem f_180_4 : fnd 180 4 = some (4, .iand, 1, 0, 0, 0, 0) := ceB_eq (by decide +kernel)
theorem f_180_5 : fnd 180 5 = some (5, .iconst 1, 1, 0, 0, 0, 0) := ceB_eq (by decide +kernel)
theorem f_180_6 : fnd 180 6 = some (6, .if_icmp .ne 7, 3, 0, 0, 0, 0) := ceB_eq (by decide +kernel)
theorem f_180_9 : fnd 180 9 = some (9, .iconst 1, 1, 0, 0, 0, 0) := ceB_eq (by decide +kernel)
theorem f_180_10 : fnd 180 10 = some (10, .goto 4, 3, 0, 0, 0, 0) := ceB_eq (by decide +kernel)
theorem f_180_13 : fnd 180 13 = some (13, .iconst 0, 1, 0, 0, 0, 0) := ceB_eq (by decide +kernel)
theorem f_180_14 : fnd 180 14 = some (14, .ireturn, 1, 0, 0, 0, 0) := ceB_eq (by decide +kernel)
theorem rk_180 : rkm 180 = 1 := by decide +kernel
theorem ml_180 : (mth 180).2.1 = 2 := by decide +kernel
set_option maxRecDepth 100000 in
theorem T_Z_has (x1 x2 : Int) (σ : ST) (Q : Option AV → ST → Prop) (h :
  ((((i_and (i_shr x1 x2) 1) ≠ 1 : Prop) →
    ((0 : Int) = 0 ∨ (0 : Int) = 1) ∧ Q (some (.inl 0)) σ) ∧
  (¬ ((i_and (i_shr x1 x2) 1) ≠ 1) →
    ((1 : Int) = 0 ∨ (1 : Int) = 1) ∧ Q (some (.inl 1)) σ))) :
  wpM m_Z_has [.inl x1, .inl x2] σ Q :=
 wpM_of ml_180 (L := [some (.inl x1), some (.inl x2)]) rfl
 (w_iload_n (p' := 1) f_180_0 rfl rfl
 (w_iload_n (p' := 2) f_180_1 rfl rfl
 (w_ishr (p' := 3) f_180_2 rfl
 (w_iconst (p' := 4) f_180_3 rfl
 (w_iand (p' := 5) f_180_4 rfl
 (w_iconst (p' := 6) f_180_5 rfl
 (w_icmp (p' := 13) (q' := 9) f_180_6 rfl rfl
 (fun c101 => w_iconst (p' := 14) f_180_13 rfl
 (w_zret f_180_14 rk_180 (h.1 c101).1 (h.1 c101).2))
 (fun c101 => w_iconst (p' := 10) f_180_9 rfl
 (w_goto (p' := 14) f_180_10 rfl
 (w_zret f_180_14 rk_180 (h.2 c101).1 (h.2 c101).2))))))))))
/-! ClosedRoomsModel.bad()V -/
theorem f_181_0 : fnd 181 0 = some (0, .aload_n 0, 1, 0, 0, 0, 0) := ceB_eq (by decide +kernel)
theorem f_181_1 : fnd 181 1 = some (1, .aload_n 0, 1, 0, 0, 0, 0) := ceB_eq (by decide +kernel)
theorem f_181_2 : fnd 181 2 = some (2, .getfield 96, 3, 10, 4, 4, 0) := ceB_eq (by decide +kernel)
theorem f_181_5 : fnd 181 5 = some (5, .iconst (-1), 1, 0, 0, 0, 0) := ceB_eq (by decide +kernel)
theorem f_181_6 : fnd 181 6 = some (6, .if_icmp .ne 10, 3, 0, 0, 0, 0) := ceB_eq (by decide +kernel)
theorem f_181_9 : fnd 181 9 = some (9, .aload_n 0, 1, 0, 0, 0, 0) := ceB_eq (by decide +kernel)
theorem f_181_10 : fnd 181 10 = some (10, .getfield 65, 3, 10, 6, 6, 0) := ceB_eq (by decide +kernel)
theorem f_181_13 : fnd 181 13 = some (13, .goto 7, 3, 0, 0, 0, 0) := ceB_eq (by decide +kernel)
theorem f_181_16 : fnd 181 16 = some (16, .aload_n 0, 1, 0, 0, 0, 0) := ceB_eq (by decide +kernel)
theorem f_181_17 : fnd 181 17 = some (17, .getfield 96, 3, 10, 4, 4, 0) := ceB_eq (by decide +kernel)
theorem f_181_20 : fnd 181 20 = some (20, .putfield 96, 3, 10, 4, 4, 0) := ceB_eq (by decide +kernel)
theorem f_181_23 : fnd 181 23 = some (23, .return_, 1, 0, 0, 0, 0) := ceB_eq (by decide +kernel)
theorem rk_181 : rkm 181 = 4 := by decide +kernel
theorem ml_181 : (mth 181).2.1 = 1 := by decide +kernel
set_option maxRecDepth 100000 in
theorem T_Z_bad (k0 i0 : Int) (σ : ST) (Q : Option AV → ST → Prop) (h :
  ((((σ 40 k0 i0 4) ≠ (-1) : Prop) →
    Q none (up σ 40 k0 i0 4 (σ 40 k0 i0 4))) ∧
  (¬ ((σ 40 k0 i0 4) ≠ (-1)) →
    Q none (up σ 40 k0 i0 4 (σ 40 k0 i0 6))))) :
  wpM m_Z_bad [.inr (.inr (40, k0, i0))] σ Q :=
 wpM_of ml_181 (L := [some (.inr (.inr (40, k0, i0)))]) rfl
 (w_aload_n (p' := 1) f_181_0 rfl rfl
 (w_aload_n (p' := 2) f_181_1 rfl rfl
 (w_getfield (p' := 5) f_181_2 rfl (x := .inl (σ 40 k0 i0 4)) rfl rfl
 (w_iconst (p' := 6) f_181_5 rfl
 (w_icmp (p' := 16) (q' := 9) f_181_6 rfl rfl
 (fun c101 => w_aload_n (p' := 17) f_181_16 rfl rfl
 (w_getfield (p' := 20) f_181_17 rfl (x := .inl (σ 40 k0 i0 4)) rfl rfl
 (w_putI (p' := 23) f_181_20 rfl rfl (c' := 4) rfl rfl
 (w_vret f_181_23 rk_181 (h.1 c101)))))
 (fun c101 => w_aload_n (p' := 10) f_181_9 rfl rfl
 (w_getfield (p' := 13) f_181_10 rfl (x := .inl (σ 40 k0 i0 6)) rfl rfl
 (w_goto (p' := 20) f_181_13 rfl
 (w_putI (p' := 23) f_181_20 rfl rfl (c' := 4) rfl rfl
 (w_vret f_181_23 rk_181 (h.2 c101)))))))))))
/-! ClosedRoomsModel.lowest(I)I -/
theorem f_182_0 : fnd 182 0 = some (0, .iload_n 0, 1, 0, 0, 0, 0) := ceB_eq (by decide +kernel)
theorem f_182_1 : fnd 182 1 = some (1, .ifCond .ne 7, 3, 0, 0, 0, 0) := ceB_eq (by decide +kernel)
theorem f_182_4 : fnd 182 4 = some (4, .iconst 3, 1, 0, 0, 0, 0) := ceB_eq (by decide +kernel)
theorem f_182_5 : fnd 182 5 = some (5, .goto 4, 3, 0, 0, 0, 0) := ceB_eq (by decide +kernel)
theorem f_182_8 : fnd 182 8 = some (8, .iconst 1, 1, 0, 0, 0, 0) := ceB_eq (by decide +kernel)
theorem f_182_9 : fnd 182 9 = some (9, .ireturn, 1, 0, 0, 0, 0) := ceB_eq (by decide +kernel)
theorem rk_182 : rkm 182 = 0 := by decide +kernel
theorem ml_182 : (mth 182).2.1 = 1 := by decide +kernel
set_option maxRecDepth 100000 in
theorem T_Z_lowest (x1 : Int) (σ : ST) (Q : Option AV → ST → Prop) (h :
  (((x1 ≠ 0 : Prop) →
    Q (some (.inl 1)) σ) ∧
  (¬ (x1 ≠ 0) →
    Q (some (.inl 3)) σ))) :
  wpM m_Z_lowest [.inl x1] σ Q :=
 wpM_of ml_182 (L := [some (.inl x1)]) rfl
 (w_iload_n (p' := 1) f_182_0 rfl rfl
 (w_if (p' := 8) (q' := 4) f_182_1 rfl rfl
 (fun c101 => w_iconst (p' := 9) f_182_8 rfl
 (w_iret f_182_9 rk_182 (h.1 c101)))
 (fun c101 => w_iconst (p' := 5) f_182_4 rfl
 (w_goto (p' := 9) f_182_5 rfl
 (w_iret f_182_9 rk_182 (h.2 c101))))))
/-! ClosedRoomsModel.highest(I)I -/
theorem f_183_0 : fnd 183 0 = some (0, .iload_n 0, 1, 0, 0, 0, 0) := ceB_eq (by decide +kernel)
theorem f_183_1 : fnd 183 1 = some (1, .ifCond .ne 8, 3, 0, 0, 0, 0) := ceB_eq (by decide +kernel)
theorem f_183_4 : fnd 183 4 = some (4, .bipush 10, 2, 0, 0, 0, 0) := ceB_eq (by decide +kernel)
theorem f_183_6 : fnd 183 6 = some (6, .goto 24, 3, 0, 0, 0, 0) := ceB_eq (by decide +kernel)
theorem f_183_9 : fnd 183 9 = some (9, .iload_n 0, 1, 0, 0, 0, 0) := ceB_eq (by decide +kernel)
theorem f_183_10 : fnd 183 10 = some (10, .iconst 1, 1, 0, 0, 0, 0) := ceB_eq (by decide +kernel)
theorem f_183_11 : fnd 183 11 = some (11, .if_icmp .ne 7, 3, 0, 0, 0, 0) := ceB_eq (by decide +kernel)
theorem f_183_14 : fnd 183 14 = some (14, .iconst 3, 1, 0, 0, 0, 0) := ceB_eq (by decide +kernel)
theorem f_183_15 : fnd 183 15 = some (15, .goto 15, 3, 0, 0, 0, 0) := ceB_eq (by decide +kernel)
theorem f_183_18 : fnd 183 18 = some (18, .iload_n 0, 1, 0, 0, 0, 0) := ceB_eq (by decide +kernel)
theorem f_183_19 : fnd 183 19 = some (19, .iconst 2, 1, 0, 0, 0, 0) := ceB_eq (by decide +kernel)
theorem f_183_20 : fnd 183 20 = some (20, .if_icmp .ne 7, 3, 0, 0, 0, 0) := ceB_eq (by decide +kernel)
theorem f_183_23 : fnd 183 23 = some (23, .iconst 3, 1, 0, 0, 0, 0) := ceB_eq (by decide +kernel)
theorem f_183_24 : fnd 183 24 = some (24, .goto 6, 3, 0, 0, 0, 0) := ceB_eq (by decide +kernel)
theorem f_183_27 : fnd 183 27 = some (27, .sipush 999, 3, 0, 0, 0, 0) := ceB_eq (by decide +kernel)
theorem f_183_30 : fnd 183 30 = some (30, .ireturn, 1, 0, 0, 0, 0) := ceB_eq (by decide +kernel)
theorem rk_183 : rkm 183 = 0 := by decide +kernel
theorem ml_183 : (mth 183).2.1 = 1 := by decide +kernel
set_option maxRecDepth 100000 in
theorem T_Z_highest (x1 : Int) (σ : ST) (Q : Option AV → ST → Prop) (h :
  (((x1 ≠ 0 : Prop) →
    (((x1 ≠ 1 : Prop) →
      (((x1 ≠ 2 : Prop) →
        Q (some (.inl 999)) σ) ∧
      (¬ (x1 ≠ 2) →
        Q (some (.inl 3)) σ))) ∧
    (¬ (x1 ≠ 1) →
      Q (some (.inl 3)) σ))) ∧
  (¬ (x1 ≠ 0) →
    Q (some (.inl 10)) σ))) :
  wpM m_Z_highest [.inl x1] σ Q :=
 wpM_of ml_183 (L := [some (.inl x1)]) rfl
 (w_iload_n (p' := 1) f_183_0 rfl rfl
 (w_if (p' := 9) (q' := 4) f_183_1 rfl rfl
 (fun c103 => w_iload_n (p' := 10) f_183_9 rfl rfl
 (w_iconst (p' := 11) f_183_10 rfl
 (w_icmp (p' := 18) (q' := 14) f_183_11 rfl rfl
 (fun c102 => w_iload_n (p' := 19) f_183_18 rfl rfl
 (w_iconst (p' := 20) f_183_19 rfl
 (w_icmp (p' := 27) (q' := 23) f_183_20 rfl rfl
 (fun c101 => w_sipush (p' := 30) f_183_27 rfl
 (w_iret f_183_30 rk_183 (((h.1 c103).1 c102).1 c101)))
 (fun c101 => w_iconst (p' := 24) f_183_23 rfl
 (w_goto (p' := 30) f_183_24 rfl
 (w_iret f_183_30 rk_183 (((h.1 c103).1 c102).2 c101)))))))
 (fun c102 => w_iconst (p' := 15) f_183_14 rfl
 (w_goto (p' := 30) f_183_15 rfl
 (w_iret f_183_30 rk_183 ((h.1 c103).2 c102)))))))
 (fun c103 => w_bipush (p' := 6) f_183_4 rfl
 (w_goto (p' := 30) f_183_6 rfl
 (w_iret f_183_30 rk_183 (h.2 c103))))))
/-! ClosedRoomsModel.number(II)I -/
theorem f_184_0 : fnd 184 0 = some (0, .aload_n 0, 1, 0, 0, 0, 0) := ceB_eq (by decide +kernel)
theorem f_184_1 : fnd 184 1 = some (1, .invokevirtual 159, 3, 175, 1, 10, 0) := ceB_eq (by decide +kernel)
theorem f_184_4 : fnd 184 4 = some (4, .aload_n 0, 1, 0, 0, 0, 0) := ceB_eq (by decide +kernel)
theorem f_184_5 : fnd 184 5 = some (5, .getfield 68, 3, 10, 5, 5, 0) := ceB_eq (by decide +kernel)
theorem f_184_8 : fnd 184 8 = some (8, .iconst 2, 1, 0, 0, 0, 0) := ceB_eq (by decide +kernel)
theorem f_184_9 : fnd 184 9 = some (9, .if_icmp .ne 15, 3, 0, 0, 0, 0) := ceB_eq (by decide +kernel)
theorem f_184_12 : fnd 184 12 = some (12, .aload_n 0, 1, 0, 0, 0, 0) := ceB_eq (by decide +kernel)
theorem f_184_13 : fnd 184 13 = some (13, .getfield 86, 3, 10, 7, 7, 0) := ceB_eq (by decide +kernel)
theorem f_184_16 : fnd 184 16 = some (16, .iload_n 1, 1, 0, 0, 0, 0) := ceB_eq (by decide +kernel)
theorem f_184_17 : fnd 184 17 = some (17, .iload_n 2, 1, 0, 0, 0, 0) := ceB_eq (by decide +kernel)
theorem f_184_18 : fnd 184 18 = some (18, .invokestatic 54, 3, 168, 3, 10, 0) := ceB_eq (by decide +kernel)
theorem f_184_21 : fnd 184 21 = some (21, .ifCond .ne 9, 3, 0, 0, 0, 0) := ceB_eq (by decide +kernel)
theorem f_184_24 : fnd 184 24 = some (24, .aload_n 0, 1, 0, 0, 0, 0) := ceB_eq (by decide +kernel)
theorem f_184_25 : fnd 184 25 = some (25, .invokevirtual 162, 3, 181, 1, 10, 0) := ceB_eq (by decide +kernel)
theorem f_184_28 : fnd 184 28 = some (28, .iload_n 1, 1, 0, 0, 0, 0) := ceB_eq (by decide +kernel)
theorem f_184_29 : fnd 184 29 = some (29, .ireturn, 1, 0, 0, 0, 0) := ceB_eq (by decide +kernel)
theorem f_184_30 : fnd 184 30 = some (30, .aload_n 0, 1, 0, 0, 0, 0) := ceB_eq (by decide +kernel)
theorem f_184_31 : fnd 184 31 = some (31, .getfield 86, 3, 10, 7, 7, 0) := ceB_eq (by decide +kernel)
theorem f_184_34 : fnd 184 34 = some (34, .istore_n 3, 1, 0, 0, 0, 0) := ceB_eq (by decide +kernel)
theorem f_184_35 : fnd 184 35 = some (35, .aload_n 0, 1, 0, 0, 0, 0) := ceB_eq (by decide +kernel)
theorem f_184_36 : fnd 184 36 = some (36, .invokevirtual 159, 3, 175, 1, 10, 0) := ceB_eq (by decide +kernel)
theorem f_184_39 : fnd 184 39 = some (39, .iload_n 3, 1, 0, 0, 0, 0) := ceB_eq (by decide +kernel)
theorem f_184_40 : fnd 184 40 = some (40, .ireturn, 1, 0, 0, 0, 0) := ceB_eq (by decide +kernel)
theorem rk_184 : rkm 184 = 0 := by decide +kernel
theorem ml_184 : (mth 184).2.1 = 4 := by decide +kernel
set_option maxRecDepth 100000 in
theorem T_Z_number (k0 i0 x1 x2 : Int) (σ : ST) (Q : Option AV → ST → Prop) (h :
  wpM m_Z_next [.inr (.inr (40, k0, i0))] σ (asV fun s101 =>
  ((((s101 40 k0 i0 5) ≠ 2 : Prop) →
    wpM m_Z_bad [.inr (.inr (40, k0, i0))] s101 (asV fun s102 =>
    Q (some (.inl x1)) s102)) ∧
  (¬ ((s101 40 k0 i0 5) ≠ 2) →
    wpM m_Z_in [.inl (s101 40 k0 i0 7), .inl x1, .inl x2] s101 (asI fun r103 s103 =>
    (((r103 ≠ 0 : Prop) →
      wpM m_Z_next [.inr (.inr (40, k0, i0))] s103 (asV fun s104 =>
      Q (some (.inl (s103 40 k0 i0 7))) s104)) ∧
    (¬ (r103 ≠ 0) →
      wpM m_Z_bad [.inr (.inr (40, k0, i0))] s103 (asV fun s105 =>
      Q (some (.inl x1)) s105)))))))) :
  wpM m_Z_number [.inr (.inr (40, k0, i0)), .inl x1, .inl x2] σ Q :=
 wpM_of ml_184 (L := [some (.inr (.inr (40, k0, i0))), some (.inl x1), some (.inl x2), none]) rfl
 (w_aload_n (p' := 1) f_184_0 rfl rfl
 (w_callV (p' := 4) f_184_1 rfl rfl rfl rfl rfl (r := []) rfl rfl (kV rk_175 fun s101 h101 =>
 w_aload_n (p' := 5) f_184_4 rfl rfl
 (w_getfield (p' := 8) f_184_5 rfl (x := .inl (s101 40 k0 i0 5)) rfl rfl
 (w_iconst (p' := 9) f_184_8 rfl
 (w_icmp (p' := 24) (q' := 12) f_184_9 rfl rfl
 (fun c107 => w_aload_n (p' := 25) f_184_24 rfl rfl
 (w_callV (p' := 28) f_184_25 rfl rfl rfl rfl rfl (r := []) rfl rfl (kV rk_181 fun s102 h102 =>
 w_iload_n (p' := 29) f_184_28 rfl rfl
 (w_iret f_184_29 rk_184 h102)) (h101.1 c107)))
 (fun c107 => w_aload_n (p' := 13) f_184_12 rfl rfl
 (w_getfield (p' := 16) f_184_13 rfl (x := .inl (s101 40 k0 i0 7)) rfl rfl
 (w_iload_n (p' := 17) f_184_16 rfl rfl
 (w_iload_n (p' := 18) f_184_17 rfl rfl
 (w_callS (p' := 21) f_184_18 rfl rfl rfl (r := []) rfl rfl (kI (.inr rk_168) fun r103 s103 h103 =>
 w_if (p' := 30) (q' := 24) f_184_21 rfl rfl
 (fun c106 => w_aload_n (p' := 31) f_184_30 rfl rfl
 (w_getfield (p' := 34) f_184_31 rfl (x := .inl (s103 40 k0 i0 7)) rfl rfl
 (w_istore_n (p' := 35) f_184_34 (L' := [some (.inr (.inr (40, k0, i0))), some (.inl x1), some (.inl x2), some (.inl (s103 40 k0 i0 7))]) rfl rfl
 (w_aload_n (p' := 36) f_184_35 rfl rfl
 (w_callV (p' := 39) f_184_36 rfl rfl rfl rfl rfl (r := []) rfl rfl (kV rk_175 fun s104 h104 =>
 w_iload_n (p' := 40) f_184_39 rfl rfl
 (w_iret f_184_40 rk_184 h104)) (h103.1 c106))))))
 (fun c106 => w_aload_n (p' := 25) f_184_24 rfl rfl
 (w_callV (p' := 28) f_184_25 rfl rfl rfl rfl rfl (r := []) rfl rfl (kV rk_181 fun s105 h105 =>
 w_iload_n (p' := 29) f_184_28 rfl rfl
 (w_iret f_184_29 rk_184 h105)) (h103.2 c106)))) (h101.2 c107)))))))))) h))
/-! ClosedRoomsModel.readMachine()I -/
theorem f_185_0 : fnd 185 0 = some (0, .aload_n 0, 1, 0, 0, 0, 0) := ceB_eq (by decide +kernel)
theorem f_185_1 : fnd 185 1 = some (1, .iconst 0, 1, 0, 0, 0, 0) := ceB_eq (by decide +kernel)
theorem f_185_2 : fnd 185 2 = some (2, .putfield 58, 3, 10, 3, 3, 0) := ceB_eq (by decide +kernel)
theorem f_185_5 : fnd 185 5 = some (5, .aload_n 0, 1, 0, 0, 0, 0) := ceB_eq (by decide +kernel)
theorem f_185_6 : fnd 185 6 = some (6, .iconst (-1), 1, 0, 0, 0, 0) := ceB_eq (by decide +kernel)
theorem f_185_7 : fnd 185 7 = some (7, .putfield 96, 3, 10, 4, 4, 0) := ceB_eq (by decide +kernel)
theorem f_185_10 : fnd 185 10 = some (10, .iconst 0, 1, 0, 0, 0, 0) := ceB_eq (by decide +kernel)
theorem f_185_11 : fnd 185 11 = some (11, .istore_n 1, 1, 0, 0, 0, 0) := ceB_eq (by decide +kernel)
theorem f_185_12 : fnd 185 12 = some (12, .iload_n 1, 1, 0, 0, 0, 0) := ceB_eq (by decide +kernel)
theorem f_185_13 : fnd 185 13 = some (13, .iconst 4, 1, 0, 0, 0, 0) := ceB_eq (by decide +kernel)
theorem f_185_14 : fnd 185 14 = some (14, .if_icmp .ge 19, 3, 0, 0, 0, 0) := ceB_eq (by decide +kernel)
theorem f_185_17 : fnd 185 17 = some (17, .aload_n 0, 1, 0, 0, 0, 0) := ceB_eq (by decide +kernel)
theorem f_185_18 : fnd 185 18 = some (18, .getfield 13, 3, 10, 9, 9, 0) := ceB_eq (by decide +kernel)
theorem f_185_21 : fnd 185 21 = some (21, .iload_n 1, 1, 0, 0, 0, 0) := ceB_eq (by decide +kernel)
theorem f_185_22 : fnd 185 22 = some (22, .iload_n 1, 1, 0, 0, 0, 0) := ceB_eq (by decide +kernel)
theorem f_185_23 : fnd 185 23 = some (23, .invokestatic 165, 3, 170, 1, 10, 0) := ceB_eq (by decide +kernel)
theorem f_185_26 : fnd 185 26 = some (26, .iastore, 1, 0, 0, 0, 0) := ceB_eq (by decide +kernel)
theorem f_185_27 : fnd 185 27 = some (27, .iinc 1 1, 3, 0, 0, 0, 0) := ceB_eq (by decide +kernel)
theorem f_185_30 : fnd 185 30 = some (30, .goto (-18), 3, 0, 0, 0, 0) := ceB_eq (by decide +kernel)
theorem f_185_33 : fnd 185 33 = some (33, .iconst 0, 1, 0, 0, 0, 0) := ceB_eq (by decide +kernel)
theorem f_185_34 : fnd 185 34 = some (34, .istore_n 1, 1, 0, 0, 0, 0) := ceB_eq (by decide +kernel)
theorem f_185_35 : fnd 185 35 = some (35, .iconst 1, 1, 0, 0, 0, 0) := ceB_eq (by decide +kernel)
theorem f_185_36 : fnd 185 36 = some (36, .istore_n 2, 1, 0, 0, 0, 0) := ceB_eq (by decide +kernel)
theorem f_185_37 : fnd 185 37 = some (37, .iload_n 2, 1, 0, 0, 0, 0) := ceB_eq (by decide +kernel)
theorem f_185_38 : fnd 185 38 = some (38, .ifCond .eq 82, 3, 0, 0, 0, 0) := ceB_eq (by decide +kernel)
theorem f_185_41 : fnd 185 41 = some (41, .aload_n 0, 1, 0, 0, 0, 0) := ceB_eq (by decide +kernel)
theorem f_185_42 : fnd 185 42 = some (42, .invokevirtual 159, 3, 175, 1, 10, 0) := ceB_eq (by decide +kernel)
theorem f_185_45 : fnd 185 45 = some (45, .aload_n 0, 1, 0, 0, 0, 0) := ceB_eq (by decide +kernel)
theorem f_185_46 : fnd 185 46 = some (46, .iconst 0, 1, 0, 0, 0, 0) := ceB_eq (by decide +kernel)
theorem f_185_47 : fnd 185 47 = some (47, .invokevirtual 169, 3, 179, 2, 10, 0) := ceB_eq (by decide +kernel)
theorem f_185_50 : fnd 185 50 = some (50, .istore_n 3, 1, 0, 0, 0, 0) := ceB_eq (by decide +kernel)
theorem f_185_51 : fnd 185 51 = some (51, .iload_n 3, 1, 0, 0, 0, 0) := ceB_eq (by decide +kernel)
theorem f_185_52 : fnd 185 52 = some (52, .iconst (-1), 1, 0, 0, 0, 0) := ceB_eq (by decide +kernel)
theorem f_185_53 : fnd 185 53 = some (53, .if_icmp .eq 11, 3, 0, 0, 0, 0) := ceB_eq (by decide +kernel)
theorem f_185_56 : fnd 185 56 = some (56, .iload_n 1, 1, 0, 0, 0, 0) := ceB_eq (by decide +kernel)
theorem f_185_57 : fnd 185 57 = some (57, .iload_n 3, 1, 0, 0, 0, 0) := ceB_eq (by decide +kernel)
theorem f_185_58 : fnd 185 58 = some (58, .invokestatic 173, 3, 180, 2, 10, 0) := ceB_eq (by decide +kernel)
theorem f_185_61 : fnd 185 61 = some (61, .ifCond .eq 10, 3, 0, 0, 0, 0) := ceB_eq (by decide +kernel)
theorem f_185_64 : fnd 185 64 = some (64, .aload_n 0, 1, 0, 0, 0, 0) := ceB_eq (by decide +kernel)
theorem f_185_65 : fnd 185 65 = some (65, .invokevirtual 162, 3, 181, 1, 10, 0) := ceB_eq (by decide +kernel)
theorem f_185_68 : fnd 185 68 = some (68, .goto 27, 3, 0, 0, 0, 0) := ceB_eq (by decide +kernel)
theorem f_185_71 : fnd 185 71 = some (71, .iload_n 1, 1, 0, 0, 0, 0) := ceB_eq (by decide +kernel)
theorem f_185_72 : fnd 185 72 = some (72, .iconst 1, 1, 0, 0, 0, 0) := ceB_eq (by decide +kernel)
theorem f_185_73 : fnd 185 73 = some (73, .iload_n 3, 1, 0, 0, 0, 0) := ceB_eq (by decide +kernel)
theorem f_185_74 : fnd 185 74 = some (74, .ishl, 1, 0, 0, 0, 0) := ceB_eq (by decide +kernel)
theorem f_185_75 : fnd 185 75 = some (75, .ior, 1, 0, 0, 0, 0) := ceB_eq (by decide +kernel)
theorem f_185_76 : fnd 185 76 = some (76, .istore_n 1, 1, 0, 0, 0, 0) := ceB_eq (by decide +kernel)
theorem f_185_77 : fnd 185 77 = some (77, .aload_n 0, 1, 0, 0, 0, 0) := ceB_eq (by decide +kernel)
theorem f_185_78 : fnd 185 78 = some (78, .getfield 13, 3, 10, 9, 9, 0) := ceB_eq (by decide +kernel)
theorem f_185_81 : fnd 185 81 = some (81, .iload_n 3, 1, 0, 0, 0, 0) := ceB_eq (by decide +kernel)
theorem f_185_82 : fnd 185 82 = some (82, .aload_n 0, 1, 0, 0, 0, 0) := ceB_eq (by decide +kernel)
theorem f_185_83 : fnd 185 83 = some (83, .iload_n 3, 1, 0, 0, 0, 0) := ceB_eq (by decide +kernel)
theorem f_185_84 : fnd 185 84 = some (84, .invokestatic 177, 3, 182, 1, 10, 0) := ceB_eq (by decide +kernel)
theorem f_185_87 : fnd 185 87 = some (87, .iload_n 3, 1, 0, 0, 0, 0) := ceB_eq (by decide +kernel)
theorem f_185_88 : fnd 185 88 = some (88, .invokestatic 180, 3, 183, 1, 10, 0) := ceB_eq (by decide +kernel)
theorem f_185_91 : fnd 185 91 = some (91, .invokevirtual 183, 3, 184, 3, 10, 0) := ceB_eq (by decide +kernel)
theorem f_185_94 : fnd 185 94 = some (94, .iastore, 1, 0, 0, 0, 0) := ceB_eq (by decide +kernel)
theorem f_185_95 : fnd 185 95 = some (95, .aload_n 0, 1, 0, 0, 0, 0) := ceB_eq (by decide +kernel)
theorem f_185_96 : fnd 185 96 = some (96, .getfield 96, 3, 10, 4, 4, 0) := ceB_eq (by decide +kernel)
theorem f_185_99 : fnd 185 99 = some (99, .iconst (-1), 1, 0, 0, 0, 0) := ceB_eq (by decide +kernel)
theorem f_185_100 : fnd 185 100 = some (100, .if_icmp .ne 15, 3, 0, 0, 0, 0) := ceB_eq (by decide +kernel)
theorem f_185_103 : fnd 185 103 = some (103, .aload_n 0, 1, 0, 0, 0, 0) := ceB_eq (by decide +kernel)
theorem f_185_104 : fnd 185 104 = some (104, .getfield 68, 3, 10, 5, 5, 0) := ceB_eq (by decide +kernel)
theorem f_185_107 : fnd 185 107 = some (107, .iconst 3, 1, 0, 0, 0, 0) := ceB_eq (by decide +kernel)
theorem f_185_108 : fnd 185 108 = some (108, .if_icmp .ne 7, 3, 0, 0, 0, 0) := ceB_eq (by decide +kernel)
theorem f_185_111 : fnd 185 111 = some (111, .iconst 1, 1, 0, 0, 0, 0) := ceB_eq (by decide +kernel)
theorem f_185_112 : fnd 185 112 = some (112, .goto 4, 3, 0, 0, 0, 0) := ceB_eq (by decide +kernel)
theorem f_185_115 : fnd 185 115 = some (115, .iconst 0, 1, 0, 0, 0, 0) := ceB_eq (by decide +kernel)
theorem f_185_116 : fnd 185 116 = some (116, .istore_n 2, 1, 0, 0, 0, 0) := ceB_eq (by decide +kernel)
theorem f_185_117 : fnd 185 117 = some (117, .goto (-80), 3, 0, 0, 0, 0) := ceB_eq (by decide +kernel)
theorem f_185_120 : fnd 185 120 = some (120, .aload_n 0, 1, 0, 0, 0, 0) := ceB_eq (by decide +kernel)
theorem f_185_121 : fnd 185 121 = some (121, .getfield 96, 3, 10, 4, 4, 0) := ceB_eq (by decide +kernel)
theorem f_185_124 : fnd 185 124 = some (124, .iconst (-1), 1, 0, 0, 0, 0) := ceB_eq (by decide +kernel)
theorem f_185_125 : fnd 185 125 = some (125, .if_icmp .ne 14, 3, 0, 0, 0, 0) := ceB_eq (by decide +kernel)
theorem f_185_128 : fnd 185 128 = some (128, .aload_n 0, 1, 0, 0, 0, 0) := ceB_eq (by decide +kernel)
theorem f_185_129 : fnd 185 129 = some (129, .getfield 68, 3, 10, 5, 5, 0) := ceB_eq (by decide +kernel)
theorem f_185_132 : fnd 185 132 = some (132, .ifCond .eq 7, 3, 0, 0, 0, 0) := ceB_eq (by decide +kernel)
theorem f_185_135 : fnd 185 135 = some (135, .aload_n 0, 1, 0, 0, 0, 0) := ceB_eq (by decide +kernel)
theorem f_185_136 : fnd 185 136 = some (136, .invokevirtual 162, 3, 181, 1, 10, 0) := ceB_eq (by decide +kernel)
theorem f_185_139 : fnd 185 139 = some (139, .aload_n 0, 1, 0, 0, 0, 0) := ceB_eq (by decide +kernel)
theorem f_185_140 : fnd 185 140 = some (140, .getfield 96, 3, 10, 4, 4, 0) := ceB_eq (by decide +kernel)
theorem f_185_143 : fnd 185 143 = some (143, .ireturn, 1, 0, 0, 0, 0) := ceB_eq (by decide +kernel)
theorem rk_185 : rkm 185 = 0 := by decide +kernel
theorem ml_185 : (mth 185).2.1 = 4 := by decide +kernel
set_option maxRecDepth 100000 in
theorem T_Z_readMachine (k0 i0 : Int) (σ : ST) (Q : Option AV → ST → Prop) (h :
  wp m_Z_readMachine (12, [some (.inr (.inr (40, k0, i0))), some (.inl 0), none, none], [], (up (up σ 40 k0 i0 3 0) 40 k0 i0 4 (-1))) Q) :
  wpM m_Z_readMachine [.inr (.inr (40, k0, i0))] σ Q :=
 wpM_of ml_185 (L := [some (.inr (.inr (40, k0, i0))), none, none, none]) rfl
 (w_aload_n (p' := 1) f_185_0 rfl rfl
 (w_iconst (p' := 2) f_185_1 rfl
 (w_putI (p' := 5) f_185_2 rfl rfl (c' := 3) rfl rfl
 (w_aload_n (p' := 6) f_185_5 rfl rfl
 (w_iconst (p' := 7) f_185_6 rfl
 (w_putI (p' := 10) f_185_7 rfl rfl (c' := 4) rfl rfl
 (w_iconst (p' := 11) f_185_10 rfl
 (w_istore_n (p' := 12) f_185_11 (L' := [some (.inr (.inr (40, k0, i0))), some (.inl 0), none, none]) rfl rfl
 (h)))))))))
set_option maxRecDepth 100000 in
theorem T_Z_readMachine_12 (k0 i0 x1 : Int) (o2 o3 : Option AV) (σ : ST) (Q : Option AV → ST → Prop) (h :
  (((4 ≤ x1 : Prop) →
    wp m_Z_readMachine (37, [some (.inr (.inr (40, k0, i0))), some (.inl 0), some (.inl 1), o3], [], σ) Q) ∧
  (¬ (4 ≤ x1) →
    wpM m_Z_usual [.inl x1] σ (asI fun r101 s101 =>
    ((0 : Int) ≤ x1 ∧ (x1 : Int) < 4) ∧
    wp m_Z_readMachine (12, [some (.inr (.inr (40, k0, i0))), some (.inl (wr (x1 + 1))), o2, o3], [], (up s101 42 0 0 x1 r101)) Q)))) :
  wp m_Z_readMachine (12, [some (.inr (.inr (40, k0, i0))), some (.inl x1), o2, o3], [], σ) Q :=
 w_iload_n (p' := 13) f_185_12 rfl rfl
 (w_iconst (p' := 14) f_185_13 rfl
 (w_icmp (p' := 33) (q' := 17) f_185_14 rfl rfl
 (fun c102 => w_iconst (p' := 34) f_185_33 rfl
 (w_istore_n (p' := 35) f_185_34 (L' := [some (.inr (.inr (40, k0, i0))), some (.inl 0), o2, o3]) rfl rfl
 (w_iconst (p' := 36) f_185_35 rfl
 (w_istore_n (p' := 37) f_185_36 (L' := [some (.inr (.inr (40, k0, i0))), some (.inl 0), some (.inl 1), o3]) rfl rfl
 ((h.1 c102))))))
 (fun c102 => w_aload_n (p' := 18) f_185_17 rfl rfl
 (w_getfield (p' := 21) f_185_18 rfl (x := .inr (.inr (42, 0, 0))) rfl rfl
 (w_iload_n (p' := 22) f_185_21 rfl rfl
 (w_iload_n (p' := 23) f_185_22 rfl rfl
 (w_callS (p' := 26) f_185_23 rfl rfl rfl (r := [.inl x1, .inr (.inr (42, 0, 0))]) rfl rfl (kI (.inl rk_170) fun r101 s101 h101 =>
 w_iastore (p' := 27) f_185_26 rfl (n := 4) rfl h101.1 rfl
 (w_iinc (p' := 30) f_185_27 rfl (L' := [some (.inr (.inr (40, k0, i0))), some (.inl (wr (x1 + 1))), o2, o3]) rfl rfl
 (w_goto (p' := 12) f_185_30 rfl
 (h101.2)))) (h.2 c102))))))))
set_option maxRecDepth 100000 in
theorem T_Z_readMachine_37 (k0 i0 x1 x2 : Int) (o3 : Option AV) (σ : ST) (Q : Option AV → ST → Prop) (h :
  (((x2 = 0 : Prop) →
    ((((σ 40 k0 i0 4) ≠ (-1) : Prop) →
      Q (some (.inl (σ 40 k0 i0 4))) σ) ∧
    (¬ ((σ 40 k0 i0 4) ≠ (-1)) →
      ((((σ 40 k0 i0 5) = 0 : Prop) →
        Q (some (.inl (σ 40 k0 i0 4))) σ) ∧
      (¬ ((σ 40 k0 i0 5) = 0) →
        wpM m_Z_bad [.inr (.inr (40, k0, i0))] σ (asV fun s101 =>
        Q (some (.inl (s101 40 k0 i0 4))) s101)))))) ∧
  (¬ (x2 = 0) →
    wpM m_Z_next [.inr (.inr (40, k0, i0))] σ (asV fun s104 =>
    wpM m_Z_wordHere [.inr (.inr (40, k0, i0)), .inl 0] s104 (asI fun r105 s105 =>
    (((r105 = (-1) : Prop) →
      wpM m_Z_bad [.inr (.inr (40, k0, i0))] s105 (asV fun s106 =>
      wp m_Z_readMachine (95, [some (.inr (.inr (40, k0, i0))), some (.inl x1), some (.inl x2), some (.inl r105)], [], s106) Q)) ∧
    (¬ (r105 = (-1)) →
      wpM m_Z_has [.inl x1, .inl r105] s105 (asI fun r107 s107 =>
      (((r107 = 0 : Prop) →
        wpM m_Z_lowest [.inl r105] s107 (asI fun r108 s108 =>
        wpM m_Z_highest [.inl r105] s108 (asI fun r109 s109 =>
        wpM m_Z_number [.inr (.inr (40, k0, i0)), .inl r108, .inl r109] s109 (asI fun r110 s110 =>
        ((0 : Int) ≤ r105 ∧ (r105 : Int) < 4) ∧
        wp m_Z_readMachine (95, [some (.inr (.inr (40, k0, i0))), some (.inl (i_or x1 (i_shl 1 r105))), some (.inl x2), some (.inl r105)], [], (up s110 42 0 0 r105 r110)) Q)))) ∧
      (¬ (r107 = 0) →
        wpM m_Z_bad [.inr (.inr (40, k0, i0))] s107 (asV fun s111 =>
        wp m_Z_readMachine (95, [some (.inr (.inr (40, k0, i0))), some (.inl x1), some (.inl x2), some (.inl r105)], [], s111) Q))))))))))) :
  wp m_Z_readMachine (37, [some (.inr (.inr (40, k0, i0))), some (.inl x1), some (.inl x2), o3], [], σ) Q :=
 w_iload_n (p' := 38) f_185_37 rfl rfl
 (w_if (p' := 120) (q' := 41) f_185_38 rfl rfl
 (fun c114 => w_aload_n (p' := 121) f_185_120 rfl rfl
 (w_getfield (p' := 124) f_185_121 rfl (x := .inl (σ 40 k0 i0 4)) rfl rfl
 (w_iconst (p' := 125) f_185_124 rfl
 (w_icmp (p' := 139) (q' := 128) f_185_125 rfl rfl
 (fun c103 => w_aload_n (p' := 140) f_185_139 rfl rfl
 (w_getfield (p' := 143) f_185_140 rfl (x := .inl (σ 40 k0 i0 4)) rfl rfl
 (w_iret f_185_143 rk_185 ((h.1 c114).1 c103))))
 (fun c103 => w_aload_n (p' := 129) f_185_128 rfl rfl
 (w_getfield (p' := 132) f_185_129 rfl (x := .inl (σ 40 k0 i0 5)) rfl rfl
 (w_if (p' := 139) (q' := 135) f_185_132 rfl rfl
 (fun c102 => w_aload_n (p' := 140) f_185_139 rfl rfl
 (w_getfield (p' := 143) f_185_140 rfl (x := .inl (σ 40 k0 i0 4)) rfl rfl
 (w_iret f_185_143 rk_185 (((h.1 c114).2 c103).1 c102))))
 (fun c102 => w_aload_n (p' := 136) f_185_135 rfl rfl
 (w_callV (p' := 139) f_185_136 rfl rfl rfl rfl rfl (r := []) rfl rfl (kV rk_181 fun s101 h101 =>
 w_aload_n (p' := 140) f_185_139 rfl rfl
 (w_getfield (p' := 143) f_185_140 rfl (x := .inl (s101 40 k0 i0 4)) rfl rfl
 (w_iret f_185_143 rk_185 h101))) (((h.1 c114).2 c103).2 c102))))))))))
 (fun c114 => w_aload_n (p' := 42) f_185_41 rfl rfl
 (w_callV (p' := 45) f_185_42 rfl rfl rfl rfl rfl (r := []) rfl rfl (kV rk_175 fun s104 h104 =>
 w_aload_n (p' := 46) f_185_45 rfl rfl
 (w_iconst (p' := 47) f_185_46 rfl
 (w_callV (p' := 50) f_185_47 rfl rfl rfl rfl rfl (r := []) rfl rfl (kI (.inl rk_179) fun r105 s105 h105 =>
 w_istore_n (p' := 51) f_185_50 (L' := [some (.inr (.inr (40, k0, i0))), some (.inl x1), some (.inl x2), some (.inl r105)]) rfl rfl
 (w_iload_n (p' := 52) f_185_51 rfl rfl
 (w_iconst (p' := 53) f_185_52 rfl
 (w_icmp (p' := 64) (q' := 56) f_185_53 rfl rfl
 (fun c113 => w_aload_n (p' := 65) f_185_64 rfl rfl
 (w_callV (p' := 68) f_185_65 rfl rfl rfl rfl rfl (r := []) rfl rfl (kV rk_181 fun s106 h106 =>
 w_goto (p' := 95) f_185_68 rfl
 (h106)) (h105.1 c113)))
 (fun c113 => w_iload_n (p' := 57) f_185_56 rfl rfl
 (w_iload_n (p' := 58) f_185_57 rfl rfl
 (w_callS (p' := 61) f_185_58 rfl rfl rfl (r := []) rfl rfl (kI (.inr rk_180) fun r107 s107 h107 =>
 w_if (p' := 71) (q' := 64) f_185_61 rfl rfl
 (fun c112 => w_iload_n (p' := 72) f_185_71 rfl rfl
 (w_iconst (p' := 73) f_185_72 rfl
 (w_iload_n (p' := 74) f_185_73 rfl rfl
 (w_ishl (p' := 75) f_185_74 rfl
 (w_ior (p' := 76) f_185_75 rfl
 (w_istore_n (p' := 77) f_185_76 (L' := [some (.inr (.inr (40, k0, i0))), some (.inl (i_or x1 (i_shl 1 r105))), some (.inl x2), some (.inl r105)]) rfl rfl
 (w_aload_n (p' := 78) f_185_77 rfl rfl
 (w_getfield (p' := 81) f_185_78 rfl (x := .inr (.inr (42, 0, 0))) rfl rfl
 (w_iload_n (p' := 82) f_185_81 rfl rfl
 (w_aload_n (p' := 83) f_185_82 rfl rfl
 (w_iload_n (p' := 84) f_185_83 rfl rfl
 (w_callS (p' := 87) f_185_84 rfl rfl rfl (r := [.inr (.inr (40, k0, i0)), .inl r105, .inr (.inr (42, 0, 0))]) rfl rfl (kI (.inl rk_182) fun r108 s108 h108 =>
 w_iload_n (p' := 88) f_185_87 rfl rfl
 (w_callS (p' := 91) f_185_88 rfl rfl rfl (r := [.inl r108, .inr (.inr (40, k0, i0)), .inl r105, .inr (.inr (42, 0, 0))]) rfl rfl (kI (.inl rk_183) fun r109 s109 h109 =>
 w_callV (p' := 94) f_185_91 rfl rfl rfl rfl rfl (r := [.inl r105, .inr (.inr (42, 0, 0))]) rfl rfl (kI (.inl rk_184) fun r110 s110 h110 =>
 w_iastore (p' := 95) f_185_94 rfl (n := 4) rfl h110.1 rfl
 (h110.2)) h109) h108)) (h107.1 c112)))))))))))))
 (fun c112 => w_aload_n (p' := 65) f_185_64 rfl rfl
 (w_callV (p' := 68) f_185_65 rfl rfl rfl rfl rfl (r := []) rfl rfl (kV rk_181 fun s111 h111 =>
 w_goto (p' := 95) f_185_68 rfl
 (h111)) (h107.2 c112)))) (h105.2 c113)))))))) h104))) (h.2 c114))))
set_option maxRecDepth 100000 in
theorem T_Z_readMachine_95 (k0 i0 x1 : Int) (o2 o3 : Option AV) (σ : ST) (Q : Option AV → ST → Prop) (h :
  ((((σ 40 k0 i0 4) ≠ (-1) : Prop) →
    wp m_Z_readMachine (37, [some (.inr (.inr (40, k0, i0))), some (.inl x1), some (.inl 0), o3], [], σ) Q) ∧
  (¬ ((σ 40 k0 i0 4) ≠ (-1)) →
    ((((σ 40 k0 i0 5) ≠ 3 : Prop) →
      wp m_Z_readMachine (37, [some (.inr (.inr (40, k0, i0))), some (.inl x1), some (.inl 0), o3], [], σ) Q) ∧
    (¬ ((σ 40 k0 i0 5) ≠ 3) →
      wp m_Z_readMachine (37, [some (.inr (.inr (40, k0, i0))), some (.inl x1), some (.inl 1), o3], [], σ) Q))))) :
  wp m_Z_readMachine (95, [some (.inr (.inr (40, k0, i0))), some (.inl x1), o2, o3], [], σ) Q :=
 w_aload_n (p' := 96) f_185_95 rfl rfl
 (w_getfield (p' := 99) f_185_96 rfl (x := .inl (σ 40 k0 i0 4)) rfl rfl
 (w_iconst (p' := 100) f_185_99 rfl
 (w_icmp (p' := 115) (q' := 103) f_185_100 rfl rfl
 (fun c102 => w_iconst (p' := 116) f_185_115 rfl
 (w_istore_n (p' := 117) f_185_116 (L' := [some (.inr (.inr (40, k0, i0))), some (.inl x1), some (.inl 0), o3]) rfl rfl
 (w_goto (p' := 37) f_185_117 rfl
 ((h.1 c102)))))
 (fun c102 => w_aload_n (p' := 104) f_185_103 rfl rfl
 (w_getfield (p' := 107) f_185_104 rfl (x := .inl (σ 40 k0 i0 5)) rfl rfl
 (w_iconst (p' := 108) f_185_107 rfl
 (w_icmp (p' := 115) (q' := 111) f_185_108 rfl rfl
 (fun c101 => w_iconst (p' := 116) f_185_115 rfl
 (w_istore_n (p' := 117) f_185_116 (L' := [some (.inr (.inr (40, k0, i0))), some (.inl x1), some (.inl 0), o3]) rfl rfl
 (w_goto (p' := 37) f_185_117 rfl
 (((h.2 c102).1 c101)))))
 (fun c101 => w_iconst (p' := 112) f_185_111 rfl
 (w_goto (p' := 116) f_185_112 rfl
 (w_istore_n (p' := 117) f_185_116 (L' := [some (.inr (.inr (40, k0, i0))), some (.inl x1), some (.inl 1), o3]) rfl rfl
 (w_goto (p' := 37) f_185_117 rfl
 (((h.2 c102).2 c101)))))))))))))
/-! ClosedRoomsModel.manyOf(I)I -/
theorem f_186_0 : fnd 186 0 = some (0, .iload_n 0, 1, 0, 0, 0, 0) := ceB_eq (by decide +kernel)
theorem f_186_1 : fnd 186 1 = some (1, .tableswitch 83 1 15 #[75, 77, 79, 83, 81, 83, 83, 81, 81, 83, 83, 81, 81, 83, 81], 75, 0, 0, 0, 0) := ceB_eq (by decide +kernel)
theorem f_186_76 : fnd 186 76 = some (76, .iconst 0, 1, 0, 0, 0, 0) := ceB_eq (by decide +kernel)
theorem f_186_77 : fnd 186 77 = some (77, .ireturn, 1, 0, 0, 0, 0) := ceB_eq (by decide +kernel)
theorem f_186_78 : fnd 186 78 = some (78, .iconst 5, 1, 0, 0, 0, 0) := ceB_eq (by decide +kernel)
theorem f_186_79 : fnd 186 79 = some (79, .ireturn, 1, 0, 0, 0, 0) := ceB_eq (by decide +kernel)
theorem f_186_80 : fnd 186 80 = some (80, .iconst 2, 1, 0, 0, 0, 0) := ceB_eq (by decide +kernel)
theorem f_186_81 : fnd 186 81 = some (81, .ireturn, 1, 0, 0, 0, 0) := ceB_eq (by decide +kernel)
theorem f_186_82 : fnd 186 82 = some (82, .iconst 3, 1, 0, 0, 0, 0) := ceB_eq (by decide +kernel)
theorem f_186_83 : fnd 186 83 = some (83, .ireturn, 1, 0, 0, 0, 0) := ceB_eq (by decide +kernel)
theorem f_186_84 : fnd 186 84 = some (84, .iconst 1, 1, 0, 0, 0, 0) := ceB_eq (by decide +kernel)
theorem f_186_85 : fnd 186 85 = some (85, .ireturn, 1, 0, 0, 0, 0) := ceB_eq (by decide +kernel)
theorem rk_186 : rkm 186 = 0 := by decide +kernel
theorem ml_186 : (mth 186).2.1 = 1 := by decide +kernel
set_option maxRecDepth 100000 in
theorem T_Z_manyOf (x1 : Int) (σ : ST) (Q : Option AV → ST → Prop) (h :
  ((x1 = 1 →
    Q (some (.inl 0)) σ) ∧ (x1 ≠ 1 →
  ((x1 = 2 →
    Q (some (.inl 5)) σ) ∧ (x1 ≠ 2 →
  ((x1 = 3 →
    Q (some (.inl 2)) σ) ∧ (x1 ≠ 3 →
  ((x1 = 4 →
    Q (some (.inl 1)) σ) ∧ (x1 ≠ 4 →
  ((x1 = 5 →
    Q (some (.inl 3)) σ) ∧ (x1 ≠ 5 →
  ((x1 = 6 →
    Q (some (.inl 1)) σ) ∧ (x1 ≠ 6 →
  ((x1 = 7 →
    Q (some (.inl 1)) σ) ∧ (x1 ≠ 7 →
  ((x1 = 8 →
    Q (some (.inl 3)) σ) ∧ (x1 ≠ 8 →
  ((x1 = 9 →
    Q (some (.inl 3)) σ) ∧ (x1 ≠ 9 →
  ((x1 = 10 →
    Q (some (.inl 1)) σ) ∧ (x1 ≠ 10 →
  ((x1 = 11 →
    Q (some (.inl 1)) σ) ∧ (x1 ≠ 11 →
  ((x1 = 12 →
    Q (some (.inl 3)) σ) ∧ (x1 ≠ 12 →
  ((x1 = 13 →
    Q (some (.inl 3)) σ) ∧ (x1 ≠ 13 →
  ((x1 = 14 →
    Q (some (.inl 1)) σ) ∧ (x1 ≠ 14 →
  ((x1 = 15 →
    Q (some (.inl 3)) σ) ∧ (x1 ≠ 15 →
    Q (some (.inl 1)) σ))))))))))))))))))))))))))))))) :
  wpM m_Z_manyOf [.inl x1] σ Q :=
 wpM_of ml_186 (L := [some (.inl x1)]) rfl
 (w_iload_n (p' := 1) f_186_0 rfl rfl
 (w_switch f_186_1 (cs := [(1, 76), (2, 78), (3, 80), (4, 84), (5, 82), (6, 84), (7, 84), (8, 82), (9, 82), (10, 84), (11, 84), (12, 82), (13, 82), (14, 84), (15, 82)]) rfl (d' := 84) rfl
 (⟨fun c101 => w_iconst (p' := 77) f_186_76 rfl
 (w_iret f_186_77 rk_186 (h.1 c101)), fun c101_0 =>
 ⟨fun c101 => w_iconst (p' := 79) f_186_78 rfl
 (w_iret f_186_79 rk_186 ((h.2 c101_0).1 c101)), fun c101_1 =>
 ⟨fun c101 => w_iconst (p' := 81) f_186_80 rfl
 (w_iret f_186_81 rk_186 (((h.2 c101_0).2 c101_1).1 c101)), fun c101_2 =>
 ⟨fun c101 => w_iconst (p' := 85) f_186_84 rfl
 (w_iret f_186_85 rk_186 ((((h.2 c101_0).2 c101_1).2 c101_2).1 c101)), fun c101_3 =>
 ⟨fun c101 => w_iconst (p' := 83) f_186_82 rfl
 (w_iret f_186_83 rk_186 (((((h.2 c101_0).2 c101_1).2 c101_2).2 c101_3).1 c101)), fun c101_4 =>
 ⟨fun c101 => w_iconst (p' := 85) f_186_84 rfl
 (w_iret f_186_85 rk_186 ((((((h.2 c101_0).2 c101_1).2 c101_2).2 c101_3).2 c101_4).1 c101)), fun c101_5 =>
 ⟨fun c101 => w_iconst (p' := 85) f_186_84 rfl
 (w_iret f_186_85 rk_186 (((((((h.2 c101_0).2 c101_1).2 c101_2).2 c101_3).2 c101_4).2 c101_5).1 c101)), fun c101_6 =>
 ⟨fun c101 => w_iconst (p' := 83) f_186_82 rfl
 (w_iret f_186_83 rk_186 ((((((((h.2 c101_0).2 c101_1).2 c101_2).2 c101_3).2 c101_4).2 c101_5).2 c101_6).1 c101)), fun c101_7 =>
 ⟨fun c101 => w_iconst (p' := 83) f_186_82 rfl
 (w_iret f_186_83 rk_186 (((((((((h.2 c101_0).2 c101_1).2 c101_2).2 c101_3).2 c101_4).2 c101_5).2 c101_6).2 c101_7).1 c101)), fun c101_8 =>
 ⟨fun c101 => w_iconst (p' := 85) f_186_84 rfl
 (w_iret f_186_85 rk_186 ((((((((((h.2 c101_0).2 c101_1).2 c101_2).2 c101_3).2 c101_4).2 c101_5).2 c101_6).2 c101_7).2 c101_8).1 c101)), fun c101_9 =>
 ⟨fun c101 => w_iconst (p' := 85) f_186_84 rfl
 (w_iret f_186_85 rk_186 (((((((((((h.2 c101_0).2 c101_1).2 c101_2).2 c101_3).2 c101_4).2 c101_5).2 c101_6).2 c101_7).2 c101_8).2 c101_9).1 c101)), fun c101_10 =>
 ⟨fun c101 => w_iconst (p' := 83) f_186_82 rfl
 (w_iret f_186_83 rk_186 ((((((((((((h.2 c101_0).2 c101_1).2 c101_2).2 c101_3).2 c101_4).2 c101_5).2 c101_6).2 c101_7).2 c101_8).2 c101_9).2 c101_10).1 c101)), fun c101_11 =>
 ⟨fun c101 => w_iconst (p' := 83) f_186_82 rfl
 (w_iret f_186_83 rk_186 (((((((((((((h.2 c101_0).2 c101_1).2 c101_2).2 c101_3).2 c101_4).2 c101_5).2 c101_6).2 c101_7).2 c101_8).2 c101_9).2 c101_10).2 c101_11).1 c101)), fun c101_12 =>
 ⟨fun c101 => w_iconst (p' := 85) f_186_84 rfl
 (w_iret f_186_85 rk_186 ((((((((((((((h.2 c101_0).2 c101_1).2 c101_2).2 c101_3).2 c101_4).2 c101_5).2 c101_6).2 c101_7).2 c101_8).2 c101_9).2 c101_10).2 c101_11).2 c101_12).1 c101)), fun c101_13 =>
 ⟨fun c101 => w_iconst (p' := 83) f_186_82 rfl
 (w_iret f_186_83 rk_186 (((((((((((((((h.2 c101_0).2 c101_1).2 c101_2).2 c101_3).2 c101_4).2 c101_5).2 c101_6).2 c101_7).2 c101_8).2 c101_9).2 c101_10).2 c101_11).2 c101_12).2 c101_13).1 c101)), fun c101_14 =>
 w_iconst (p' := 85) f_186_84 rfl
 (w_iret f_186_85 rk_186 (((((((((((((((h.2 c101_0).2 c101_1).2 c101_2).2 c101_3).2 c101_4).2 c101_5).2 c101_6).2 c101_7).2 c101_8).2 c101_9).2 c101_10).2 c101_11).2 c101_12).2 c101_13).2 c101_14))⟩⟩⟩⟩⟩⟩⟩⟩⟩⟩⟩⟩⟩⟩⟩)))
/-! ClosedRoomsModel.readStep(I)V -/
theorem f_187_0 : fnd 187 0 = some (0, .aload_n 0, 1, 0, 0, 0, 0) := ceB_eq (by decide +kernel)
theorem f_187_1 : fnd 187 1 = some (1, .invokevirtual 159, 3, 175, 1, 10, 0) := ceB_eq (by decide +kernel)
theorem f_187_4 : fnd 187 4 = some (4, .aload_n 0, 1, 0, 0, 0, 0) := ceB_eq (by decide +kernel)
theorem f_187_5 : fnd 187 5 = some (5, .iconst 1, 1, 0, 0, 0, 0) := ceB_eq (by decide +kernel)
theorem f_187_6 : fnd 187 6 = some (6, .invokevirtual 169, 3, 179, 2, 10, 0) := ceB_eq (by decide +kernel)
theorem f_187_9 : fnd 187 9 = some (9, .istore_n 2, 1, 0, 0, 0, 0) := ceB_eq (by decide +kernel)
theorem f_187_10 : fnd 187 10 = some (10, .iload_n 2, 1, 0, 0, 0, 0) := ceB_eq (by decide +kernel)
theorem f_187_11 : fnd 187 11 = some (11, .iconst (-1), 1, 0, 0, 0, 0) := ceB_eq (by decide +kernel)
theorem f_187_12 : fnd 187 12 = some (12, .if_icmp .ne 8, 3, 0, 0, 0, 0) := ceB_eq (by decide +kernel)
theorem f_187_15 : fnd 187 15 = some (15, .aload_n 0, 1, 0, 0, 0, 0) := ceB_eq (by decide +kernel)
theorem f_187_16 : fnd 187 16 = some (16, .invokevirtual 162, 3, 181, 1, 10, 0) := ceB_eq (by decide +kernel)
theorem f_187_19 : fnd 187 19 = some (19, .return_, 1, 0, 0, 0, 0) := ceB_eq (by decide +kernel)
theorem f_187_20 : fnd 187 20 = some (20, .aload_n 0, 1, 0, 0, 0, 0) := ceB_eq (by decide +kernel)
theorem f_187_21 : fnd 187 21 = some (21, .getfield 19, 3, 10, 12, 12, 0) := ceB_eq (by decide +kernel)
theorem f_187_24 : fnd 187 24 = some (24, .iload_n 1, 1, 0, 0, 0, 0) := ceB_eq (by decide +kernel)
theorem f_187_25 : fnd 187 25 = some (25, .iload_n 2, 1, 0, 0, 0, 0) := ceB_eq (by decide +kernel)
theorem f_187_26 : fnd 187 26 = some (26, .iastore, 1, 0, 0, 0, 0) := ceB_eq (by decide +kernel)
theorem f_187_27 : fnd 187 27 = some (27, .iconst 1, 1, 0, 0, 0, 0) := ceB_eq (by decide +kernel)
theorem f_187_28 : fnd 187 28 = some (28, .istore_n 3, 1, 0, 0, 0, 0) := ceB_eq (by decide +kernel)
theorem f_187_29 : fnd 187 29 = some (29, .iload_n 3, 1, 0, 0, 0, 0) := ceB_eq (by decide +kernel)
theorem f_187_30 : fnd 187 30 = some (30, .bipush 6, 2, 0, 0, 0, 0) := ceB_eq (by decide +kernel)
theorem f_187_32 : fnd 187 32 = some (32, .if_icmp .ge 18, 3, 0, 0, 0, 0) := ceB_eq (by decide +kernel)
theorem f_187_35 : fnd 187 35 = some (35, .aload_n 0, 1, 0, 0, 0, 0) := ceB_eq (by decide +kernel)
theorem f_187_36 : fnd 187 36 = some (36, .getfield 19, 3, 10, 12, 12, 0) := ceB_eq (by decide +kernel)
theorem f_187_39 : fnd 187 39 = some (39, .iload_n 1, 1, 0, 0, 0, 0) := ceB_eq (by decide +kernel)
theorem f_187_40 : fnd 187 40 = some (40, .iload_n 3, 1, 0, 0, 0, 0) := ceB_eq (by decide +kernel)
theorem f_187_41 : fnd 187 41 = some (41, .iadd, 1, 0, 0, 0, 0) := ceB_eq (by decide +kernel)
theorem f_187_42 : fnd 187 42 = some (42, .iconst (-1), 1, 0, 0, 0, 0) := ceB_eq (by decide +kernel)
theorem f_187_43 : fnd 187 43 = some (43, .iastore, 1, 0, 0, 0, 0) := ceB_eq (by decide +kernel)
theorem f_187_44 : fnd 187 44 = some (44, .iinc 3 1, 3, 0, 0, 0, 0) := ceB_eq (by decide +kernel)
theorem f_187_47 : fnd 187 47 = some (47, .goto (-18), 3, 0, 0, 0, 0) := ceB_eq (by decide +kernel)
theorem f_187_50 : fnd 187 50 = some (50, .iload_n 2, 1, 0, 0, 0, 0) := ceB_eq (by decide +kernel)
theorem f_187_51 : fnd 187 51 = some (51, .invokestatic 186, 3, 186, 1, 10, 0) := ceB_eq (by decide +kernel)
theorem f_187_54 : fnd 187 54 = some (54, .ifCond .ne 7, 3, 0, 0, 0, 0) := ceB_eq (by decide +kernel)
theorem f_187_57 : fnd 187 57 = some (57, .aload_n 0, 1, 0, 0, 0, 0) := ceB_eq (by decide +kernel)
theorem f_187_58 : fnd 187 58 = some (58, .invokevirtual 159, 3, 175, 1, 10, 0) := ceB_eq (by decide +kernel)
theorem f_187_61 : fnd 187 61 = some (61, .iconst 0, 1, 0, 0, 0, 0) := ceB_eq (by decide +kernel)
theorem f_187_62 : fnd 187 62 = some (62, .istore_n 3, 1, 0, 0, 0, 0) := ceB_eq (by decide +kernel)
theorem f_187_63 : fnd 187 63 = some (63, .iload_n 3, 1, 0, 0, 0, 0) := ceB_eq (by decide +kernel)
theorem f_187_64 : fnd 187 64 = some (64, .iload_n 2, 1, 0, 0, 0, 0) := ceB_eq (by decide +kernel)
theorem f_187_65 : fnd 187 65 = some (65, .invokestatic 186, 3, 186, 1, 10, 0) := ceB_eq (by decide +kernel)
theorem f_187_68 : fnd 187 68 = some (68, .if_icmp .ge 54, 3, 0, 0, 0, 0) := ceB_eq (by decide +kernel)
theorem f_187_71 : fnd 187 71 = some (71, .aload_n 0, 1, 0, 0, 0, 0) := ceB_eq (by decide +kernel)
theorem f_187_72 : fnd 187 72 = some (72, .getfield 96, 3, 10, 4, 4, 0) := ceB_eq (by decide +kernel)
theorem f_187_75 : fnd 187 75 = some (75, .iconst (-1), 1, 0, 0, 0, 0) := ceB_eq (by decide +kernel)
theorem f_187_76 : fnd 187 76 = some (76, .if_icmp .ne 46, 3, 0, 0, 0, 0) := ceB_eq (by decide +kernel)
theorem f_187_79 : fnd 187 79 = some (79, .iload_n 3, 1, 0, 0, 0, 0) := ceB_eq (by decide +kernel)
theorem f_187_80 : fnd 187 80 = some (80, .ifCond .le 18, 3, 0, 0, 0, 0) := ceB_eq (by decide +kernel)
theorem f_187_83 : fnd 187 83 = some (83, .aload_n 0, 1, 0, 0, 0, 0) := ceB_eq (by decide +kernel)
theorem f_187_84 : fnd 187 84 = some (84, .getfield 68, 3, 10, 5, 5, 0) := ceB_eq (by decide +kernel)
theorem f_187_87 : fnd 187 87 = some (87, .iconst 4, 1, 0, 0, 0, 0) := ceB_eq (by decide +kernel)
theorem f_187_88 : fnd 187 88 = some (88, .if_icmp .eq 10, 3, 0, 0, 0, 0) := ceB_eq (by decide +kernel)
theorem f_187_91 : fnd 187 91 = some (91, .aload_n 0, 1, 0, 0, 0, 0) := ceB_eq (by decide +kernel)
theorem f_187_92 : fnd 187 92 = some (92, .invokevirtual 162, 3, 181, 1, 10, 0) := ceB_eq (by decide +kernel)
theorem f_187_95 : fnd 187 95 = some (95, .goto 21, 3, 0, 0, 0, 0) := ceB_eq (by decide +kernel)
theorem f_187_98 : fnd 187 98 = some (98, .aload_n 0, 1, 0, 0, 0, 0) := ceB_eq (by decide +kernel)
theorem f_187_99 : fnd 187 99 = some (99, .getfield 19, 3, 10, 12, 12, 0) := ceB_eq (by decide +kernel)
theorem f_187_102 : fnd 187 102 = some (102, .iload_n 1, 1, 0, 0, 0, 0) := ceB_eq (by decide +kernel)
theorem f_187_103 : fnd 187 103 = some (103, .iconst 1, 1, 0, 0, 0, 0) := ceB_eq (by decide +kernel)
theorem f_187_104 : fnd 187 104 = some (104, .iadd, 1, 0, 0, 0, 0) := ceB_eq (by decide +kernel)
theorem f_187_105 : fnd 187 105 = some (105, .iload_n 3, 1, 0, 0, 0, 0) := ceB_eq (by decide +kernel)
theorem f_187_106 : fnd 187 106 = some (106, .iadd, 1, 0, 0, 0, 0) := ceB_eq (by decide +kernel)
theorem f_187_107 : fnd 187 107 = some (107, .aload_n 0, 1, 0, 0, 0, 0) := ceB_eq (by decide +kernel)
theorem f_187_108 : fnd 187 108 = some (108, .iconst 0, 1, 0, 0, 0, 0) := ceB_eq (by decide +kernel)
theorem f_187_109 : fnd 187 109 = some (109, .sipush 999, 3, 0, 0, 0, 0) := ceB_eq (by decide +kernel)
theorem f_187_112 : fnd 187 112 = some (112, .invokevirtual 183, 3, 184, 3, 10, 0) := ceB_eq (by decide +kernel)
theorem f_187_115 : fnd 187 115 = some (115, .iastore, 1, 0, 0, 0, 0) := ceB_eq (by decide +kernel)
theorem f_187_116 : fnd 187 116 = some (116, .iinc 3 1, 3, 0, 0, 0, 0) := ceB_eq (by decide +kernel)
theorem f_187_119 : fnd 187 119 = some (119, .goto (-56), 3, 0, 0, 0, 0) := ceB_eq (by decide +kernel)
theorem f_187_122 : fnd 187 122 = some (122, .return_, 1, 0, 0, 0, 0) := ceB_eq (by decide +kernel)
theorem rk_187 : rkm 187 = 4 := by decide +kernel
theorem ml_187 : (mth 187).2.1 = 4 := by decide +kernel
set_option maxRecDepth 100000 in
theorem T_Z_readStep (k0 i0 x1 : Int) (σ : ST) (Q : Option AV → ST → Prop) (h :
  wpM m_Z_next [.inr (.inr (40, k0, i0))] σ (asV fun s101 =>
  wpM m_Z_wordHere [.inr (.inr (40, k0, i0)), .inl 1] s101 (asI fun r102 s102 =>
  (((r102 ≠ (-1) : Prop) →
    ((0 : Int) ≤ x1 ∧ (x1 : Int) < 360) ∧
    wp m_Z_readStep (29, [some (.inr (.inr (40, k0, i0))), some (.inl x1), some (.inl r102), some (.inl 1)], [], (up s102 44 0 0 x1 r102)) Q) ∧
  (¬ (r102 ≠ (-1)) →
    wpM m_Z_bad [.inr (.inr (40, k0, i0))] s102 (asV fun s103 =>
    Q none s103)))))) :
  wpM m_Z_readStep [.inr (.inr (40, k0, i0)), .inl x1] σ Q :=
 wpM_of ml_187 (L := [some (.inr (.inr (40, k0, i0))), some (.inl x1), none, none]) rfl
 (w_aload_n (p' := 1) f_187_0 rfl rfl
 (w_callV (p' := 4) f_187_1 rfl rfl rfl rfl rfl (r := []) rfl rfl (kV rk_175 fun s101 h101 =>
 w_aload_n (p' := 5) f_187_4 rfl rfl
 (w_iconst (p' := 6) f_187_5 rfl
 (w_callV (p' := 9) f_187_6 rfl rfl rfl rfl rfl (r := []) rfl rfl (kI (.inl rk_179) fun r102 s102 h102 =>
 w_istore_n (p' := 10) f_187_9 (L' := [some (.inr (.inr (40, k0, i0))), some (.inl x1), some (.inl r102), none]) rfl rfl
 (w_iload_n (p' := 11) f_187_10 rfl rfl
 (w_iconst (p' := 12) f_187_11 rfl
 (w_icmp (p' := 20) (q' := 15) f_187_12 rfl rfl
 (fun c104 => w_aload_n (p' := 21) f_187_20 rfl rfl
 (w_getfield (p' := 24) f_187_21 rfl (x := .inr (.inr (44, 0, 0))) rfl rfl
 (w_iload_n (p' := 25) f_187_24 rfl rfl
 (w_iload_n (p' := 26) f_187_25 rfl rfl
 (w_iastore (p' := 27) f_187_26 rfl (n := 360) rfl (h102.1 c104).1 rfl
 (w_iconst (p' := 28) f_187_27 rfl
 (w_istore_n (p' := 29) f_187_28 (L' := [some (.inr (.inr (40, k0, i0))), some (.inl x1), some (.inl r102), some (.inl 1)]) rfl rfl
 ((h102.1 c104).2))))))))
 (fun c104 => w_aload_n (p' := 16) f_187_15 rfl rfl
 (w_callV (p' := 19) f_187_16 rfl rfl rfl rfl rfl (r := []) rfl rfl (kV rk_181 fun s103 h103 =>
 w_vret f_187_19 rk_187 h103) (h102.2 c104))))))) h101))) h))
set_option maxRecDepth 100000 in
theorem T_Z_readStep_29 (k0 i0 x1 x2 x3 : Int) (σ : ST) (Q : Option AV → ST → Prop) (h :
  (((6 ≤ x3 : Prop) →
    wpM m_Z_manyOf [.inl x2] σ (asI fun r101 s101 =>
    (((r101 ≠ 0 : Prop) →
      wp m_Z_readStep (63, [some (.inr (.inr (40, k0, i0))), some (.inl x1), some (.inl x2), some (.inl 0)], [], s101) Q) ∧
    (¬ (r101 ≠ 0) →
      wpM m_Z_next [.inr (.inr (40, k0, i0))] s101 (asV fun s102 =>
      wp m_Z_readStep (63, [some (.inr (.inr (40, k0, i0))), some (.inl x1), some (.inl x2), some (.inl 0)], [], s102) Q))))) ∧
  (¬ (6 ≤ x3) →
    ((0 : Int) ≤ (wr (x1 + x3)) ∧ ((wr (x1 + x3)) : Int) < 360) ∧
    wp m_Z_readStep (29, [some (.inr (.inr (40, k0, i0))), some (.inl x1), some (.inl x2), some (.inl (wr (x3 + 1)))], [], (up σ 44 0 0 (wr (x1 + x3)) (-1))) Q))) :
  wp m_Z_readStep (29, [some (.inr (.inr (40, k0, i0))), some (.inl x1), some (.inl x2), some (.inl x3)], [], σ) Q :=
 w_iload_n (p' := 30) f_187_29 rfl rfl
 (w_bipush (p' := 32) f_187_30 rfl
 (w_icmp (p' := 50) (q' := 35) f_187_32 rfl rfl
 (fun c104 => w_iload_n (p' := 51) f_187_50 rfl rfl
 (w_callS (p' := 54) f_187_51 rfl rfl rfl (r := []) rfl rfl (kI (.inl rk_186) fun r101 s101 h101 =>
 w_if (p' := 61) (q' := 57) f_187_54 rfl rfl
 (fun c103 => w_iconst (p' := 62) f_187_61 rfl
 (w_istore_n (p' := 63) f_187_62 (L' := [some (.inr (.inr (40, k0, i0))), some (.inl x1), some (.inl x2), some (.inl 0)]) rfl rfl
 ((h101.1 c103))))
 (fun c103 => w_aload_n (p' := 58) f_187_57 rfl rfl
 (w_callV (p' := 61) f_187_58 rfl rfl rfl rfl rfl (r := []) rfl rfl (kV rk_175 fun s102 h102 =>
 w_iconst (p' := 62) f_187_61 rfl
 (w_istore_n (p' := 63) f_187_62 (L' := [some (.inr (.inr (40, k0, i0))), some (.inl x1), some (.inl x2), some (.inl 0)]) rfl rfl
 (h102))) (h101.2 c103)))) (h.1 c104)))
 (fun c104 => w_aload_n (p' := 36) f_187_35 rfl rfl
 (w_getfield (p' := 39) f_187_36 rfl (x := .inr (.inr (44, 0, 0))) rfl rfl
 (w_iload_n (p' := 40) f_187_39 rfl rfl
 (w_iload_n (p' := 41) f_187_40 rfl rfl
 (w_iadd (p' := 42) f_187_41 rfl
 (w_iconst (p' := 43) f_187_42 rfl
 (w_iastore (p' := 44) f_187_43 rfl (n := 360) rfl (h.2 c104).1 rfl
 (w_iinc (p' := 47) f_187_44 rfl (L' := [some (.inr (.inr (40, k0, i0))), some (.inl x1), some (.inl x2), some (.inl (wr (x3 + 1)))]) rfl rfl
 (w_goto (p' := 29) f_187_47 rfl
 ((h.2 c104).2))))))))))))
set_option maxRecDepth 100000 in
theorem T_Z_readStep_63 (k0 i0 x1 x2 x3 : Int) (σ : ST) (Q : Option AV → ST → Prop) (h :
  wpM m_Z_manyOf [.inl x2] σ (asI fun r101 s101 =>
  (((r101 ≤ x3 : Prop) →
    Q none s101) ∧
  (¬ (r101 ≤ x3) →
    ((((s101 40 k0 i0 4) ≠ (-1) : Prop) →
      Q none s101) ∧
    (¬ ((s101 40 k0 i0 4) ≠ (-1)) →
      (((x3 ≤ 0 : Prop) →
        wp m_Z_readStep (98, [some (.inr (.inr (40, k0, i0))), some (.inl x1), some (.inl x2), some (.inl x3)], [], s101) Q) ∧
      (¬ (x3 ≤ 0) →
        ((((s101 40 k0 i0 5) = 4 : Prop) →
          wp m_Z_readStep (98, [some (.inr (.inr (40, k0, i0))), some (.inl x1), some (.inl x2), some (.inl x3)], [], s101) Q) ∧
        (¬ ((s101 40 k0 i0 5) = 4) →
          wpM m_Z_bad [.inr (.inr (40, k0, i0))] s101 (asV fun s102 =>
          wp m_Z_readStep (63, [some (.inr (.inr (40, k0, i0))), some (.inl x1), some (.inl x2), some (.inl (wr (x3 + 1)))], [], s102) Q))))))))))) :
  wp m_Z_readStep (63, [some (.inr (.inr (40, k0, i0))), some (.inl x1), some (.inl x2), some (.inl x3)], [], σ) Q :=
 w_iload_n (p' := 64) f_187_63 rfl rfl
 (w_iload_n (p' := 65) f_187_64 rfl rfl
 (w_callS (p' := 68) f_187_65 rfl rfl rfl (r := [.inl x3]) rfl rfl (kI (.inl rk_186) fun r101 s101 h101 =>
 w_icmp (p' := 122) (q' := 71) f_187_68 rfl rfl
 (fun c106 => w_vret f_187_122 rk_187 (h101.1 c106))
 (fun c106 => w_aload_n (p' := 72) f_187_71 rfl rfl
 (w_getfield (p' := 75) f_187_72 rfl (x := .inl (s101 40 k0 i0 4)) rfl rfl
 (w_iconst (p' := 76) f_187_75 rfl
 (w_icmp (p' := 122) (q' := 79) f_187_76 rfl rfl
 (fun c105 => w_vret f_187_122 rk_187 ((h101.2 c106).1 c105))
 (fun c105 => w_iload_n (p' := 80) f_187_79 rfl rfl
 (w_if (p' := 98) (q' := 83) f_187_80 rfl rfl
 (fun c104 => (((h101.2 c106).2 c105).1 c104))
 (fun c104 => w_aload_n (p' := 84) f_187_83 rfl rfl
 (w_getfield (p' := 87) f_187_84 rfl (x := .inl (s101 40 k0 i0 5)) rfl rfl
 (w_iconst (p' := 88) f_187_87 rfl
 (w_icmp (p' := 98) (q' := 91) f_187_88 rfl rfl
 (fun c103 => ((((h101.2 c106).2 c105).2 c104).1 c103))
 (fun c103 => w_aload_n (p' := 92) f_187_91 rfl rfl
 (w_callV (p' := 95) f_187_92 rfl rfl rfl rfl rfl (r := []) rfl rfl (kV rk_181 fun s102 h102 =>
 w_goto (p' := 116) f_187_95 rfl
 (w_iinc (p' := 119) f_187_116 rfl (L' := [some (.inr (.inr (40, k0, i0))), some (.inl x1), some (.inl x2), some (.inl (wr (x3 + 1)))]) rfl rfl
 (w_goto (p' := 63) f_187_119 rfl
 (h102)))) ((((h101.2 c106).2 c105).2 c104).2 c103)))))))))))))) h))
set_option maxRecDepth 100000 in
theorem T_Z_readStep_98 (k0 i0 x1 x2 x3 : Int) (σ : ST) (Q : Option AV → ST → Prop) (h :
  wpM m_Z_number [.inr (.inr (40, k0, i0)), .inl 0, .inl 999] σ (asI fun r101 s101 =>
  ((0 : Int) ≤ (wr ((wr (x1 + 1)) + x3)) ∧ ((wr ((wr (x1 + 1)) + x3)) : Int) < 360) ∧
  wp m_Z_readStep (63, [some (.inr (.inr (40, k0, i0))), some (.inl x1), some (.inl x2), some (.inl (wr (x3 + 1)))], [], (up s101 44 0 0 (wr ((wr (x1 + 1)) + x3)) r101)) Q)) :
  wp m_Z_readStep (98, [some (.inr (.inr (40, k0, i0))), some (.inl x1), some (.inl x2), some (.inl x3)], [], σ) Q :=
 w_aload_n (p' := 99) f_187_98 rfl rfl
 (w_getfield (p' := 102) f_187_99 rfl (x := .inr (.inr (44, 0, 0))) rfl rfl
 (w_iload_n (p' := 103) f_187_102 rfl rfl
 (w_iconst (p' := 104) f_187_103 rfl
 (w_iadd (p' := 105) f_187_104 rfl
 (w_iload_n (p' := 106) f_187_105 rfl rfl
 (w_iadd (p' := 107) f_187_106 rfl
 (w_aload_n (p' := 108) f_187_107 rfl rfl
 (w_iconst (p' := 109) f_187_108 rfl
 (w_sipush (p' := 112) f_187_109 rfl
 (w_callV (p' := 115) f_187_112 rfl rfl rfl rfl rfl (r := [.inl (wr ((wr (x1 + 1)) + x3)), .inr (.inr (44, 0, 0))]) rfl rfl (kI (.inl rk_184) fun r101 s101 h101 =>
 w_iastore (p' := 116) f_187_115 rfl (n := 360) rfl h101.1 rfl
 (w_iinc (p' := 119) f_187_116 rfl (L' := [some (.inr (.inr (40, k0, i0))), some (.inl x1), some (.inl x2), some (.inl (wr (x3 + 1)))]) rfl rfl
 (w_goto (p' := 63) f_187_119 rfl
 (h101.2)))) h))))))))))
/-! ClosedRoomsModel.readScript(I)I -/
theorem f_188_0 : fnd 188 0 = some (0, .aload_n 0, 1, 0, 0, 0, 0) := ceB_eq (by decide +kernel)
theorem f_188_1 : fnd 188 1 = some (1, .iconst 0, 1, 0, 0, 0, 0) := ceB_eq (by decide +kernel)
theorem f_188_2 : fnd 188 2 = some (2, .putfield 58, 3, 10, 3, 3, 0) := ceB_eq (by decide +kernel)
theorem f_188_5 : fnd 188 5 = some (5, .aload_n 0, 1, 0, 0, 0, 0) := ceB_eq (by decide +kernel)
theorem f_188_6 : fnd 188 6 = some (6, .iconst (-1), 1, 0, 0, 0, 0) := ceB_eq (by decide +kernel)
theorem f_188_7 : fnd 188 7 = some (7, .putfield 96, 3, 10, 4, 4, 0) := ceB_eq (by decide +kernel)
theorem f_188_10 : fnd 188 10 = some (10, .aload_n 0, 1, 0, 0, 0, 0) := ceB_eq (by decide +kernel)
theorem f_188_11 : fnd 188 11 = some (11, .getfield 22, 3, 10, 13, 13, 0) := ceB_eq (by decide +kernel)
theorem f_188_14 : fnd 188 14 = some (14, .iload_n 1, 1, 0, 0, 0, 0) := ceB_eq (by decide +kernel)
theorem f_188_15 : fnd 188 15 = some (15, .iconst 0, 1, 0, 0, 0, 0) := ceB_eq (by decide +kernel)
theorem f_188_16 : fnd 188 16 = some (16, .iastore, 1, 0, 0, 0, 0) := ceB_eq (by decide +kernel)
theorem f_188_17 : fnd 188 17 = some (17, .iconst 1, 1, 0, 0, 0, 0) := ceB_eq (by decide +kernel)
theorem f_188_18 : fnd 188 18 = some (18, .istore_n 2, 1, 0, 0, 0, 0) := ceB_eq (by decide +kernel)
theorem f_188_19 : fnd 188 19 = some (19, .iload_n 2, 1, 0, 0, 0, 0) := ceB_eq (by decide +kernel)
theorem f_188_20 : fnd 188 20 = some (20, .ifCond .eq 67, 3, 0, 0, 0, 0) := ceB_eq (by decide +kernel)
theorem f_188_23 : fnd 188 23 = some (23, .aload_n 0, 1, 0, 0, 0, 0) := ceB_eq (by decide +kernel)
theorem f_188_24 : fnd 188 24 = some (24, .bipush 6, 2, 0, 0, 0, 0) := ceB_eq (by decide +kernel)
theorem f_188_26 : fnd 188 26 = some (26, .bipush 12, 2, 0, 0, 0, 0) := ceB_eq (by decide +kernel)
theorem f_188_28 : fnd 188 28 = some (28, .iload_n 1, 1, 0, 0, 0, 0) := ceB_eq (by decide +kernel)
theorem f_188_29 : fnd 188 29 = some (29, .imul, 1, 0, 0, 0, 0) := ceB_eq (by decide +kernel)
theorem f_188_30 : fnd 188 30 = some (30, .aload_n 0, 1, 0, 0, 0, 0) := ceB_eq (by decide +kernel)
theorem f_188_31 : fnd 188 31 = some (31, .getfield 22, 3, 10, 13, 13, 0) := ceB_eq (by decide +kernel)
theorem f_188_34 : fnd 188 34 = some (34, .iload_n 1, 1, 0, 0, 0, 0) := ceB_eq (by decide +kernel)
theorem f_188_35 : fnd 188 35 = some (35, .iaload, 1, 0, 0, 0, 0) := ceB_eq (by decide +kernel)
theorem f_188_36 : fnd 188 36 = some (36, .iadd, 1, 0, 0, 0, 0) := ceB_eq (by decide +kernel)
theorem f_188_37 : fnd 188 37 = some (37, .imul, 1, 0, 0, 0, 0) := ceB_eq (by decide +kernel)
theorem f_188_38 : fnd 188 38 = some (38, .invokevirtual 189, 3, 187, 2, 10, 0) := ceB_eq (by decide +kernel)
theorem f_188_41 : fnd 188 41 = some (41, .aload_n 0, 1, 0, 0, 0, 0) := ceB_eq (by decide +kernel)
theorem f_188_42 : fnd 188 42 = some (42, .getfield 22, 3, 10, 13, 13, 0) := ceB_eq (by decide +kernel)
theorem f_188_45 : fnd 188 45 = some (45, .iload_n 1, 1, 0, 0, 0, 0) := ceB_eq (by decide +kernel)
theorem f_188_46 : fnd 188 46 = some (46, .dup2, 1, 0, 0, 0, 0) := ceB_eq (by decide +kernel)
theorem f_188_47 : fnd 188 47 = some (47, .iaload, 1, 0, 0, 0, 0) := ceB_eq (by decide +kernel)
theorem f_188_48 : fnd 188 48 = some (48, .iconst 1, 1, 0, 0, 0, 0) := ceB_eq (by decide +kernel)
theorem f_188_49 : fnd 188 49 = some (49, .iadd, 1, 0, 0, 0, 0) := ceB_eq (by decide +kernel)
theorem f_188_50 : fnd 188 50 = some (50, .iastore, 1, 0, 0, 0, 0) := ceB_eq (by decide +kernel)
theorem f_188_51 : fnd 188 51 = some (51, .aload_n 0, 1, 0, 0, 0, 0) := ceB_eq (by decide +kernel)
theorem f_188_52 : fnd 188 52 = some (52, .getfield 96, 3, 10, 4, 4, 0) := ceB_eq (by decide +kernel)
theorem f_188_55 : fnd 188 55 = some (55, .iconst (-1), 1, 0, 0, 0, 0) := ceB_eq (by decide +kernel)
theorem f_188_56 : fnd 188 56 = some (56, .if_icmp .ne 26, 3, 0, 0, 0, 0) := ceB_eq (by decide +kernel)
theorem f_188_59 : fnd 188 59 = some (59, .aload_n 0, 1, 0, 0, 0, 0) := ceB_eq (by decide +kernel)
theorem f_188_60 : fnd 188 60 = some (60, .getfield 68, 3, 10, 5, 5, 0) := ceB_eq (by decide +kernel)
theorem f_188_63 : fnd 188 63 = some (63, .iconst 3, 1, 0, 0, 0, 0) := ceB_eq (by decide +kernel)
theorem f_188_64 : fnd 188 64 = some (64, .if_icmp .ne 18, 3, 0, 0, 0, 0) := ceB_eq (by decide +kernel)
theorem f_188_67 : fnd 188 67 = some (67, .aload_n 0, 1, 0, 0, 0, 0) := ceB_eq (by decide +kernel)
theorem f_188_68 : fnd 188 68 = some (68, .getfield 22, 3, 10, 13, 13, 0) := ceB_eq (by decide +kernel)
theorem f_188_71 : fnd 188 71 = some (71, .iload_n 1, 1, 0, 0, 0, 0) := ceB_eq (by decide +kernel)
theorem f_188_72 : fnd 188 72 = some (72, .iaload, 1, 0, 0, 0, 0) := ceB_eq (by decide +kernel)
theorem f_188_73 : fnd 188 73 = some (73, .bipush 12, 2, 0, 0, 0, 0) := ceB_eq (by decide +kernel)
theorem f_188_75 : fnd 188 75 = some (75, .if_icmp .ge 7, 3, 0, 0, 0, 0) := ceB_eq (by decide +kernel)
theorem f_188_78 : fnd 188 78 = some (78, .iconst 1, 1, 0, 0, 0, 0) := ceB_eq (by decide +kernel)
theorem f_188_79 : fnd 188 79 = some (79, .goto 4, 3, 0, 0, 0, 0) := ceB_eq (by decide +kernel)
theorem f_188_82 : fnd 188 82 = some (82, .iconst 0, 1, 0, 0, 0, 0) := ceB_eq (by decide +kernel)
theorem f_188_83 : fnd 188 83 = some (83, .istore_n 2, 1, 0, 0, 0, 0) := ceB_eq (by decide +kernel)
theorem f_188_84 : fnd 188 84 = some (84, .goto (-65), 3, 0, 0, 0, 0) := ceB_eq (by decide +kernel)
theorem f_188_87 : fnd 188 87 = some (87, .aload_n 0, 1, 0, 0, 0, 0) := ceB_eq (by decide +kernel)
theorem f_188_88 : fnd 188 88 = some (88, .getfield 96, 3, 10, 4, 4, 0) := ceB_eq (by decide +kernel)
theorem f_188_91 : fnd 188 91 = some (91, .iconst (-1), 1, 0, 0, 0, 0) := ceB_eq (by decide +kernel)
theorem f_188_92 : fnd 188 92 = some (92, .if_icmp .ne 14, 3, 0, 0, 0, 0) := ceB_eq (by decide +kernel)
theorem f_188_95 : fnd 188 95 = some (95, .aload_n 0, 1, 0, 0, 0, 0) := ceB_eq (by decide +kernel)
theorem f_188_96 : fnd 188 96 = some (96, .getfield 68, 3, 10, 5, 5, 0) := ceB_eq (by decide +kernel)
theorem f_188_99 : fnd 188 99 = some (99, .ifCond .eq 7, 3, 0, 0, 0, 0) := ceB_eq (by decide +kernel)
theorem f_188_102 : fnd 188 102 = some (102, .aload_n 0, 1, 0, 0, 0, 0) := ceB_eq (by decide +kernel)
theorem f_188_103 : fnd 188 103 = some (103, .invokevirtual 162, 3, 181, 1, 10, 0) := ceB_eq (by decide +kernel)
theorem f_188_106 : fnd 188 106 = some (106, .aload_n 0, 1, 0, 0, 0, 0) := ceB_eq (by decide +kernel)
theorem f_188_107 : fnd 188 107 = some (107, .getfield 96, 3, 10, 4, 4, 0) := ceB_eq (by decide +kernel)
theorem f_188_110 : fnd 188 110 = some (110, .ireturn, 1, 0, 0, 0, 0) := ceB_eq (by decide +kernel)
theorem rk_188 : rkm 188 = 0 := by decide +kernel
theorem ml_188 : (mth 188).2.1 = 3 := by decide +kernel
set_option maxRecDepth 100000 in
theorem T_Z_readScript (k0 i0 x1 : Int) (σ : ST) (Q : Option AV → ST → Prop) (h :
  ((0 : Int) ≤ x1 ∧ (x1 : Int) < 5) ∧
  wp m_Z_readScript (19, [some (.inr (.inr (40, k0, i0))), some (.inl x1), some (.inl 1)], [], (up (up (up σ 40 k0 i0 3 0) 40 k0 i0 4 (-1)) 45 0 0 x1 0)) Q) :
  wpM m_Z_readScript [.inr (.inr (40, k0, i0)), .inl x1] σ Q :=
 wpM_of ml_188 (L := [some (.inr (.inr (40, k0, i0))), some (.inl x1), none]) rfl
 (w_aload_n (p' := 1) f_188_0 rfl rfl
 (w_iconst (p' := 2) f_188_1 rfl
 (w_putI (p' := 5) f_188_2 rfl rfl (c' := 3) rfl rfl
 (w_aload_n (p' := 6) f_188_5 rfl rfl
 (w_iconst (p' := 7) f_188_6 rfl
 (w_putI (p' := 10) f_188_7 rfl rfl (c' := 4) rfl rfl
 (w_aload_n (p' := 11) f_188_10 rfl rfl
 (w_getfield (p' := 14) f_188_11 rfl (x := .inr (.inr (45, 0, 0))) rfl rfl
 (w_iload_n (p' := 15) f_188_14 rfl rfl
 (w_iconst (p' := 16) f_188_15 rfl
 (w_iastore (p' := 17) f_188_16 rfl (n := 5) rfl h.1 rfl
 (w_iconst (p' := 18) f_188_17 rfl
 (w_istore_n (p' := 19) f_188_18 (L' := [some (.inr (.inr (40, k0, i0))), some (.inl x1), some (.inl 1)]) rfl rfl
 (h.2))))))))))))))
set_option maxRecDepth 100000 in
theorem T_Z_readScript_19 (k0 i0 x1 x2 : Int) (σ : ST) (Q : Option AV → ST → Prop) (h :
  (((x2 = 0 : Prop) →
    ((((σ 40 k0 i0 4) ≠ (-1) : Prop) →
      Q (some (.inl (σ 40 k0 i0 4))) σ) ∧
    (¬ ((σ 40 k0 i0 4) ≠ (-1)) →
      ((((σ 40 k0 i0 5) = 0 : Prop) →
        Q (some (.inl (σ 40 k0 i0 4))) σ) ∧
      (¬ ((σ 40 k0 i0 5) = 0) →
        wpM m_Z_bad [.inr (.inr (40, k0, i0))] σ (asV fun s101 =>
        Q (some (.inl (s101 40 k0 i0 4))) s101)))))) ∧
  (¬ (x2 = 0) →
    ((0 : Int) ≤ x1 ∧ (x1 : Int) < 5) ∧
    wpM m_Z_readStep [.inr (.inr (40, k0, i0)), .inl (wr (6 * (wr ((wr (12 * x1)) + (σ 45 0 0 x1)))))] σ (asV fun s104 =>
    ((0 : Int) ≤ x1 ∧ (x1 : Int) < 5) ∧
    ((0 : Int) ≤ x1 ∧ (x1 : Int) < 5) ∧
    (((((up s104 45 0 0 x1 (wr ((s104 45 0 0 x1) + 1))) 40 k0 i0 4) ≠ (-1) : Prop) →
      wp m_Z_readScript (19, [some (.inr (.inr (40, k0, i0))), some (.inl x1), some (.inl 0)], [], (up s104 45 0 0 x1 (wr ((s104 45 0 0 x1) + 1)))) Q) ∧
    (¬ (((up s104 45 0 0 x1 (wr ((s104 45 0 0 x1) + 1))) 40 k0 i0 4) ≠ (-1)) →
      (((((up s104 45 0 0 x1 (wr ((s104 45 0 0 x1) + 1))) 40 k0 i0 5) ≠ 3 : Prop) →
        wp m_Z_readScript (19, [some (.inr (.inr (40, k0, i0))), some (.inl x1), some (.inl 0)], [], (up s104 45 0 0 x1 (wr ((s104 45 0 0 x1) + 1)))) Q) ∧
      (¬ (((up s104 45 0 0 x1 (wr ((s104 45 0 0 x1) + 1))) 40 k0 i0 5) ≠ 3) →
        ((0 : Int) ≤ x1 ∧ (x1 : Int) < 5) ∧
        (((12 ≤ ((up s104 45 0 0 x1 (wr ((s104 45 0 0 x1) + 1))) 45 0 0 x1) : Prop) →
          wp m_Z_readScript (19, [some (.inr (.inr (40, k0, i0))), some (.inl x1), some (.inl 0)], [], (up s104 45 0 0 x1 (wr ((s104 45 0 0 x1) + 1)))) Q) ∧
        (¬ (12 ≤ ((up s104 45 0 0 x1 (wr ((s104 45 0 0 x1) + 1))) 45 0 0 x1)) →
          wp m_Z_readScript (19, [some (.inr (.inr (40, k0, i0))), some (.inl x1), some (.inl 1)], [], (up s104 45 0 0 x1 (wr ((s104 45 0 0 x1) + 1)))) Q)))))))))) :
  wp m_Z_readScript (19, [some (.inr (.inr (40, k0, i0))), some (.inl x1), some (.inl x2)], [], σ) Q :=
 w_iload_n (p' := 20) f_188_19 rfl rfl
 (w_if (p' := 87) (q' := 23) f_188_20 rfl rfl
 (fun c108 => w_aload_n (p' := 88) f_188_87 rfl rfl
 (w_getfield (p' := 91) f_188_88 rfl (x := .inl (σ 40 k0 i0 4)) rfl rfl
 (w_iconst (p' := 92) f_188_91 rfl
 (w_icmp (p' := 106) (q' := 95) f_188_92 rfl rfl
 (fun c103 => w_aload_n (p' := 107) f_188_106 rfl rfl
 (w_getfield (p' := 110) f_188_107 rfl (x := .inl (σ 40 k0 i0 4)) rfl rfl
 (w_iret f_188_110 rk_188 ((h.1 c108).1 c103))))
 (fun c103 => w_aload_n (p' := 96) f_188_95 rfl rfl
 (w_getfield (p' := 99) f_188_96 rfl (x := .inl (σ 40 k0 i0 5)) rfl rfl
 (w_if (p' := 106) (q' := 102) f_188_99 rfl rfl
 (fun c102 => w_aload_n (p' := 107) f_188_106 rfl rfl
 (w_getfield (p' := 110) f_188_107 rfl (x := .inl (σ 40 k0 i0 4)) rfl rfl
 (w_iret f_188_110 rk_188 (((h.1 c108).2 c103).1 c102))))
 (fun c102 => w_aload_n (p' := 103) f_188_102 rfl rfl
 (w_callV (p' := 106) f_188_103 rfl rfl rfl rfl rfl (r := []) rfl rfl (kV rk_181 fun s101 h101 =>
 w_aload_n (p' := 107) f_188_106 rfl rfl
 (w_getfield (p' := 110) f_188_107 rfl (x := .inl (s101 40 k0 i0 4)) rfl rfl
 (w_iret f_188_110 rk_188 h101))) (((h.1 c108).2 c103).2 c102))))))))))
 (fun c108 => w_aload_n (p' := 24) f_188_23 rfl rfl
 (w_bipush (p' := 26) f_188_24 rfl
 (w_bipush (p' := 28) f_188_26 rfl
 (w_iload_n (p' := 29) f_188_28 rfl rfl
 (w_imul (p' := 30) f_188_29 rfl
 (w_aload_n (p' := 31) f_188_30 rfl rfl
 (w_getfield (p' := 34) f_188_31 rfl (x := .inr (.inr (45, 0, 0))) rfl rfl
 (w_iload_n (p' := 35) f_188_34 rfl rfl
 (w_iaload (p' := 36) f_188_35 rfl (n := 5) rfl (h.2 c108).1 rfl
 (w_iadd (p' := 37) f_188_36 rfl
 (w_imul (p' := 38) f_188_37 rfl
 (w_callV (p' := 41) f_188_38 rfl rfl rfl rfl rfl (r := []) rfl rfl (kV rk_187 fun s104 h104 =>
 w_aload_n (p' := 42) f_188_41 rfl rfl
 (w_getfield (p' := 45) f_188_42 rfl (x := .inr (.inr (45, 0, 0))) rfl rfl
 (w_iload_n (p' := 46) f_188_45 rfl rfl
 (w_dup2 (p' := 47) f_188_46 rfl
 (w_iaload (p' := 48) f_188_47 rfl (n := 5) rfl h104.1 rfl
 (w_iconst (p' := 49) f_188_48 rfl
 (w_iadd (p' := 50) f_188_49 rfl
 (w_iastore (p' := 51) f_188_50 rfl (n := 5) rfl h104.2.1 rfl
 (w_aload_n (p' := 52) f_188_51 rfl rfl
 (w_getfield (p' := 55) f_188_52 rfl (x := .inl ((up s104 45 0 0 x1 (wr ((s104 45 0 0 x1) + 1))) 40 k0 i0 4)) rfl rfl
 (w_iconst (p' := 56) f_188_55 rfl
 (w_icmp (p' := 82) (q' := 59) f_188_56 rfl rfl
 (fun c107 => w_iconst (p' := 83) f_188_82 rfl
 (w_istore_n (p' := 84) f_188_83 (L' := [some (.inr (.inr (40, k0, i0))), some (.inl x1), some (.inl 0)]) rfl rfl
 (w_goto (p' := 19) f_188_84 rfl
 ((h104.2.2.1 c107)))))
 (fun c107 => w_aload_n (p' := 60) f_188_59 rfl rfl
 (w_getfield (p' := 63) f_188_60 rfl (x := .inl ((up s104 45 0 0 x1 (wr ((s104 45 0 0 x1) + 1))) 40 k0 i0 5)) rfl rfl
 (w_iconst (p' := 64) f_188_63 rfl
 (w_icmp (p' := 82) (q' := 67) f_188_64 rfl rfl
 (fun c106 => w_iconst (p' := 83) f_188_82 rfl
 (w_istore_n (p' := 84) f_188_83 (L' := [some (.inr (.inr (40, k0, i0))), some (.inl x1), some (.inl 0)]) rfl rfl
 (w_goto (p' := 19) f_188_84 rfl
 (((h104.2.2.2 c107).1 c106)))))
 (fun c106 => w_aload_n (p' := 68) f_188_67 rfl rfl
 (w_getfield (p' := 71) f_188_68 rfl (x := .inr (.inr (45, 0, 0))) rfl rfl
 (w_iload_n (p' := 72) f_188_71 rfl rfl
 (w_iaload (p' := 73) f_188_72 rfl (n := 5) rfl ((h104.2.2.2 c107).2 c106).1 rfl
 (w_bipush (p' := 75) f_188_73 rfl
 (w_icmp (p' := 82) (q' := 78) f_188_75 rfl rfl
 (fun c105 => w_iconst (p' := 83) f_188_82 rfl
 (w_istore_n (p' := 84) f_188_83 (L' := [some (.inr (.inr (40, k0, i0))), some (.inl x1), some (.inl 0)]) rfl rfl
 (w_goto (p' := 19) f_188_84 rfl
 ((((h104.2.2.2 c107).2 c106).2.1 c105)))))
 (fun c105 => w_iconst (p' := 79) f_188_78 rfl
 (w_goto (p' := 83) f_188_79 rfl
 (w_istore_n (p' := 84) f_188_83 (L' := [some (.inr (.inr (40, k0, i0))), some (.inl x1), some (.inl 1)]) rfl rfl
 (w_goto (p' := 19) f_188_84 rfl
 ((((h104.2.2.2 c107).2 c106).2.2 c105)))))))))))))))))))))))))))) (h.2 c108).2)))))))))))))
/-! ClosedRoomsModel.fault(I)I -/
theorem f_189_0 : fnd 189 0 = some (0, .iload_n 1, 1, 0, 0, 0, 0) := ceB_eq (by decide +kernel)
theorem f_189_1 : fnd 189 1 = some (1, .ifCond .ne 10, 3, 0, 0, 0, 0) := ceB_eq (by decide +kernel)
theorem f_189_4 : fnd 189 4 = some (4, .aload_n 0, 1, 0, 0, 0, 0) := ceB_eq (by decide +kernel)
theorem f_189_5 : fnd 189 5 = some (5, .invokevirtual 193, 3, 185, 1, 10, 0) := ceB_eq (by decide +kernel)
theorem f_189_8 : fnd 189 8 = some (8, .goto 18, 3, 0, 0, 0, 0) := ceB_eq (by decide +kernel)
theorem f_189_11 : fnd 189 11 = some (11, .iload_n 1, 1, 0, 0, 0, 0) := ceB_eq (by decide +kernel)
theorem f_189_12 : fnd 189 12 = some (12, .iconst 1, 1, 0, 0, 0, 0) := ceB_eq (by decide +kernel)
theorem f_189_13 : fnd 189 13 = some (13, .if_icmp .ne 11, 3, 0, 0, 0, 0) := ceB_eq (by decide +kernel)
theorem f_189_16 : fnd 189 16 = some (16, .aload_n 0, 1, 0, 0, 0, 0) := ceB_eq (by decide +kernel)
theorem f_189_17 : fnd 189 17 = some (17, .iconst 4, 1, 0, 0, 0, 0) := ceB_eq (by decide +kernel)
theorem f_189_18 : fnd 189 18 = some (18, .invokevirtual 196, 3, 188, 2, 10, 0) := ceB_eq (by decide +kernel)
theorem f_189_21 : fnd 189 21 = some (21, .goto 5, 3, 0, 0, 0, 0) := ceB_eq (by decide +kernel)
theorem f_189_24 : fnd 189 24 = some (24, .bipush (-2), 2, 0, 0, 0, 0) := ceB_eq (by decide +kernel)
theorem f_189_26 : fnd 189 26 = some (26, .ireturn, 1, 0, 0, 0, 0) := ceB_eq (by decide +kernel)
theorem rk_189 : rkm 189 = 0 := by decide +kernel
theorem ml_189 : (mth 189).2.1 = 2 := by decide +kernel
set_option maxRecDepth 100000 in
theorem T_Z_fault (k0 i0 x1 : Int) (σ : ST) (Q : Option AV → ST → Prop) (h :
  (((x1 ≠ 0 : Prop) →
    (((x1 ≠ 1 : Prop) →
      Q (some (.inl (-2))) σ) ∧
    (¬ (x1 ≠ 1) →
      wpM m_Z_readScript [.inr (.inr (40, k0, i0)), .inl 4] σ (asI fun r101 s101 =>
      Q (some (.inl r101)) s101)))) ∧
  (¬ (x1 ≠ 0) →
    wpM m_Z_readMachine [.inr (.inr (40, k0, i0))] σ (asI fun r103 s103 =>
    Q (some (.inl r103)) s103)))) :
  wpM m_Z_fault [.inr (.inr (40, k0, i0)), .inl x1] σ Q :=
 wpM_of ml_189 (L := [some (.inr (.inr (40, k0, i0))), some (.inl x1)]) rfl
 (w_iload_n (p' := 1) f_189_0 rfl rfl
 (w_if (p' := 11) (q' := 4) f_189_1 rfl rfl
 (fun c104 => w_iload_n (p' := 12) f_189_11 rfl rfl
 (w_iconst (p' := 13) f_189_12 rfl
 (w_icmp (p' := 24) (q' := 16) f_189_13 rfl rfl
 (fun c102 => w_bipush (p' := 26) f_189_24 rfl
 (w_iret f_189_26 rk_189 ((h.1 c104).1 c102)))
 (fun c102 => w_aload_n (p' := 17) f_189_16 rfl rfl
 (w_iconst (p' := 18) f_189_17 rfl
 (w_callV (p' := 21) f_189_18 rfl rfl rfl rfl rfl (r := []) rfl rfl (kI (.inl rk_188) fun r101 s101 h101 =>
 w_goto (p' := 26) f_189_21 rfl
 (w_iret f_189_26 rk_189 h101)) ((h.1 c104).2 c102)))))))
 (fun c104 => w_aload_n (p' := 5) f_189_4 rfl rfl
 (w_callV (p' := 8) f_189_5 rfl rfl rfl rfl rfl (r := []) rfl rfl (kI (.inl rk_185) fun r103 s103 h103 =>
 w_goto (p' := 26) f_189_8 rfl
 (w_iret f_189_26 rk_189 h103)) (h.2 c104)))))
/-! ClosedRoomsModel.setPage(III)V -/
theorem f_190_0 : fnd 190 0 = some (0, .aload_n 0, 1, 0, 0, 0, 0) := ceB_eq (by decide +kernel)
theorem f_190_1 : fnd 190 1 = some (1, .getfield 25, 3, 10, 15, 15, 0) := ceB_eq (by decide +kernel)
theorem f_190_4 : fnd 190 4 = some (4, .bipush 11, 2, 0, 0, 0, 0) := ceB_eq (by decide +kernel)
theorem f_190_6 : fnd 190 6 = some (6, .iload_n 1, 1, 0, 0, 0, 0) := ceB_eq (by decide +kernel)
theorem f_190_7 : fnd 190 7 = some (7, .imul, 1, 0, 0, 0, 0) := ceB_eq (by decide +kernel)
theorem f_190_8 : fnd 190 8 = some (8, .iload_n 2, 1, 0, 0, 0, 0) := ceB_eq (by decide +kernel)
theorem f_190_9 : fnd 190 9 = some (9, .iadd, 1, 0, 0, 0, 0) := ceB_eq (by decide +kernel)
theorem f_190_10 : fnd 190 10 = some (10, .iload_n 3, 1, 0, 0, 0, 0) := ceB_eq (by decide +kernel)
theorem f_190_11 : fnd 190 11 = some (11, .iastore, 1, 0, 0, 0, 0) := ceB_eq (by decide +kernel)
theorem f_190_12 : fnd 190 12 = some (12, .return_, 1, 0, 0, 0, 0) := ceB_eq (by decide +kernel)
theorem rk_190 : rkm 190 = 4 := by decide +kernel
theorem ml_190 : (mth 190).2.1 = 4 := by decide +kernel
set_option maxRecDepth 100000 in
theorem T_Z_setPage (k0 i0 x1 x2 x3 : Int) (σ : ST) (Q : Option AV → ST → Prop) (h :
  ((0 : Int) ≤ (wr ((wr (11 * x1)) + x2)) ∧ ((wr ((wr (11 * x1)) + x2)) : Int) < 526) ∧
  Q none (up σ 46 0 0 (wr ((wr (11 * x1)) + x2)) x3)) :
  wpM m_Z_setPage [.inr (.inr (40, k0, i0)), .inl x1, .inl x2, .inl x3] σ Q :=
 wpM_of ml_190 (L := [some (.inr (.inr (40, k0, i0))), some (.inl x1), some (.inl x2), some (.inl x3)]) rfl
 (w_aload_n (p' := 1) f_190_0 rfl rfl
 (w_getfield (p' := 4) f_190_1 rfl (x := .inr (.inr (46, 0, 0))) rfl rfl
 (w_bipush (p' := 6) f_190_4 rfl
 (w_iload_n (p' := 7) f_190_6 rfl rfl
 (w_imul (p' := 8) f_190_7 rfl
 (w_iload_n (p' := 9) f_190_8 rfl rfl
 (w_iadd (p' := 10) f_190_9 rfl
 (w_iload_n (p' := 11) f_190_10 rfl rfl
 (w_iastore (p' := 12) f_190_11 rfl (n := 526) rfl h.1 rfl
 (w_vret f_190_12 rk_190 h.2))))))))))
/-! ClosedRoomsModel.clearPage(I)V -/
theorem f_191_0 : fnd 191 0 = some (0, .iconst 0, 1, 0, 0, 0, 0) := ceB_eq (by decide +kernel)
theorem f_191_1 : fnd 191 1 = some (1, .istore_n 2, 1, 0, 0, 0, 0) := ceB_eq (by decide +kernel)
theorem f_191_2 : fnd 191 2 = some (2, .iload_n 2, 1, 0, 0, 0, 0) := ceB_eq (by decide +kernel)
theorem f_191_3 : fnd 191 3 = some (3, .bipush 11, 2, 0, 0, 0, 0) := ceB_eq (by decide +kernel)
theorem f_191_5 : fnd 191 5 = some (5, .if_icmp .ge 35, 3, 0, 0, 0, 0) := ceB_eq (by decide +kernel)
theorem f_191_8 : fnd 191 8 = some (8, .aload_n 0, 1, 0, 0, 0, 0) := ceB_eq (by decide +kernel)
theorem f_191_9 : fnd 191 9 = some (9, .iload_n 1, 1, 0, 0, 0, 0) := ceB_eq (by decide +kernel)
theorem f_191_10 : fnd 191 10 = some (10, .iload_n 2, 1, 0, 0, 0, 0) := ceB_eq (by decide +kernel)
theorem f_191_11 : fnd 191 11 = some (11, .iload_n 2, 1, 0, 0, 0, 0) := ceB_eq (by decide +kernel)
theorem f_191_12 : fnd 191 12 = some (12, .iconst 1, 1, 0, 0, 0, 0) := ceB_eq (by decide +kernel)
theorem f_191_13 : fnd 191 13 = some (13, .if_icmp .eq 13, 3, 0, 0, 0, 0) := ceB_eq (by decide +kernel)
theorem f_191_16 : fnd 191 16 = some (16, .iload_n 2, 1, 0, 0, 0, 0) := ceB_eq (by decide +kernel)
theorem f_191_17 : fnd 191 17 = some (17, .iconst 2, 1, 0, 0, 0, 0) := ceB_eq (by decide +kernel)
theorem f_191_18 : fnd 191 18 = some (18, .if_icmp .eq 8, 3, 0, 0, 0, 0) := ceB_eq (by decide +kernel)
theorem f_191_21 : fnd 191 21 = some (21, .iload_n 2, 1, 0, 0, 0, 0) := ceB_eq (by decide +kernel)
theorem f_191_22 : fnd 191 22 = some (22, .iconst 5, 1, 0, 0, 0, 0) := ceB_eq (by decide +kernel)
theorem f_191_23 : fnd 191 23 = some (23, .if_icmp .ne 7, 3, 0, 0, 0, 0) := ceB_eq (by decide +kernel)
theorem f_191_26 : fnd 191 26 = some (26, .iconst (-1), 1, 0, 0, 0, 0) := ceB_eq (by decide +kernel)
theorem f_191_27 : fnd 191 27 = some (27, .goto 4, 3, 0, 0, 0, 0) := ceB_eq (by decide +kernel)
theorem f_191_30 : fnd 191 30 = some (30, .iconst 0, 1, 0, 0, 0, 0) := ceB_eq (by decide +kernel)
theorem f_191_31 : fnd 191 31 = some (31, .invokevirtual 218, 3, 190, 4, 10, 0) := ceB_eq (by decide +kernel)
theorem f_191_34 : fnd 191 34 = some (34, .iinc 2 1, 3, 0, 0, 0, 0) := ceB_eq (by decide +kernel)
theorem f_191_37 : fnd 191 37 = some (37, .goto (-35), 3, 0, 0, 0, 0) := ceB_eq (by decide +kernel)
theorem f_191_40 : fnd 191 40 = some (40, .return_, 1, 0, 0, 0, 0) := ceB_eq (by decide +kernel)
theorem rk_191 : rkm 191 = 4 := by decide +kernel
theorem ml_191 : (mth 191).2.1 = 3 := by decide +kernel
set_option maxRecDepth 100000 in
theorem T_Z_clearPage (k0 i0 x1 : Int) (σ : ST) (Q : Option AV → ST → Prop) (h :
  wp m_Z_clearPage (2, [some (.inr (.inr (40, k0, i0))), some (.inl x1), some (.inl 0)], [], σ) Q) :
  wpM m_Z_clearPage [.inr (.inr (40, k0, i0)), .inl x1] σ Q :=
 wpM_of ml_191 (L := [some (.inr (.inr (40, k0, i0))), some (.inl x1), none]) rfl
 (w_iconst (p' := 1) f_191_0 rfl
 (w_istore_n (p' := 2) f_191_1 (L' := [some (.inr (.inr (40, k0, i0))), some (.inl x1), some (.inl 0)]) rfl rfl
 (h)))
set_option maxRecDepth 100000 in
theorem T_Z_clearPage_2 (k0 i0 x1 x2 : Int) (σ : ST) (Q : Option AV → ST → Prop) (h :
  (((11 ≤ x2 : Prop) →
    Q none σ) ∧
  (¬ (11 ≤ x2) →
    (((x2 = 1 : Prop) →
      wpM m_Z_setPage [.inr (.inr (40, k0, i0)), .inl x1, .inl x2, .inl (-1)] σ (asV fun s101 =>
      wp m_Z_clearPage (2, [some (.inr (.inr (40, k0, i0))), some (.inl x1), some (.inl (wr (x2 + 1)))], [], s101) Q)) ∧
    (¬ (x2 = 1) →
      (((x2 = 2 : Prop) →
        wpM m_Z_setPage [.inr (.inr (40, k0, i0)), .inl x1, .inl x2, .inl (-1)] σ (asV fun s102 =>
        wp m_Z_clearPage (2, [some (.inr (.inr (40, k0, i0))), some (.inl x1), some (.inl (wr (x2 + 1)))], [], s102) Q)) ∧
      (¬ (x2 = 2) →
        (((x2 ≠ 5 : Prop) →
          wpM m_Z_setPage [.inr (.inr (40, k0, i0)), .inl x1, .inl x2, .inl 0] σ (asV fun s103 =>
          wp m_Z_clearPage (2, [some (.inr (.inr (40, k0, i0))), some (.inl x1), some (.inl (wr (x2 + 1)))], [], s103) Q)) ∧
        (¬ (x2 ≠ 5) →
          wpM m_Z_setPage [.inr (.inr (40, k0, i0)), .inl x1, .inl x2, .inl (-1)] σ (asV fun s104 =>
          wp m_Z_clearPage (2, [some (.inr (.inr (40, k0, i0))), some (.inl x1), some (.inl (wr (x2 + 1)))], [], s104) Q)))))))))) :
  wp m_Z_clearPage (2, [some (.inr (.inr (40, k0, i0))), some (.inl x1), some (.inl x2)], [], σ) Q :=
 w_iload_n (p' := 3) f_191_2 rfl rfl
 (w_bipush (p' := 5) f_191_3 rfl
 (w_icmp (p' := 40) (q' := 8) f_191_5 rfl rfl
 (fun c108 => w_vret f_191_40 rk_191 (h.1 c108))
 (fun c108 => w_aload_n (p' := 9) f_191_8 rfl rfl
 (w_iload_n (p' := 10) f_191_9 rfl rfl
 (w_iload_n (p' := 11) f_191_10 rfl rfl
 (w_iload_n (p' := 12) f_191_11 rfl rfl
 (w_iconst (p' := 13) f_191_12 rfl
 (w_icmp (p' := 26) (q' := 16) f_191_13 rfl rfl
 (fun c107 => w_iconst (p' := 27) f_191_26 rfl
 (w_goto (p' := 31) f_191_27 rfl
 (w_callV (p' := 34) f_191_31 rfl rfl rfl rfl rfl (r := []) rfl rfl (kV rk_190 fun s101 h101 =>
 w_iinc (p' := 37) f_191_34 rfl (L' := [some (.inr (.inr (40, k0, i0))), some (.inl x1), some (.inl (wr (x2 + 1)))]) rfl rfl
 (w_goto (p' := 2) f_191_37 rfl
 (h101))) ((h.2 c108).1 c107))))
 (fun c107 => w_iload_n (p' := 17) f_191_16 rfl rfl
 (w_iconst (p' := 18) f_191_17 rfl
 (w_icmp (p' := 26) (q' := 21) f_191_18 rfl rfl
 (fun c106 => w_iconst (p' := 27) f_191_26 rfl
 (w_goto (p' := 31) f_191_27 rfl
 (w_callV (p' := 34) f_191_31 rfl rfl rfl rfl rfl (r := []) rfl rfl (kV rk_190 fun s102 h102 =>
 w_iinc (p' := 37) f_191_34 rfl (L' := [some (.inr (.inr (40, k0, i0))), some (.inl x1), some (.inl (wr (x2 + 1)))]) rfl rfl
 (w_goto (p' := 2) f_191_37 rfl
 (h102))) (((h.2 c108).2 c107).1 c106))))
 (fun c106 => w_iload_n (p' := 22) f_191_21 rfl rfl
 (w_iconst (p' := 23) f_191_22 rfl
 (w_icmp (p' := 30) (q' := 26) f_191_23 rfl rfl
 (fun c105 => w_iconst (p' := 31) f_191_30 rfl
 (w_callV (p' := 34) f_191_31 rfl rfl rfl rfl rfl (r := []) rfl rfl (kV rk_190 fun s103 h103 =>
 w_iinc (p' := 37) f_191_34 rfl (L' := [some (.inr (.inr (40, k0, i0))), some (.inl x1), some (.inl (wr (x2 + 1)))]) rfl rfl
 (w_goto (p' := 2) f_191_37 rfl
 (h103))) ((((h.2 c108).2 c107).2 c106).1 c105)))
 (fun c105 => w_iconst (p' := 27) f_191_26 rfl
 (w_goto (p' := 31) f_191_27 rfl
 (w_callV (p' := 34) f_191_31 rfl rfl rfl rfl rfl (r := []) rfl rfl (kV rk_190 fun s104 h104 =>
 w_iinc (p' := 37) f_191_34 rfl (L' := [some (.inr (.inr (40, k0, i0))), some (.inl x1), some (.inl (wr (x2 + 1)))]) rfl rfl
 (w_goto (p' := 2) f_191_37 rfl
 (h104))) ((((h.2 c108).2 c107).2 c106).2 c105))))))))))))))))))
/-! ClosedRoomsModel.setCore(III)V -/
theorem f_192_0 : fnd 192 0 = some (0, .aload_n 0, 1, 0, 0, 0, 0) := ceB_eq (by decide +kernel)
theorem f_192_1 : fnd 192 1 = some (1, .getfield 25, 3, 10, 15, 15, 0) := ceB_eq (by decide +kernel)
theorem f_192_4 : fnd 192 4 = some (4, .sipush 202, 3, 0, 0, 0, 0) := ceB_eq (by decide +kernel)
theorem f_192_7 : fnd 192 7 = some (7, .bipush 11, 2, 0, 0, 0, 0) := ceB_eq (by decide +kernel)
theorem f_192_9 : fnd 192 9 = some (9, .iload_n 1, 1, 0, 0, 0, 0) := ceB_eq (by decide +kernel)
theorem f_192_10 : fnd 192 10 = some (10, .imul, 1, 0, 0, 0, 0) := ceB_eq (by decide +kernel)
theorem f_192_11 : fnd 192 11 = some (11, .iadd, 1, 0, 0, 0, 0) := ceB_eq (by decide +kernel)
theorem f_192_12 : fnd 192 12 = some (12, .iload_n 2, 1, 0, 0, 0, 0) := ceB_eq (by decide +kernel)
theorem f_192_13 : fnd 192 13 = some (13, .iadd, 1, 0, 0, 0, 0) := ceB_eq (by decide +kernel)
theorem f_192_14 : fnd 192 14 = some (14, .iload_n 3, 1, 0, 0, 0, 0) := ceB_eq (by decide +kernel)
theorem f_192_15 : fnd 192 15 = some (15, .iastore, 1, 0, 0, 0, 0) := ceB_eq (by decide +kernel)
theorem f_192_16 : fnd 192 16 = some (16, .return_, 1, 0, 0, 0, 0) := ceB_eq (by decide +kernel)
theorem rk_192 : rkm 192 = 4 := by decide +kernel
theorem ml_192 : (mth 192).2.1 = 4 := by decide +kernel
set_option maxRecDepth 100000 in
theorem T_Z_setCore (k0 i0 x1 x2 x3 : Int) (σ : ST) (Q : Option AV → ST → Prop) (h :
  ((0 : Int) ≤ (wr ((wr (202 + (wr (11 * x1)))) + x2)) ∧ ((wr ((wr (202 + (wr (11 * x1)))) + x2)) : Int) < 526) ∧
  Q none (up σ 46 0 0 (wr ((wr (202 + (wr (11 * x1)))) + x2)) x3)) :
  wpM m_Z_setCore [.inr (.inr (40, k0, i0)), .inl x1, .inl x2, .inl x3] σ Q :=
 wpM_of ml_192 (L := [some (.inr (.inr (40, k0, i0))), some (.inl x1), some (.inl x2), some (.inl x3)]) rfl
 (w_aload_n (p' := 1) f_192_0 rfl rfl
 (w_getfield (p' := 4) f_192_1 rfl (x := .inr (.inr (46, 0, 0))) rfl rfl
 (w_sipush (p' := 7) f_192_4 rfl
 (w_bipush (p' := 9) f_192_7 rfl
 (w_iload_n (p' := 10) f_192_9 rfl rfl
 (w_imul (p' := 11) f_192_10 rfl
 (w_iadd (p' := 12) f_192_11 rfl
 (w_iload_n (p' := 13) f_192_12 rfl rfl
 (w_iadd (p' := 14) f_192_13 rfl
 (w_iload_n (p' := 15) f_192_14 rfl rfl
 (w_iastore (p' := 16) f_192_15 rfl (n := 526) rfl h.1 rfl
 (w_vret f_192_16 rk_192 h.2))))))))))))
/-! ClosedRoomsModel.putOutside(I)V -/
theorem f_193_0 : fnd 193 0 = some (0, .aload_n 0, 1, 0, 0, 0, 0) := ceB_eq (by decide +kernel)
theorem f_193_1 : fnd 193 1 = some (1, .iload_n 1, 1, 0, 0, 0, 0) := ceB_eq (by decide +kernel)
theorem f_193_2 : fnd 193 2 = some (2, .iconst 1, 1, 0, 0, 0, 0) := ceB_eq (by decide +kernel)
theorem f_193_3 : fnd 193 3 = some (3, .iconst (-1), 1, 0, 0, 0, 0) := ceB_eq (by decide +kernel)
theorem f_193_4 : fnd 193 4 = some (4, .invokevirtual 234, 3, 192, 4, 10, 0) := ceB_eq (by decide +kernel)
theorem f_193_7 : fnd 193 7 = some (7, .aload_n 0, 1, 0, 0, 0, 0) := ceB_eq (by decide +kernel)
theorem f_193_8 : fnd 193 8 = some (8, .iload_n 1, 1, 0, 0, 0, 0) := ceB_eq (by decide +kernel)
theorem f_193_9 : fnd 193 9 = some (9, .iconst 2, 1, 0, 0, 0, 0) := ceB_eq (by decide +kernel)
theorem f_193_10 : fnd 193 10 = some (10, .iconst (-1), 1, 0, 0, 0, 0) := ceB_eq (by decide +kernel)
theorem f_193_11 : fnd 193 11 = some (11, .invokevirtual 234, 3, 192, 4, 10, 0) := ceB_eq (by decide +kernel)
theorem f_193_14 : fnd 193 14 = some (14, .aload_n 0, 1, 0, 0, 0, 0) := ceB_eq (by decide +kernel)
theorem f_193_15 : fnd 193 15 = some (15, .iload_n 1, 1, 0, 0, 0, 0) := ceB_eq (by decide +kernel)
theorem f_193_16 : fnd 193 16 = some (16, .iconst 3, 1, 0, 0, 0, 0) := ceB_eq (by decide +kernel)
theorem f_193_17 : fnd 193 17 = some (17, .iconst (-1), 1, 0, 0, 0, 0) := ceB_eq (by decide +kernel)
theorem f_193_18 : fnd 193 18 = some (18, .invokevirtual 234, 3, 192, 4, 10, 0) := ceB_eq (by decide +kernel)
theorem f_193_21 : fnd 193 21 = some (21, .aload_n 0, 1, 0, 0, 0, 0) := ceB_eq (by decide +kernel)
theorem f_193_22 : fnd 193 22 = some (22, .iload_n 1, 1, 0, 0, 0, 0) := ceB_eq (by decide +kernel)
theorem f_193_23 : fnd 193 23 = some (23, .iconst 4, 1, 0, 0, 0, 0) := ceB_eq (by decide +kernel)
theorem f_193_24 : fnd 193 24 = some (24, .iconst 0, 1, 0, 0, 0, 0) := ceB_eq (by decide +kernel)
theorem f_193_25 : fnd 193 25 = some (25, .invokevirtual 234, 3, 192, 4, 10, 0) := ceB_eq (by decide +kernel)
theorem f_193_28 : fnd 193 28 = some (28, .return_, 1, 0, 0, 0, 0) := ceB_eq (by decide +kernel)
theorem rk_193 : rkm 193 = 4 := by decide +kernel
theorem ml_193 : (mth 193).2.1 = 2 := by decide +kernel
set_option maxRecDepth 100000 in
theorem T_Z_putOutside (k0 i0 x1 : Int) (σ : ST) (Q : Option AV → ST → Prop) (h :
  wpM m_Z_setCore [.inr (.inr (40, k0, i0)), .inl x1, .inl 1, .inl (-1)] σ (asV fun s101 =>
  wpM m_Z_setCore [.inr (.inr (40, k0, i0)), .inl x1, .inl 2, .inl (-1)] s101 (asV fun s102 =>
  wpM m_Z_setCore [.inr (.inr (40, k0, i0)), .inl x1, .inl 3, .inl (-1)] s102 (asV fun s103 =>
  wpM m_Z_setCore [.inr (.inr (40, k0, i0)), .inl x1, .inl 4, .inl 0] s103 (asV fun s104 =>
  Q none s104))))) :
  wpM m_Z_putOutside [.inr (.inr (40, k0, i0)), .inl x1] σ Q :=
 wpM_of ml_193 (L := [some (.inr (.inr (40, k0, i0))), some (.inl x1)]) rfl
 (w_aload_n (p' := 1) f_193_0 rfl rfl
 (w_iload_n (p' := 2) f_193_1 rfl rfl
 (w_iconst (p' := 3) f_193_2 rfl
 (w_iconst (p' := 4) f_193_3 rfl
 (w_callV (p' := 7) f_193_4 rfl rfl rfl rfl rfl (r := []) rfl rfl (kV rk_192 fun s101 h101 =>
 w_aload_n (p' := 8) f_193_7 rfl rfl
 (w_iload_n (p' := 9) f_193_8 rfl rfl
 (w_iconst (p' := 10) f_193_9 rfl
 (w_iconst (p' := 11) f_193_10 rfl
 (w_callV (p' := 14) f_193_11 rfl rfl rfl rfl rfl (r := []) rfl rfl (kV rk_192 fun s102 h102 =>
 w_aload_n (p' := 15) f_193_14 rfl rfl
 (w_iload_n (p' := 16) f_193_15 rfl rfl
 (w_iconst (p' := 17) f_193_16 rfl
 (w_iconst (p' := 18) f_193_17 rfl
 (w_callV (p' := 21) f_193_18 rfl rfl rfl rfl rfl (r := []) rfl rfl (kV rk_192 fun s103 h103 =>
 w_aload_n (p' := 22) f_193_21 rfl rfl
 (w_iload_n (p' := 23) f_193_22 rfl rfl
 (w_iconst (p' := 24) f_193_23 rfl
 (w_iconst (p' := 25) f_193_24 rfl
 (w_callV (p' := 28) f_193_25 rfl rfl rfl rfl rfl (r := []) rfl rfl (kV rk_192 fun s104 h104 =>
 w_vret f_193_28 rk_193 h104) h103))))) h102))))) h101))))) h)))))
/-! ClosedRoomsModel.takeMachine()I -/
theorem f_194_0 : fnd 194 0 = some (0, .aload_n 0, 1, 0, 0, 0, 0) := ceB_eq (by decide +kernel)
theorem f_194_1 : fnd 194 1 = some (1, .iconst 1, 1, 0, 0, 0, 0) := ceB_eq (by decide +kernel)
theorem f_194_2 : fnd 194 2 = some (2, .putfield 199, 3, 10, 11, 11, 0) := ceB_eq (by decide +kernel)
theorem f_194_5 : fnd 194 5 = some (5, .iconst 0, 1, 0, 0, 0, 0) := ceB_eq (by decide +kernel)
theorem f_194_6 : fnd 194 6 = some (6, .istore_n 1, 1, 0, 0, 0, 0) := ceB_eq (by decide +kernel)
theorem f_194_7 : fnd 194 7 = some (7, .iload_n 1, 1, 0, 0, 0, 0) := ceB_eq (by decide +kernel)
theorem f_194_8 : fnd 194 8 = some (8, .iconst 4, 1, 0, 0, 0, 0) := ceB_eq (by decide +kernel)
theorem f_194_9 : fnd 194 9 = some (9, .if_icmp .ge 21, 3, 0, 0, 0, 0) := ceB_eq (by decide +kernel)
theorem f_194_12 : fnd 194 12 = some (12, .aload_n 0, 1, 0, 0, 0, 0) := ceB_eq (by decide +kernel)
theorem f_194_13 : fnd 194 13 = some (13, .getfield 16, 3, 10, 10, 10, 0) := ceB_eq (by decide +kernel)
theorem f_194_16 : fnd 194 16 = some (16, .iload_n 1, 1, 0, 0, 0, 0) := ceB_eq (by decide +kernel)
theorem f_194_17 : fnd 194 17 = some (17, .aload_n 0, 1, 0, 0, 0, 0) := ceB_eq (by decide +kernel)
theorem f_194_18 : fnd 194 18 = some (18, .getfield 13, 3, 10, 9, 9, 0) := ceB_eq (by decide +kernel)
theorem f_194_21 : fnd 194 21 = some (21, .iload_n 1, 1, 0, 0, 0, 0) := ceB_eq (by decide +kernel)
theorem f_194_22 : fnd 194 22 = some (22, .iaload, 1, 0, 0, 0, 0) := ceB_eq (by decide +kernel)
theorem f_194_23 : fnd 194 23 = some (23, .iastore, 1, 0, 0, 0, 0) := ceB_eq (by decide +kernel)
theorem f_194_24 : fnd 194 24 = some (24, .iinc 1 1, 3, 0, 0, 0, 0) := ceB_eq (by decide +kernel)
theorem f_194_27 : fnd 194 27 = some (27, .goto (-20), 3, 0, 0, 0, 0) := ceB_eq (by decide +kernel)
theorem f_194_30 : fnd 194 30 = some (30, .iconst 0, 1, 0, 0, 0, 0) := ceB_eq (by decide +kernel)
theorem f_194_31 : fnd 194 31 = some (31, .istore_n 1, 1, 0, 0, 0, 0) := ceB_eq (by decide +kernel)
theorem f_194_32 : fnd 194 32 = some (32, .iload_n 1, 1, 0, 0, 0, 0) := ceB_eq (by decide +kernel)
theorem f_194_33 : fnd 194 33 = some (33, .sipush 526, 3, 0, 0, 0, 0) := ceB_eq (by decide +kernel)
theorem f_194_36 : fnd 194 36 = some (36, .if_icmp .ge 16, 3, 0, 0, 0, 0) := ceB_eq (by decide +kernel)
theorem f_194_39 : fnd 194 39 = some (39, .aload_n 0, 1, 0, 0, 0, 0) := ceB_eq (by decide +kernel)
theorem f_194_40 : fnd 194 40 = some (40, .getfield 25, 3, 10, 15, 15, 0) := ceB_eq (by decide +kernel)
theorem f_194_43 : fnd 194 43 = some (43, .iload_n 1, 1, 0, 0, 0, 0) := ceB_eq (by decide +kernel)
theorem f_194_44 : fnd 194 44 = some (44, .iconst 0, 1, 0, 0, 0, 0) := ceB_eq (by decide +kernel)
theorem f_194_45 : fnd 194 45 = some (45, .iastore, 1, 0, 0, 0, 0) := ceB_eq (by decide +kernel)
theorem f_194_46 : fnd 194 46 = some (46, .iinc 1 1, 3, 0, 0, 0, 0) := ceB_eq (by decide +kernel)
theorem f_194_49 : fnd 194 49 = some (49, .goto (-17), 3, 0, 0, 0, 0) := ceB_eq (by decide +kernel)
theorem f_194_52 : fnd 194 52 = some (52, .iconst 0, 1, 0, 0, 0, 0) := ceB_eq (by decide +kernel)
theorem f_194_53 : fnd 194 53 = some (53, .istore_n 1, 1, 0, 0, 0, 0) := ceB_eq (by decide +kernel)
theorem f_194_54 : fnd 194 54 = some (54, .iload_n 1, 1, 0, 0, 0, 0) := ceB_eq (by decide +kernel)
theorem f_194_55 : fnd 194 55 = some (55, .bipush 10, 2, 0, 0, 0, 0) := ceB_eq (by decide +kernel)
theorem f_194_57 : fnd 194 57 = some (57, .if_icmp .ge 14, 3, 0, 0, 0, 0) := ceB_eq (by decide +kernel)
theorem f_194_60 : fnd 194 60 = some (60, .aload_n 0, 1, 0, 0, 0, 0) := ceB_eq (by decide +kernel)
theorem f_194_61 : fnd 194 61 = some (61, .iload_n 1, 1, 0, 0, 0, 0) := ceB_eq (by decide +kernel)
theorem f_194_62 : fnd 194 62 = some (62, .invokevirtual 222, 3, 191, 2, 10, 0) := ceB_eq (by decide +kernel)
theorem f_194_65 : fnd 194 65 = some (65, .iinc 1 1, 3, 0, 0, 0, 0) := ceB_eq (by decide +kernel)
theorem f_194_68 : fnd 194 68 = some (68, .goto (-14), 3, 0, 0, 0, 0) := ceB_eq (by decide +kernel)
theorem f_194_71 : fnd 194 71 = some (71, .iconst 0, 1, 0, 0, 0, 0) := ceB_eq (by decide +kernel)
theorem f_194_72 : fnd 194 72 = some (72, .istore_n 1, 1, 0, 0, 0, 0) := ceB_eq (by decide +kernel)
theorem f_194_73 : fnd 194 73 = some (73, .iload_n 1, 1, 0, 0, 0, 0) := ceB_eq (by decide +kernel)
theorem f_194_74 : fnd 194 74 = some (74, .iconst 3, 1, 0, 0, 0, 0) := ceB_eq (by decide +kernel)
theorem f_194_75 : fnd 194 75 = some (75, .if_icmp .ge 14, 3, 0, 0, 0, 0) := ceB_eq (by decide +kernel)
theorem f_194_78 : fnd 194 78 = some (78, .aload_n 0, 1, 0, 0, 0, 0) := ceB_eq (by decide +kernel)
theorem f_194_79 : fnd 194 79 = some (79, .iload_n 1, 1, 0, 0, 0, 0) := ceB_eq (by decide +kernel)
theorem f_194_80 : fnd 194 80 = some (80, .invokevirtual 225, 3, 193, 2, 10, 0) := ceB_eq (by decide +kernel)
theorem f_194_83 : fnd 194 83 = some (83, .iinc 1 1, 3, 0, 0, 0, 0) := ceB_eq (by decide +kernel)
theorem f_194_86 : fnd 194 86 = some (86, .goto (-13), 3, 0, 0, 0, 0) := ceB_eq (by decide +kernel)
theorem f_194_89 : fnd 194 89 = some (89, .aload_n 0, 1, 0, 0, 0, 0) := ceB_eq (by decide +kernel)
theorem f_194_90 : fnd 194 90 = some (90, .iconst 0, 1, 0, 0, 0, 0) := ceB_eq (by decide +kernel)
theorem f_194_91 : fnd 194 91 = some (91, .putfield 228, 3, 10, 18, 18, 0) := ceB_eq (by decide +kernel)
theorem f_194_94 : fnd 194 94 = some (94, .aload_n 0, 1, 0, 0, 0, 0) := ceB_eq (by decide +kernel)
theorem f_194_95 : fnd 194 95 = some (95, .iconst 0, 1, 0, 0, 0, 0) := ceB_eq (by decide +kernel)
theorem f_194_96 : fnd 194 96 = some (96, .putfield 231, 3, 10, 23, 23, 0) := ceB_eq (by decide +kernel)
theorem f_194_99 : fnd 194 99 = some (99, .aload_n 0, 1, 0, 0, 0, 0) := ceB_eq (by decide +kernel)
theorem f_194_100 : fnd 194 100 = some (100, .getfield 16, 3, 10, 10, 10, 0) := ceB_eq (by decide +kernel)
theorem f_194_103 : fnd 194 103 = some (103, .iconst 0, 1, 0, 0, 0, 0) := ceB_eq (by decide +kernel)
theorem f_194_104 : fnd 194 104 = some (104, .iaload, 1, 0, 0, 0, 0) := ceB_eq (by decide +kernel)
theorem f_194_105 : fnd 194 105 = some (105, .ireturn, 1, 0, 0, 0, 0) := ceB_eq (by decide +kernel)
theorem rk_194 : rkm 194 = 0 := by decide +kernel
theorem ml_194 : (mth 194).2.1 = 2 := by decide +kernel
set_option maxRecDepth 100000 in
theorem T_Z_takeMachine (k0 i0 : Int) (σ : ST) (Q : Option AV → ST → Prop) (h :
  ((1 : Int) = 0 ∨ (1 : Int) = 1) ∧
  wp m_Z_takeMachine (7, [some (.inr (.inr (40, k0, i0))), some (.inl 0)], [], (up σ 40 k0 i0 11 1)) Q) :
  wpM m_Z_takeMachine [.inr (.inr (40, k0, i0))] σ Q :=
 wpM_of ml_194 (L := [some (.inr (.inr (40, k0, i0))), none]) rfl
 (w_aload_n (p' := 1) f_194_0 rfl rfl
 (w_iconst (p' := 2) f_194_1 rfl
 (w_putZ (p' := 5) f_194_2 rfl rfl (c' := 11) rfl h.1 rfl
 (w_iconst (p' := 6) f_194_5 rfl
 (w_istore_n (p' := 7) f_194_6 (L' := [some (.inr (.inr (40, k0, i0))), some (.inl 0)]) rfl rfl
 (h.2))))))
set_option maxRecDepth 100000 in
theorem T_Z_takeMachine_7 (k0 i0 x1 : Int) (σ : ST) (Q : Option AV → ST → Prop) (h :
  (((4 ≤ x1 : Prop) →
    wp m_Z_takeMachine (32, [some (.inr (.inr (40, k0, i0))), some (.inl 0)], [], σ) Q) ∧
  (¬ (4 ≤ x1) →
    ((0 : Int) ≤ x1 ∧ (x1 : Int) < 4) ∧
    ((0 : Int) ≤ x1 ∧ (x1 : Int) < 4) ∧
    wp m_Z_takeMachine (7, [some (.inr (.inr (40, k0, i0))), some (.inl (wr (x1 + 1)))], [], (up σ 43 0 0 x1 (σ 42 0 0 x1))) Q))) :
  wp m_Z_takeMachine (7, [some (.inr (.inr (40, k0, i0))), some (.inl x1)], [], σ) Q :=
 w_iload_n (p' := 8) f_194_7 rfl rfl
 (w_iconst (p' := 9) f_194_8 rfl
 (w_icmp (p' := 30) (q' := 12) f_194_9 rfl rfl
 (fun c101 => w_iconst (p' := 31) f_194_30 rfl
 (w_istore_n (p' := 32) f_194_31 (L' := [some (.inr (.inr (40, k0, i0))), some (.inl 0)]) rfl rfl
 ((h.1 c101))))
 (fun c101 => w_aload_n (p' := 13) f_194_12 rfl rfl
 (w_getfield (p' := 16) f_194_13 rfl (x := .inr (.inr (43, 0, 0))) rfl rfl
 (w_iload_n (p' := 17) f_194_16 rfl rfl
 (w_aload_n (p' := 18) f_194_17 rfl rfl
 (w_getfield (p' := 21) f_194_18 rfl (x := .inr (.inr (42, 0, 0))) rfl rfl
 (w_iload_n (p' := 22) f_194_21 rfl rfl
 (w_iaload (p' := 23) f_194_22 rfl (n := 4) rfl (h.2 c101).1 rfl
 (w_iastore (p' := 24) f_194_23 rfl (n := 4) rfl (h.2 c101).2.1 rfl
 (w_iinc (p' := 27) f_194_24 rfl (L' := [some (.inr (.inr (40, k0, i0))), some (.inl (wr (x1 + 1)))]) rfl rfl
 (w_goto (p' := 7) f_194_27 rfl
 ((h.2 c101).2.2)))))))))))))
set_option maxRecDepth 100000 in
theorem T_Z_takeMachine_32 (k0 i0 x1 : Int) (σ : ST) (Q : Option AV → ST → Prop) (h :
  (((526 ≤ x1 : Prop) →
    wp m_Z_takeMachine (54, [some (.inr (.inr (40, k0, i0))), some (.inl 0)], [], σ) Q) ∧
  (¬ (526 ≤ x1) →
    ((0 : Int) ≤ x1 ∧ (x1 : Int) < 526) ∧
    wp m_Z_takeMachine (32, [some (.inr (.inr (40, k0, i0))), some (.inl (wr (x1 + 1)))], [], (up σ 46 0 0 x1 0)) Q))) :
  wp m_Z_takeMachine (32, [some (.inr (.inr (40, k0, i0))), some (.inl x1)], [], σ) Q :=
 w_iload_n (p' := 33) f_194_32 rfl rfl
 (w_sipush (p' := 36) f_194_33 rfl
 (w_icmp (p' := 52) (q' := 39) f_194_36 rfl rfl
 (fun c101 => w_iconst (p' := 53) f_194_52 rfl
 (w_istore_n (p' := 54) f_194_53 (L' := [some (.inr (.inr (40, k0, i0))), some (.inl 0)]) rfl rfl
 ((h.1 c101))))
 (fun c101 => w_aload_n (p' := 40) f_194_39 rfl rfl
 (w_getfield (p' := 43) f_194_40 rfl (x := .inr (.inr (46, 0, 0))) rfl rfl
 (w_iload_n (p' := 44) f_194_43 rfl rfl
 (w_iconst (p' := 45) f_194_44 rfl
 (w_iastore (p' := 46) f_194_45 rfl (n := 526) rfl (h.2 c101).1 rfl
 (w_iinc (p' := 49) f_194_46 rfl (L' := [some (.inr (.inr (40, k0, i0))), some (.inl (wr (x1 + 1)))]) rfl rfl
 (w_goto (p' := 32) f_194_49 rfl
 ((h.2 c101).2))))))))))
set_option maxRecDepth 100000 in
theorem T_Z_takeMachine_54 (k0 i0 x1 : Int) (σ : ST) (Q : Option AV → ST → Prop) (h :
  (((10 ≤ x1 : Prop) →
    wp m_Z_takeMachine (73, [some (.inr (.inr (40, k0, i0))), some (.inl 0)], [], σ) Q) ∧
  (¬ (10 ≤ x1) →
    wpM m_Z_clearPage [.inr (.inr (40, k0, i0)), .inl x1] σ (asV fun s101 =>
    wp m_Z_takeMachine (54, [some (.inr (.inr (40, k0, i0))), some (.inl (wr (x1 + 1)))], [], s101) Q)))) :
  wp m_Z_takeMachine (54, [some (.inr (.inr (40, k0, i0))), some (.inl x1)], [], σ) Q :=
 w_iload_n (p' := 55) f_194_54 rfl rfl
 (w_bipush (p' := 57) f_194_55 rfl
 (w_icmp (p' := 71) (q' := 60) f_194_57 rfl rfl
 (fun c102 => w_iconst (p' := 72) f_194_71 rfl
 (w_istore_n (p' := 73) f_194_72 (L' := [some (.inr (.inr (40, k0, i0))), some (.inl 0)]) rfl rfl
 ((h.1 c102))))
 (fun c102 => w_aload_n (p' := 61) f_194_60 rfl rfl
 (w_iload_n (p' := 62) f_194_61 rfl rfl
 (w_callV (p' := 65) f_194_62 rfl rfl rfl rfl rfl (r := []) rfl rfl (kV rk_191 fun s101 h101 =>
 w_iinc (p' := 68) f_194_65 rfl (L' := [some (.inr (.inr (40, k0, i0))), some (.inl (wr (x1 + 1)))]) rfl rfl
 (w_goto (p' := 54) f_194_68 rfl
 (h101))) (h.2 c102))))))
set_option maxRecDepth 100000 in
theorem T_Z_takeMachine_73 (k0 i0 x1 : Int) (σ : ST) (Q : Option AV → ST → Prop) (h :
  (((3 ≤ x1 : Prop) →
    ((0 : Int) = 0 ∨ (0 : Int) = 1) ∧
    ((0 : Int) ≤ 0 ∧ (0 : Int) < 4) ∧
    Q (some (.inl ((up (up σ 40 k0 i0 18 0) 40 k0 i0 23 0) 43 0 0 0))) (up (up σ 40 k0 i0 18 0) 40 k0 i0 23 0)) ∧
  (¬ (3 ≤ x1) →
    wpM m_Z_putOutside [.inr (.inr (40, k0, i0)), .inl x1] σ (asV fun s101 =>
    wp m_Z_takeMachine (73, [some (.inr (.inr (40, k0, i0))), some (.inl (wr (x1 + 1)))], [], s101) Q)))) :
  wp m_Z_takeMachine (73, [some (.inr (.inr (40, k0, i0))), some (.inl x1)], [], σ) Q :=
 w_iload_n (p' := 74) f_194_73 rfl rfl
 (w_iconst (p' := 75) f_194_74 rfl
 (w_icmp (p' := 89) (q' := 78) f_194_75 rfl rfl
 (fun c102 => w_aload_n (p' := 90) f_194_89 rfl rfl
 (w_iconst (p' := 91) f_194_90 rfl
 (w_putI (p' := 94) f_194_91 rfl rfl (c' := 18) rfl rfl
 (w_aload_n (p' := 95) f_194_94 rfl rfl
 (w_iconst (p' := 96) f_194_95 rfl
 (w_putZ (p' := 99) f_194_96 rfl rfl (c' := 23) rfl (h.1 c102).1 rfl
 (w_aload_n (p' := 100) f_194_99 rfl rfl
 (w_getfield (p' := 103) f_194_100 rfl (x := .inr (.inr (43, 0, 0))) rfl rfl
 (w_iconst (p' := 104) f_194_103 rfl
 (w_iaload (p' := 105) f_194_104 rfl (n := 4) rfl (h.1 c102).2.1 rfl
 (w_iret f_194_105 rk_194 (h.1 c102).2.2)))))))))))
 (fun c102 => w_aload_n (p' := 79) f_194_78 rfl rfl
 (w_iload_n (p' := 80) f_194_79 rfl rfl
 (w_callV (p' := 83) f_194_80 rfl rfl rfl rfl rfl (r := []) rfl rfl (kV rk_193 fun s101 h101 =>
 w_iinc (p' := 86) f_194_83 rfl (L' := [some (.inr (.inr (40, k0, i0))), some (.inl (wr (x1 + 1)))]) rfl rfl
 (w_goto (p' := 73) f_194_86 rfl
 (h101))) (h.2 c102))))))
/-! ClosedRoomsModel.text(I)I -/
theorem f_195_0 : fnd 195 0 = some (0, .iload_n 1, 1, 0, 0, 0, 0) := ceB_eq (by decide +kernel)
theorem f_195_1 : fnd 195 1 = some (1, .ifCond .ne 21, 3, 0, 0, 0, 0) := ceB_eq (by decide +kernel)
theorem f_195_4 : fnd 195 4 = some (4, .aload_n 0, 1, 0, 0, 0, 0) := ceB_eq (by decide +kernel)
theorem f_195_5 : fnd 195 5 = some (5, .invokevirtual 193, 3, 185, 1, 10, 0) := ceB_eq (by decide +kernel)
theorem f_195_8 : fnd 195 8 = some (8, .iconst (-1), 1, 0, 0, 0, 0) := ceB_eq (by decide +kernel)
theorem f_195_9 : fnd 195 9 = some (9, .if_icmp .ne 13, 3, 0, 0, 0, 0) := ceB_eq (by decide +kernel)
theorem f_195_12 : fnd 195 12 = some (12, .aload_n 0, 1, 0, 0, 0, 0) := ceB_eq (by decide +kernel)
theorem f_195_13 : fnd 195 13 = some (13, .iconst 0, 1, 0, 0, 0, 0) := ceB_eq (by decide +kernel)
theorem f_195_14 : fnd 195 14 = some (14, .putfield 51, 3, 10, 2, 2, 0) := ceB_eq (by decide +kernel)
theorem f_195_17 : fnd 195 17 = some (17, .aload_n 0, 1, 0, 0, 0, 0) := ceB_eq (by decide +kernel)
theorem f_195_18 : fnd 195 18 = some (18, .invokevirtual 237, 3, 194, 1, 10, 0) := ceB_eq (by decide +kernel)
theorem f_195_21 : fnd 195 21 = some (21, .ireturn, 1, 0, 0, 0, 0) := ceB_eq (by decide +kernel)
theorem f_195_22 : fnd 195 22 = some (22, .iload_n 1, 1, 0, 0, 0, 0) := ceB_eq (by decide +kernel)
theorem f_195_23 : fnd 195 23 = some (23, .iconst 1, 1, 0, 0, 0, 0) := ceB_eq (by decide +kernel)
theorem f_195_24 : fnd 195 24 = some (24, .if_icmp .ne 45, 3, 0, 0, 0, 0) := ceB_eq (by decide +kernel)
theorem f_195_27 : fnd 195 27 = some (27, .aload_n 0, 1, 0, 0, 0, 0) := ceB_eq (by decide +kernel)
theorem f_195_28 : fnd 195 28 = some (28, .getfield 240, 3, 10, 14, 14, 0) := ceB_eq (by decide +kernel)
theorem f_195_31 : fnd 195 31 = some (31, .iconst 4, 1, 0, 0, 0, 0) := ceB_eq (by decide +kernel)
theorem f_195_32 : fnd 195 32 = some (32, .if_icmp .ge 37, 3, 0, 0, 0, 0) := ceB_eq (by decide +kernel)
theorem f_195_35 : fnd 195 35 = some (35, .aload_n 0, 1, 0, 0, 0, 0) := ceB_eq (by decide +kernel)
theorem f_195_36 : fnd 195 36 = some (36, .aload_n 0, 1, 0, 0, 0, 0) := ceB_eq (by decide +kernel)
theorem f_195_37 : fnd 195 37 = some (37, .getfield 240, 3, 10, 14, 14, 0) := ceB_eq (by decide +kernel)
theorem f_195_40 : fnd 195 40 = some (40, .invokevirtual 196, 3, 188, 2, 10, 0) := ceB_eq (by decide +kernel)
theorem f_195_43 : fnd 195 43 = some (43, .iconst (-1), 1, 0, 0, 0, 0) := ceB_eq (by decide +kernel)
theorem f_195_44 : fnd 195 44 = some (44, .if_icmp .ne 25, 3, 0, 0, 0, 0) := ceB_eq (by decide +kernel)
theorem f_195_47 : fnd 195 47 = some (47, .aload_n 0, 1, 0, 0, 0, 0) := ceB_eq (by decide +kernel)
theorem f_195_48 : fnd 195 48 = some (48, .iconst 0, 1, 0, 0, 0, 0) := ceB_eq (by decide +kernel)
theorem f_195_49 : fnd 195 49 = some (49, .putfield 51, 3, 10, 2, 2, 0) := ceB_eq (by decide +kernel)
theorem f_195_52 : fnd 195 52 = some (52, .aload_n 0, 1, 0, 0, 0, 0) := ceB_eq (by decide +kernel)
theorem f_195_53 : fnd 195 53 = some (53, .dup, 1, 0, 0, 0, 0) := ceB_eq (by decide +kernel)
theorem f_195_54 : fnd 195 54 = some (54, .getfield 240, 3, 10, 14, 14, 0) := ceB_eq (by decide +kernel)
theorem f_195_57 : fnd 195 57 = some (57, .iconst 1, 1, 0, 0, 0, 0) := ceB_eq (by decide +kernel)
theorem f_195_58 : fnd 195 58 = some (58, .iadd, 1, 0, 0, 0, 0) := ceB_eq (by decide +kernel)
theorem f_195_59 : fnd 195 59 = some (59, .putfield 240, 3, 10, 14, 14, 0) := ceB_eq (by decide +kernel)
theorem f_195_62 : fnd 195 62 = some (62, .aload_n 0, 1, 0, 0, 0, 0) := ceB_eq (by decide +kernel)
theorem f_195_63 : fnd 195 63 = some (63, .getfield 240, 3, 10, 14, 14, 0) := ceB_eq (by decide +kernel)
theorem f_195_66 : fnd 195 66 = some (66, .iconst 1, 1, 0, 0, 0, 0) := ceB_eq (by decide +kernel)
theorem f_195_67 : fnd 195 67 = some (67, .isub, 1, 0, 0, 0, 0) := ceB_eq (by decide +kernel)
theorem f_195_68 : fnd 195 68 = some (68, .ireturn, 1, 0, 0, 0, 0) := ceB_eq (by decide +kernel)
theorem f_195_69 : fnd 195 69 = some (69, .iconst (-1), 1, 0, 0, 0, 0) := ceB_eq (by decide +kernel)
theorem f_195_70 : fnd 195 70 = some (70, .ireturn, 1, 0, 0, 0, 0) := ceB_eq (by decide +kernel)
theorem rk_195 : rkm 195 = 0 := by decide +kernel
theorem ml_195 : (mth 195).2.1 = 2 := by decide +kernel
set_option maxRecDepth 100000 in
theorem T_Z_text (k0 i0 x1 : Int) (σ : ST) (Q : Option AV → ST → Prop) (h :
  (((x1 ≠ 0 : Prop) →
    wp m_Z_text (22, [some (.inr (.inr (40, k0, i0))), some (.inl x1)], [], σ) Q) ∧
  (¬ (x1 ≠ 0) →
    wpM m_Z_readMachine [.inr (.inr (40, k0, i0))] σ (asI fun r101 s101 =>
    (((r101 ≠ (-1) : Prop) →
      wp m_Z_text (22, [some (.inr (.inr (40, k0, i0))), some (.inl x1)], [], s101) Q) ∧
    (¬ (r101 ≠ (-1)) →
      wpM m_Z_takeMachine [.inr (.inr (40, k0, i0))] (up s101 40 k0 i0 2 0) (asI fun r102 s102 =>
      Q (some (.inl r102)) s102))))))) :
  wpM m_Z_text [.inr (.inr (40, k0, i0)), .inl x1] σ Q :=
 wpM_of ml_195 (L := [some (.inr (.inr (40, k0, i0))), some (.inl x1)]) rfl
 (w_iload_n (p' := 1) f_195_0 rfl rfl
 (w_if (p' := 22) (q' := 4) f_195_1 rfl rfl
 (fun c104 => (h.1 c104))
 (fun c104 => w_aload_n (p' := 5) f_195_4 rfl rfl
 (w_callV (p' := 8) f_195_5 rfl rfl rfl rfl rfl (r := []) rfl rfl (kI (.inl rk_185) fun r101 s101 h101 =>
 w_iconst (p' := 9) f_195_8 rfl
 (w_icmp (p' := 22) (q' := 12) f_195_9 rfl rfl
 (fun c103 => (h101.1 c103))
 (fun c103 => w_aload_n (p' := 13) f_195_12 rfl rfl
 (w_iconst (p' := 14) f_195_13 rfl
 (w_putI (p' := 17) f_195_14 rfl rfl (c' := 2) rfl rfl
 (w_aload_n (p' := 18) f_195_17 rfl rfl
 (w_callV (p' := 21) f_195_18 rfl rfl rfl rfl rfl (r := []) rfl rfl (kI (.inl rk_194) fun r102 s102 h102 =>
 w_iret f_195_21 rk_195 h102) (h101.2 c103)))))))) (h.2 c104)))))
set_option maxRecDepth 100000 in
theorem T_Z_text_22 (k0 i0 x1 : Int) (σ : ST) (Q : Option AV → ST → Prop) (h :
  (((x1 ≠ 1 : Prop) →
    Q (some (.inl (-1))) σ) ∧
  (¬ (x1 ≠ 1) →
    (((4 ≤ (σ 40 k0 i0 14) : Prop) →
      Q (some (.inl (-1))) σ) ∧
    (¬ (4 ≤ (σ 40 k0 i0 14)) →
      wpM m_Z_readScript [.inr (.inr (40, k0, i0)), .inl (σ 40 k0 i0 14)] σ (asI fun r101 s101 =>
      (((r101 ≠ (-1) : Prop) →
        Q (some (.inl (-1))) s101) ∧
      (¬ (r101 ≠ (-1)) →
        Q (some (.inl (wr (((up (up s101 40 k0 i0 2 0) 40 k0 i0 14 (wr (((up s101 40 k0 i0 2 0) 40 k0 i0 14) + 1))) 40 k0 i0 14) - 1)))) (up (up s101 40 k0 i0 2 0) 40 k0 i0 14 (wr (((up s101 40 k0 i0 2 0) 40 k0 i0 14) + 1))))))))))) :
  wp m_Z_text (22, [some (.inr (.inr (40, k0, i0))), some (.inl x1)], [], σ) Q :=
 w_iload_n (p' := 23) f_195_22 rfl rfl
 (w_iconst (p' := 24) f_195_23 rfl
 (w_icmp (p' := 69) (q' := 27) f_195_24 rfl rfl
 (fun c104 => w_iconst (p' := 70) f_195_69 rfl
 (w_iret f_195_70 rk_195 (h.1 c104)))
 (fun c104 => w_aload_n (p' := 28) f_195_27 rfl rfl
 (w_getfield (p' := 31) f_195_28 rfl (x := .inl (σ 40 k0 i0 14)) rfl rfl
 (w_iconst (p' := 32) f_195_31 rfl
 (w_icmp (p' := 69) (q' := 35) f_195_32 rfl rfl
 (fun c103 => w_iconst (p' := 70) f_195_69 rfl
 (w_iret f_195_70 rk_195 ((h.2 c104).1 c103)))
 (fun c103 => w_aload_n (p' := 36) f_195_35 rfl rfl
 (w_aload_n (p' := 37) f_195_36 rfl rfl
 (w_getfield (p' := 40) f_195_37 rfl (x := .inl (σ 40 k0 i0 14)) rfl rfl
 (w_callV (p' := 43) f_195_40 rfl rfl rfl rfl rfl (r := []) rfl rfl (kI (.inl rk_188) fun r101 s101 h101 =>
 w_iconst (p' := 44) f_195_43 rfl
 (w_icmp (p' := 69) (q' := 47) f_195_44 rfl rfl
 (fun c102 => w_iconst (p' := 70) f_195_69 rfl
 (w_iret f_195_70 rk_195 (h101.1 c102)))
 (fun c102 => w_aload_n (p' := 48) f_195_47 rfl rfl
 (w_iconst (p' := 49) f_195_48 rfl
 (w_putI (p' := 52) f_195_49 rfl rfl (c' := 2) rfl rfl
 (w_aload_n (p' := 53) f_195_52 rfl rfl
 (w_dupR (p' := 54) f_195_53 rfl
 (w_getfield (p' := 57) f_195_54 rfl (x := .inl ((up s101 40 k0 i0 2 0) 40 k0 i0 14)) rfl rfl
 (w_iconst (p' := 58) f_195_57 rfl
 (w_iadd (p' := 59) f_195_58 rfl
 (w_putI (p' := 62) f_195_59 rfl rfl (c' := 14) rfl rfl
 (w_aload_n (p' := 63) f_195_62 rfl rfl
 (w_getfield (p' := 66) f_195_63 rfl (x := .inl ((up (up s101 40 k0 i0 2 0) 40 k0 i0 14 (wr (((up s101 40 k0 i0 2 0) 40 k0 i0 14) + 1))) 40 k0 i0 14)) rfl rfl
 (w_iconst (p' := 67) f_195_66 rfl
 (w_isub (p' := 68) f_195_67 rfl
 (w_iret f_195_68 rk_195 (h101.2 c102))))))))))))))))) ((h.2 c104).2 c103)))))))))))
/-! ClosedRoomsModel.ofPage(II)I -/
theorem f_196_0 : fnd 196 0 = some (0, .aload_n 0, 1, 0, 0, 0, 0) := ceB_eq (by decide +kernel)
theorem f_196_1 : fnd 196 1 = some (1, .getfield 25, 3, 10, 15, 15, 0) := ceB_eq (by decide +kernel)
theorem f_196_4 : fnd 196 4 = some (4, .bipush 11, 2, 0, 0, 0, 0) := ceB_eq (by decide +kernel)
theorem f_196_6 : fnd 196 6 = some (6, .iload_n 1, 1, 0, 0, 0, 0) := ceB_eq (by decide +kernel)
theorem f_196_7 : fnd 196 7 = some (7, .imul, 1, 0, 0, 0, 0) := ceB_eq (by decide +kernel)
theorem f_196_8 : fnd 196 8 = some (8, .iload_n 2, 1, 0, 0, 0, 0) := ceB_eq (by decide +kernel)
theorem f_196_9 : fnd 196 9 = some (9, .iadd, 1, 0, 0, 0, 0) := ceB_eq (by decide +kernel)
theorem f_196_10 : fnd 196 10 = some (10, .iaload, 1, 0, 0, 0, 0) := ceB_eq (by decide +kernel)
theorem f_196_11 : fnd 196 11 = some (11, .ireturn, 1, 0, 0, 0, 0) := ceB_eq (by decide +kernel)
theorem rk_196 : rkm 196 = 0 := by decide +kernel
theorem ml_196 : (mth 196).2.1 = 3 := by decide +kernel
set_option maxRecDepth 100000 in
theorem T_Z_ofPage (k0 i0 x1 x2 : Int) (σ : ST) (Q : Option AV → ST → Prop) (h :
  ((0 : Int) ≤ (wr ((wr (11 * x1)) + x2)) ∧ ((wr ((wr (11 * x1)) + x2)) : Int) < 526) ∧
  Q (some (.inl (σ 46 0 0 (wr ((wr (11 * x1)) + x2))))) σ) :
  wpM m_Z_ofPage [.inr (.inr (40, k0, i0)), .inl x1, .inl x2] σ Q :=
 wpM_of ml_196 (L := [some (.inr (.inr (40, k0, i0))), some (.inl x1), some (.inl x2)]) rfl
 (w_aload_n (p' := 1) f_196_0 rfl rfl
 (w_getfield (p' := 4) f_196_1 rfl (x := .inr (.inr (46, 0, 0))) rfl rfl
 (w_bipush (p' := 6) f_196_4 rfl
 (w_iload_n (p' := 7) f_196_6 rfl rfl
 (w_imul (p' := 8) f_196_7 rfl
 (w_iload_n (p' := 9) f_196_8 rfl rfl
 (w_iadd (p' := 10) f_196_9 rfl
 (w_iaload (p' := 11) f_196_10 rfl (n := 526) rfl h.1 rfl
 (w_iret f_196_11 rk_196 h.2)))))))))
/-! ClosedRoomsModel.freePage()I -/
theorem f_197_0 : fnd 197 0 = some (0, .iconst 0, 1, 0, 0, 0, 0) := ceB_eq (by decide +kernel)
theorem f_197_1 : fnd 197 1 = some (1, .istore_n 1, 1, 0, 0, 0, 0) := ceB_eq (by decide +kernel)
theorem f_197_2 : fnd 197 2 = some (2, .iload_n 1, 1, 0, 0, 0, 0) := ceB_eq (by decide +kernel)
theorem f_197_3 : fnd 197 3 = some (3, .aload_n 0, 1, 0, 0, 0, 0) := ceB_eq (by decide +kernel)
theorem f_197_4 : fnd 197 4 = some (4, .getfield 16, 3, 10, 10, 10, 0) := ceB_eq (by decide +kernel)
theorem f_197_7 : fnd 197 7 = some (7, .iconst 0, 1, 0, 0, 0, 0) := ceB_eq (by decide +kernel)
theorem f_197_8 : fnd 197 8 = some (8, .iaload, 1, 0, 0, 0, 0) := ceB_eq (by decide +kernel)
theorem f_197_9 : fnd 197 9 = some (9, .if_icmp .ge 20, 3, 0, 0, 0, 0) := ceB_eq (by decide +kernel)
theorem f_197_12 : fnd 197 12 = some (12, .aload_n 0, 1, 0, 0, 0, 0) := ceB_eq (by decide +kernel)
theorem f_197_13 : fnd 197 13 = some (13, .iload_n 1, 1, 0, 0, 0, 0) := ceB_eq (by decide +kernel)
theorem f_197_14 : fnd 197 14 = some (14, .iconst 0, 1, 0, 0, 0, 0) := ceB_eq (by decide +kernel)
theorem f_197_15 : fnd 197 15 = some (15, .invokevirtual 206, 3, 196, 3, 10, 0) := ceB_eq (by decide +kernel)
theorem f_197_18 : fnd 197 18 = some (18, .ifCond .ne 5, 3, 0, 0, 0, 0) := ceB_eq (by decide +kernel)
theorem f_197_21 : fnd 197 21 = some (21, .iload_n 1, 1, 0, 0, 0, 0) := ceB_eq (by decide +kernel)
theorem f_197_22 : fnd 197 22 = some (22, .ireturn, 1, 0, 0, 0, 0) := ceB_eq (by decide +kernel)
theorem f_197_23 : fnd 197 23 = some (23, .iinc 1 1, 3, 0, 0, 0, 0) := ceB_eq (by decide +kernel)
theorem f_197_26 : fnd 197 26 = some (26, .goto (-24), 3, 0, 0, 0, 0) := ceB_eq (by decide +kernel)
theorem f_197_29 : fnd 197 29 = some (29, .iconst (-1), 1, 0, 0, 0, 0) := ceB_eq (by decide +kernel)
theorem f_197_30 : fnd 197 30 = some (30, .ireturn, 1, 0, 0, 0, 0) := ceB_eq (by decide +kernel)
theorem rk_197 : rkm 197 = 0 := by decide +kernel
theorem ml_197 : (mth 197).2.1 = 2 := by decide +kernel
set_option maxRecDepth 100000 in
theorem T_Z_freePage (k0 i0 : Int) (σ : ST) (Q : Option AV → ST → Prop) (h :
  wp m_Z_freePage (2, [some (.inr (.inr (40, k0, i0))), some (.inl 0)], [], σ) Q) :
  wpM m_Z_freePage [.inr (.inr (40, k0, i0))] σ Q :=
 wpM_of ml_197 (L := [some (.inr (.inr (40, k0, i0))), none]) rfl
 (w_iconst (p' := 1) f_197_0 rfl
 (w_istore_n (p' := 2) f_197_1 (L' := [some (.inr (.inr (40, k0, i0))), some (.inl 0)]) rfl rfl
 (h)))
set_option maxRecDepth 100000 in
theorem T_Z_freePage_2 (k0 i0 x1 : Int) (σ : ST) (Q : Option AV → ST → Prop) (h :
  ((0 : Int) ≤ 0 ∧ (0 : Int) < 4) ∧
  ((((σ 43 0 0 0) ≤ x1 : Prop) →
    Q (some (.inl (-1))) σ) ∧
  (¬ ((σ 43 0 0 0) ≤ x1) →
    wpM m_Z_ofPage [.inr (.inr (40, k0, i0)), .inl x1, .inl 0] σ (asI fun r101 s101 =>
    (((r101 ≠ 0 : Prop) →
      wp m_Z_freePage (2, [some (.inr (.inr (40, k0, i0))), some (.inl (wr (x1 + 1)))], [], s101) Q) ∧
    (¬ (r101 ≠ 0) →
      Q (some (.inl x1)) s101)))))) :
  wp m_Z_freePage (2, [some (.inr (.inr (40, k0, i0))), some (.inl x1)], [], σ) Q :=
 w_iload_n (p' := 3) f_197_2 rfl rfl
 (w_aload_n (p' := 4) f_197_3 rfl rfl
 (w_getfield (p' := 7) f_197_4 rfl (x := .inr (.inr (43, 0, 0))) rfl rfl
 (w_iconst (p' := 8) f_197_7 rfl
 (w_iaload (p' := 9) f_197_8 rfl (n := 4) rfl h.1 rfl
 (w_icmp (p' := 29) (q' := 12) f_197_9 rfl rfl
 (fun c103 => w_iconst (p' := 30) f_197_29 rfl
 (w_iret f_197_30 rk_197 (h.2.1 c103)))
 (fun c103 => w_aload_n (p' := 13) f_197_12 rfl rfl
 (w_iload_n (p' := 14) f_197_13 rfl rfl
 (w_iconst (p' := 15) f_197_14 rfl
 (w_callV (p' := 18) f_197_15 rfl rfl rfl rfl rfl (r := []) rfl rfl (kI (.inl rk_196) fun r101 s101 h101 =>
 w_if (p' := 23) (q' := 21) f_197_18 rfl rfl
 (fun c102 => w_iinc (p' := 26) f_197_23 rfl (L' := [some (.inr (.inr (40, k0, i0))), some (.inl (wr (x1 + 1)))]) rfl rfl
 (w_goto (p' := 2) f_197_26 rfl
 ((h101.1 c102))))
 (fun c102 => w_iload_n (p' := 22) f_197_21 rfl rfl
 (w_iret f_197_22 rk_197 (h101.2 c102)))) (h.2.2 c103))))))))))
/-! ClosedRoomsModel.ofRoom(II)I -/
theorem f_198_0 : fnd 198 0 = some (0, .aload_n 0, 1, 0, 0, 0, 0) := ceB_eq (by decide +kernel)
theorem f_198_1 : fnd 198 1 = some (1, .getfield 25, 3, 10, 15, 15, 0) := ceB_eq (by decide +kernel)
theorem f_198_4 : fnd 198 4 = some (4, .bipush 110, 2, 0, 0, 0, 0) := ceB_eq (by decide +kernel)
theorem f_198_6 : fnd 198 6 = some (6, .bipush 23, 2, 0, 0, 0, 0) := ceB_eq (by decide +kernel)
theorem f_198_8 : fnd 198 8 = some (8, .iload_n 1, 1, 0, 0, 0, 0) := ceB_eq (by decide +kernel)
theorem f_198_9 : fnd 198 9 = some (9, .imul, 1, 0, 0, 0, 0) := ceB_eq (by decide +kernel)
theorem f_198_10 : fnd 198 10 = some (10, .iadd, 1, 0, 0, 0, 0) := ceB_eq (by decide +kernel)
theorem f_198_11 : fnd 198 11 = some (11, .iload_n 2, 1, 0, 0, 0, 0) := ceB_eq (by decide +kernel)
theorem f_198_12 : fnd 198 12 = some (12, .iadd, 1, 0, 0, 0, 0) := ceB_eq (by decide +kernel)
theorem f_198_13 : fnd 198 13 = some (13, .iaload, 1, 0, 0, 0, 0) := ceB_eq (by decide +kernel)
theorem f_198_14 : fnd 198 14 = some (14, .ireturn, 1, 0, 0, 0, 0) := ceB_eq (by decide +kernel)
theorem rk_198 : rkm 198 = 0 := by decide +kernel
theorem ml_198 : (mth 198).2.1 = 3 := by decide +kernel
set_option maxRecDepth 100000 in
theorem T_Z_ofRoom (k0 i0 x1 x2 : Int) (σ : ST) (Q : Option AV → ST → Prop) (h :
  ((0 : Int) ≤ (wr ((wr (110 + (wr (23 * x1)))) + x2)) ∧ ((wr ((wr (110 + (wr (23 * x1)))) + x2)) : Int) < 526) ∧
  Q (some (.inl (σ 46 0 0 (wr ((wr (110 + (wr (23 * x1)))) + x2))))) σ) :
  wpM m_Z_ofRoom [.inr (.inr (40, k0, i0)), .inl x1, .inl x2] σ Q :=
 wpM_of ml_198 (L := [some (.inr (.inr (40, k0, i0))), some (.inl x1), some (.inl x2)]) rfl
 (w_aload_n (p' := 1) f_198_0 rfl rfl
 (w_getfield (p' := 4) f_198_1 rfl (x := .inr (.inr (46, 0, 0))) rfl rfl
 (w_bipush (p' := 6) f_198_4 rfl
 (w_bipush (p' := 8) f_198_6 rfl
 (w_iload_n (p' := 9) f_198_8 rfl rfl
 (w_imul (p' := 10) f_198_9 rfl
 (w_iadd (p' := 11) f_198_10 rfl
 (w_iload_n (p' := 12) f_198_11 rfl rfl
 (w_iadd (p' := 13) f_198_12 rfl
 (w_iaload (p' := 14) f_198_13 rfl (n := 526) rfl h.1 rfl
 (w_iret f_198_14 rk_198 h.2)))))))))))
/-! ClosedRoomsModel.freeRoom()I -/
theorem f_199_0 : fnd 199 0 = some (0, .iconst 0, 1, 0, 0, 0, 0) := ceB_eq (by decide +kernel)
theorem f_199_1 : fnd 199 1 = some (1, .istore_n 1, 1, 0, 0, 0, 0) := ceB_eq (by decide +kernel)
theorem f_199_2 : fnd 199 2 = some (2, .iload_n 1, 1, 0, 0, 0, 0) := ceB_eq (by decide +kernel)
theorem f_199_3 : fnd 199 3 = some (3, .iconst 4, 1, 0, 0, 0, 0) := ceB_eq (by decide +kernel)
theorem f_199_4 : fnd 199 4 = some (4, .if_icmp .ge 20, 3, 0, 0, 0, 0) := ceB_eq (by decide +kernel)
theorem f_199_7 : fnd 199 7 = some (7, .aload_n 0, 1, 0, 0, 0, 0) := ceB_eq (by decide +kernel)
theorem f_199_8 : fnd 199 8 = some (8, .iload_n 1, 1, 0, 0, 0, 0) := ceB_eq (by decide +kernel)
theorem f_199_9 : fnd 199 9 = some (9, .iconst 0, 1, 0, 0, 0, 0) := ceB_eq (by decide +kernel)
theorem f_199_10 : fnd 199 10 = some (10, .invokevirtual 209, 3, 198, 3, 10, 0) := ceB_eq (by decide +kernel)
theorem f_199_13 : fnd 199 13 = some (13, .ifCond .ne 5, 3, 0, 0, 0, 0) := ceB_eq (by decide +kernel)
theorem f_199_16 : fnd 199 16 = some (16, .iload_n 1, 1, 0, 0, 0, 0) := ceB_eq (by decide +kernel)
theorem f_199_17 : fnd 199 17 = some (17, .ireturn, 1, 0, 0, 0, 0) := ceB_eq (by decide +kernel)
theorem f_199_18 : fnd 199 18 = some (18, .iinc 1 1, 3, 0, 0, 0, 0) := ceB_eq (by decide +kernel)
theorem f_199_21 : fnd 199 21 = some (21, .goto (-19), 3, 0, 0, 0, 0) := ceB_eq (by decide +kernel)
theorem f_199_24 : fnd 199 24 = some (24, .iconst (-1), 1, 0, 0, 0, 0) := ceB_eq (by decide +kernel)
theorem f_199_25 : fnd 199 25 = some (25, .ireturn, 1, 0, 0, 0, 0) := ceB_eq (by decide +kernel)
theorem rk_199 : rkm 199 = 0 := by decide +kernel
theorem ml_199 : (mth 199).2.1 = 2 := by decide +kernel
set_option maxRecDepth 100000 in
theorem T_Z_freeRoom (k0 i0 : Int) (σ : ST) (Q : Option AV → ST → Prop) (h :
  wp m_Z_freeRoom (2, [some (.inr (.inr (40, k0, i0))), some (.inl 0)], [], σ) Q) :
  wpM m_Z_freeRoom [.inr (.inr (40, k0, i0))] σ Q :=
 wpM_of ml_199 (L := [some (.inr (.inr (40, k0, i0))), none]) rfl
 (w_iconst (p' := 1) f_199_0 rfl
 (w_istore_n (p' := 2) f_199_1 (L' := [some (.inr (.inr (40, k0, i0))), some (.inl 0)]) rfl rfl
 (h)))
set_option maxRecDepth 100000 in
theorem T_Z_freeRoom_2 (k0 i0 x1 : Int) (σ : ST) (Q : Option AV → ST → Prop) (h :
  (((4 ≤ x1 : Prop) →
    Q (some (.inl (-1))) σ) ∧
  (¬ (4 ≤ x1) →
    wpM m_Z_ofRoom [.inr (.inr (40, k0, i0)), .inl x1, .inl 0] σ (asI fun r101 s101 =>
    (((r101 ≠ 0 : Prop) →
      wp m_Z_freeRoom (2, [some (.inr (.inr (40, k0, i0))), some (.inl (wr (x1 + 1)))], [], s101) Q) ∧
    (¬ (r101 ≠ 0) →
      Q (some (.inl x1)) s101)))))) :
  wp m_Z_freeRoom (2, [some (.inr (.inr (40, k0, i0))), some (.inl x1)], [], σ) Q :=
 w_iload_n (p' := 3) f_199_2 rfl rfl
 (w_iconst (p' := 4) f_199_3 rfl
 (w_icmp (p' := 24) (q' := 7) f_199_4 rfl rfl
 (fun c103 => w_iconst (p' := 25) f_199_24 rfl
 (w_iret f_199_25 rk_199 (h.1 c103)))
 (fun c103 => w_aload_n (p' := 8) f_199_7 rfl rfl
 (w_iload_n (p' := 9) f_199_8 rfl rfl
 (w_iconst (p' := 10) f_199_9 rfl
 (w_callV (p' := 13) f_199_10 rfl rfl rfl rfl rfl (r := []) rfl rfl (kI (.inl rk_198) fun r101 s101 h101 =>
 w_if (p' := 18) (q' := 16) f_199_13 rfl rfl
 (fun c102 => w_iinc (p' := 21) f_199_18 rfl (L' := [some (.inr (.inr (40, k0, i0))), some (.inl (wr (x1 + 1)))]) rfl rfl
 (w_goto (p' := 2) f_199_21 rfl
 ((h101.1 c102))))
 (fun c102 => w_iload_n (p' := 17) f_199_16 rfl rfl
 (w_iret f_199_17 rk_199 (h101.2 c102)))) (h.2 c103)))))))
/-! ClosedRoomsModel.whyCreate(I)I -/
theorem f_200_0 : fnd 200 0 = some (0, .aload_n 0, 1, 0, 0, 0, 0) := ceB_eq (by decide +kernel)
theorem f_200_1 : fnd 200 1 = some (1, .getfield 199, 3, 10, 11, 11, 0) := ceB_eq (by decide +kernel)
theorem f_200_4 : fnd 200 4 = some (4, .ifCond .ne 7, 3, 0, 0, 0, 0) := ceB_eq (by decide +kernel)
theorem f_200_7 : fnd 200 7 = some (7, .iconst 0, 1, 0, 0, 0, 0) := ceB_eq (by decide +kernel)
theorem f_200_8 : fnd 200 8 = some (8, .goto 38, 3, 0, 0, 0, 0) := ceB_eq (by decide +kernel)
theorem f_200_11 : fnd 200 11 = some (11, .iload_n 1, 1, 0, 0, 0, 0) := ceB_eq (by decide +kernel)
theorem f_200_12 : fnd 200 12 = some (12, .iconst 1, 1, 0, 0, 0, 0) := ceB_eq (by decide +kernel)
theorem f_200_13 : fnd 200 13 = some (13, .bipush 8, 2, 0, 0, 0, 0) := ceB_eq (by decide +kernel)
theorem f_200_15 : fnd 200 15 = some (15, .invokestatic 54, 3, 168, 3, 10, 0) := ceB_eq (by decide +kernel)
theorem f_200_18 : fnd 200 18 = some (18, .ifCond .ne 7, 3, 0, 0, 0, 0) := ceB_eq (by decide +kernel)
theorem f_200_21 : fnd 200 21 = some (21, .iconst 1, 1, 0, 0, 0, 0) := ceB_eq (by decide +kernel)
theorem f_200_22 : fnd 200 22 = some (22, .goto 24, 3, 0, 0, 0, 0) := ceB_eq (by decide +kernel)
theorem f_200_25 : fnd 200 25 = some (25, .aload_n 0, 1, 0, 0, 0, 0) := ceB_eq (by decide +kernel)
theorem f_200_26 : fnd 200 26 = some (26, .invokevirtual 246, 3, 197, 1, 10, 0) := ceB_eq (by decide +kernel)
theorem f_200_29 : fnd 200 29 = some (29, .iconst (-1), 1, 0, 0, 0, 0) := ceB_eq (by decide +kernel)
theorem f_200_30 : fnd 200 30 = some (30, .if_icmp .eq 11, 3, 0, 0, 0, 0) := ceB_eq (by decide +kernel)
theorem f_200_33 : fnd 200 33 = some (33, .aload_n 0, 1, 0, 0, 0, 0) := ceB_eq (by decide +kernel)
theorem f_200_34 : fnd 200 34 = some (34, .invokevirtual 249, 3, 199, 1, 10, 0) := ceB_eq (by decide +kernel)
theorem f_200_37 : fnd 200 37 = some (37, .iconst (-1), 1, 0, 0, 0, 0) := ceB_eq (by decide +kernel)
theorem f_200_38 : fnd 200 38 = some (38, .if_icmp .ne 7, 3, 0, 0, 0, 0) := ceB_eq (by decide +kernel)
theorem f_200_41 : fnd 200 41 = some (41, .iconst 3, 1, 0, 0, 0, 0) := ceB_eq (by decide +kernel)
theorem f_200_42 : fnd 200 42 = some (42, .goto 4, 3, 0, 0, 0, 0) := ceB_eq (by decide +kernel)
theorem f_200_45 : fnd 200 45 = some (45, .iconst (-1), 1, 0, 0, 0, 0) := ceB_eq (by decide +kernel)
theorem f_200_46 : fnd 200 46 = some (46, .ireturn, 1, 0, 0, 0, 0) := ceB_eq (by decide +kernel)
theorem rk_200 : rkm 200 = 0 := by decide +kernel
theorem ml_200 : (mth 200).2.1 = 2 := by decide +kernel
set_option maxRecDepth 100000 in
theorem T_Z_whyCreate (k0 i0 x1 : Int) (σ : ST) (Q : Option AV → ST → Prop) (h :
  ((((bz (σ 40 k0 i0 11)) ≠ 0 : Prop) →
    wpM m_Z_in [.inl x1, .inl 1, .inl 8] σ (asI fun r101 s101 =>
    (((r101 ≠ 0 : Prop) →
      wpM m_Z_freePage [.inr (.inr (40, k0, i0))] s101 (asI fun r102 s102 =>
      (((r102 = (-1) : Prop) →
        Q (some (.inl 3)) s102) ∧
      (¬ (r102 = (-1)) →
        wpM m_Z_freeRoom [.inr (.inr (40, k0, i0))] s102 (asI fun r103 s103 =>
        (((r103 ≠ (-1) : Prop) →
          Q (some (.inl (-1))) s103) ∧
        (¬ (r103 ≠ (-1)) →
          Q (some (.inl 3)) s103))))))) ∧
    (¬ (r101 ≠ 0) →
      Q (some (.inl 1)) s101)))) ∧
  (¬ ((bz (σ 40 k0 i0 11)) ≠ 0) →
    Q (some (.inl 0)) σ))) :
  wpM m_Z_whyCreate [.inr (.inr (40, k0, i0)), .inl x1] σ Q :=
 wpM_of ml_200 (L := [some (.inr (.inr (40, k0, i0))), some (.inl x1)]) rfl
 (w_aload_n (p' := 1) f_200_0 rfl rfl
 (w_getfield (p' := 4) f_200_1 rfl (x := .inl (bz (σ 40 k0 i0 11))) rfl rfl
 (w_if (p' := 11) (q' := 7) f_200_4 rfl rfl
 (fun c107 => w_iload_n (p' := 12) f_200_11 rfl rfl
 (w_iconst (p' := 13) f_200_12 rfl
 (w_bipush (p' := 15) f_200_13 rfl
 (w_callS (p' := 18) f_200_15 rfl rfl rfl (r := []) rfl rfl (kI (.inr rk_168) fun r101 s101 h101 =>
 w_if (p' := 25) (q' := 21) f_200_18 rfl rfl
 (fun c106 => w_aload_n (p' := 26) f_200_25 rfl rfl
 (w_callV (p' := 29) f_200_26 rfl rfl rfl rfl rfl (r := []) rfl rfl (kI (.inl rk_197) fun r102 s102 h102 =>
 w_iconst (p' := 30) f_200_29 rfl
 (w_icmp (p' := 41) (q' := 33) f_200_30 rfl rfl
 (fun c105 => w_iconst (p' := 42) f_200_41 rfl
 (w_goto (p' := 46) f_200_42 rfl
 (w_iret f_200_46 rk_200 (h102.1 c105))))
 (fun c105 => w_aload_n (p' := 34) f_200_33 rfl rfl
 (w_callV (p' := 37) f_200_34 rfl rfl rfl rfl rfl (r := []) rfl rfl (kI (.inl rk_199) fun r103 s103 h103 =>
 w_iconst (p' := 38) f_200_37 rfl
 (w_icmp (p' := 45) (q' := 41) f_200_38 rfl rfl
 (fun c104 => w_iconst (p' := 46) f_200_45 rfl
 (w_iret f_200_46 rk_200 (h103.1 c104)))
 (fun c104 => w_iconst (p' := 42) f_200_41 rfl
 (w_goto (p' := 46) f_200_42 rfl
 (w_iret f_200_46 rk_200 (h103.2 c104)))))) (h102.2 c105))))) (h101.1 c106)))
 (fun c106 => w_iconst (p' := 22) f_200_21 rfl
 (w_goto (p' := 46) f_200_22 rfl
 (w_iret f_200_46 rk_200 (h101.2 c106))))) (h.1 c107)))))
 (fun c107 => w_iconst (p' := 8) f_200_7 rfl
 (w_goto (p' := 46) f_200_8 rfl
 (w_iret f_200_46 rk_200 (h.2 c107)))))))
/-! ClosedRoomsModel.isRoom(I)Z -/
theorem f_201_0 : fnd 201 0 = some (0, .aload_n 0, 1, 0, 0, 0, 0) := ceB_eq (by decide +kernel)
theorem f_201_1 : fnd 201 1 = some (1, .getfield 199, 3, 10, 11, 11, 0) := ceB_eq (by decide +kernel)
theorem f_201_4 : fnd 201 4 = some (4, .ifCond .eq 26, 3, 0, 0, 0, 0) := ceB_eq (by decide +kernel)
theorem f_201_7 : fnd 201 7 = some (7, .iload_n 1, 1, 0, 0, 0, 0) := ceB_eq (by decide +kernel)
theorem f_201_8 : fnd 201 8 = some (8, .iconst 0, 1, 0, 0, 0, 0) := ceB_eq (by decide +kernel)
theorem f_201_9 : fnd 201 9 = some (9, .iconst 3, 1, 0, 0, 0, 0) := ceB_eq (by decide +kernel)
theorem f_201_10 : fnd 201 10 = some (10, .invokestatic 54, 3, 168, 3, 10, 0) := ceB_eq (by decide +kernel)
theorem f_201_13 : fnd 201 13 = some (13, .ifCond .eq 17, 3, 0, 0, 0, 0) := ceB_eq (by decide +kernel)
theorem f_201_16 : fnd 201 16 = some (16, .aload_n 0, 1, 0, 0, 0, 0) := ceB_eq (by decide +kernel)
theorem f_201_17 : fnd 201 17 = some (17, .iload_n 1, 1, 0, 0, 0, 0) := ceB_eq (by decide +kernel)
theorem f_201_18 : fnd 201 18 = some (18, .iconst 0, 1, 0, 0, 0, 0) := ceB_eq (by decide +kernel)
theorem f_201_19 : fnd 201 19 = some (19, .invokevirtual 209, 3, 198, 3, 10, 0) := ceB_eq (by decide +kernel)
theorem f_201_22 : fnd 201 22 = some (22, .iconst 1, 1, 0, 0, 0, 0) := ceB_eq (by decide +kernel)
theorem f_201_23 : fnd 201 23 = some (23, .if_icmp .ne 7, 3, 0, 0, 0, 0) := ceB_eq (by decide +kernel)
theorem f_201_26 : fnd 201 26 = some (26, .iconst 1, 1, 0, 0, 0, 0) := ceB_eq (by decide +kernel)
theorem f_201_27 : fnd 201 27 = some (27, .goto 4, 3, 0, 0, 0, 0) := ceB_eq (by decide +kernel)
theorem f_201_30 : fnd 201 30 = some (30, .iconst 0, 1, 0, 0, 0, 0) := ceB_eq (by decide +kernel)
theorem f_201_31 : fnd 201 31 = some (31, .ireturn, 1, 0, 0, 0, 0) := ceB_eq (by decide +kernel)
theorem rk_201 : rkm 201 = 1 := by decide +kernel
theorem ml_201 : (mth 201).2.1 = 2 := by decide +kernel
set_option maxRecDepth 100000 in
theorem T_Z_isRoom (k0 i0 x1 : Int) (σ : ST) (Q : Option AV → ST → Prop) (h :
  ((((bz (σ 40 k0 i0 11)) = 0 : Prop) →
    ((0 : Int) = 0 ∨ (0 : Int) = 1) ∧ Q (some (.inl 0)) σ) ∧
  (¬ ((bz (σ 40 k0 i0 11)) = 0) →
    wpM m_Z_in [.inl x1, .inl 0, .inl 3] σ (asI fun r101 s101 =>
    (((r101 = 0 : Prop) →
      ((0 : Int) = 0 ∨ (0 : Int) = 1) ∧ Q (some (.inl 0)) s101) ∧
    (¬ (r101 = 0) →
      wpM m_Z_ofRoom [.inr (.inr (40, k0, i0)), .inl x1, .inl 0] s101 (asI fun r102 s102 =>
      (((r102 ≠ 1 : Prop) →
        ((0 : Int) = 0 ∨ (0 : Int) = 1) ∧ Q (some (.inl 0)) s102) ∧
      (¬ (r102 ≠ 1) →
        ((1 : Int) = 0 ∨ (1 : Int) = 1) ∧ Q (some (.inl 1)) s102))))))))) :
  wpM m_Z_isRoom [.inr (.inr (40, k0, i0)), .inl x1] σ Q :=
 wpM_of ml_201 (L := [some (.inr (.inr (40, k0, i0))), some (.inl x1)]) rfl
 (w_aload_n (p' := 1) f_201_0 rfl rfl
 (w_getfield (p' := 4) f_201_1 rfl (x := .inl (bz (σ 40 k0 i0 11))) rfl rfl
 (w_if (p' := 30) (q' := 7) f_201_4 rfl rfl
 (fun c105 => w_iconst (p' := 31) f_201_30 rfl
 (w_zret f_201_31 rk_201 (h.1 c105).1 (h.1 c105).2))
 (fun c105 => w_iload_n (p' := 8) f_201_7 rfl rfl
 (w_iconst (p' := 9) f_201_8 rfl
 (w_iconst (p' := 10) f_201_9 rfl
 (w_callS (p' := 13) f_201_10 rfl rfl rfl (r := []) rfl rfl (kI (.inr rk_168) fun r101 s101 h101 =>
 w_if (p' := 30) (q' := 16) f_201_13 rfl rfl
 (fun c104 => w_iconst (p' := 31) f_201_30 rfl
 (w_zret f_201_31 rk_201 (h101.1 c104).1 (h101.1 c104).2))
 (fun c104 => w_aload_n (p' := 17) f_201_16 rfl rfl
 (w_iload_n (p' := 18) f_201_17 rfl rfl
 (w_iconst (p' := 19) f_201_18 rfl
 (w_callV (p' := 22) f_201_19 rfl rfl rfl rfl rfl (r := []) rfl rfl (kI (.inl rk_198) fun r102 s102 h102 =>
 w_iconst (p' := 23) f_201_22 rfl
 (w_icmp (p' := 30) (q' := 26) f_201_23 rfl rfl
 (fun c103 => w_iconst (p' := 31) f_201_30 rfl
 (w_zret f_201_31 rk_201 (h102.1 c103).1 (h102.1 c103).2))
 (fun c103 => w_iconst (p' := 27) f_201_26 rfl
 (w_goto (p' := 31) f_201_27 rfl
 (w_zret f_201_31 rk_201 (h102.2 c103).1 (h102.2 c103).2))))) (h101.2 c104)))))) (h.2 c105))))))))
/-! ClosedRoomsModel.isAddress(II)Z -/
theorem f_202_0 : fnd 202 0 = some (0, .iload_n 2, 1, 0, 0, 0, 0) := ceB_eq (by decide +kernel)
theorem f_202_1 : fnd 202 1 = some (1, .iconst 0, 1, 0, 0, 0, 0) := ceB_eq (by decide +kernel)
theorem f_202_2 : fnd 202 2 = some (2, .aload_n 0, 1, 0, 0, 0, 0) := ceB_eq (by decide +kernel)
theorem f_202_3 : fnd 202 3 = some (3, .iload_n 1, 1, 0, 0, 0, 0) := ceB_eq (by decide +kernel)
theorem f_202_4 : fnd 202 4 = some (4, .iconst 2, 1, 0, 0, 0, 0) := ceB_eq (by decide +kernel)
theorem f_202_5 : fnd 202 5 = some (5, .invokevirtual 209, 3, 198, 3, 10, 0) := ceB_eq (by decide +kernel)
theorem f_202_8 : fnd 202 8 = some (8, .iconst 1, 1, 0, 0, 0, 0) := ceB_eq (by decide +kernel)
theorem f_202_9 : fnd 202 9 = some (9, .isub, 1, 0, 0, 0, 0) := ceB_eq (by decide +kernel)
theorem f_202_10 : fnd 202 10 = some (10, .invokestatic 54, 3, 168, 3, 10, 0) := ceB_eq (by decide +kernel)
theorem f_202_13 : fnd 202 13 = some (13, .ireturn, 1, 0, 0, 0, 0) := ceB_eq (by decide +kernel)
theorem rk_202 : rkm 202 = 1 := by decide +kernel
theorem ml_202 : (mth 202).2.1 = 3 := by decide +kernel
set_option maxRecDepth 100000 in
theorem T_Z_isAddress (k0 i0 x1 x2 : Int) (σ : ST) (Q : Option AV → ST → Prop) (h :
  wpM m_Z_ofRoom [.inr (.inr (40, k0, i0)), .inl x1, .inl 2] σ (asI fun r101 s101 =>
  wpM m_Z_in [.inl x2, .inl 0, .inl (wr (r101 - 1))] s101 (asI fun r102 s102 =>
  ((r102 : Int) = 0 ∨ (r102 : Int) = 1) ∧ Q (some (.inl r102)) s102))) :
  wpM m_Z_isAddress [.inr (.inr (40, k0, i0)), .inl x1, .inl x2] σ Q :=
 wpM_of ml_202 (L := [some (.inr (.inr (40, k0, i0))), some (.inl x1), some (.inl x2)]) rfl
 (w_iload_n (p' := 1) f_202_0 rfl rfl
 (w_iconst (p' := 2) f_202_1 rfl
 (w_aload_n (p' := 3) f_202_2 rfl rfl
 (w_iload_n (p' := 4) f_202_3 rfl rfl
 (w_iconst (p' := 5) f_202_4 rfl
 (w_callV (p' := 8) f_202_5 rfl rfl rfl rfl rfl (r := [.inl 0, .inl x2]) rfl rfl (kI (.inl rk_198) fun r101 s101 h101 =>
 w_iconst (p' := 9) f_202_8 rfl
 (w_isub (p' := 10) f_202_9 rfl
 (w_callS (p' := 13) f_202_10 rfl rfl rfl (r := []) rfl rfl (kI (.inr rk_168) fun r102 s102 h102 =>
 w_zret f_202_13 rk_202 h102.1 h102.2) h101))) h))))))
/-! ClosedRoomsModel.isAway(I)Z -/
theorem f_203_0 : fnd 203 0 = some (0, .aload_n 0, 1, 0, 0, 0, 0) := ceB_eq (by decide +kernel)
theorem f_203_1 : fnd 203 1 = some (1, .iload_n 1, 1, 0, 0, 0, 0) := ceB_eq (by decide +kernel)
theorem f_203_2 : fnd 203 2 = some (2, .bipush 6, 2, 0, 0, 0, 0) := ceB_eq (by decide +kernel)
theorem f_203_4 : fnd 203 4 = some (4, .invokevirtual 209, 3, 198, 3, 10, 0) := ceB_eq (by decide +kernel)
theorem f_203_7 : fnd 203 7 = some (7, .iconst 1, 1, 0, 0, 0, 0) := ceB_eq (by decide +kernel)
theorem f_203_8 : fnd 203 8 = some (8, .if_icmp .ne 7, 3, 0, 0, 0, 0) := ceB_eq (by decide +kernel)
theorem f_203_11 : fnd 203 11 = some (11, .iconst 1, 1, 0, 0, 0, 0) := ceB_eq (by decide +kernel)
theorem f_203_12 : fnd 203 12 = some (12, .goto 4, 3, 0, 0, 0, 0) := ceB_eq (by decide +kernel)
theorem f_203_15 : fnd 203 15 = some (15, .iconst 0, 1, 0, 0, 0, 0) := ceB_eq (by decide +kernel)
theorem f_203_16 : fnd 203 16 = some (16, .ireturn, 1, 0, 0, 0, 0) := ceB_eq (by decide +kernel)
theorem rk_203 : rkm 203 = 1 := by decide +kernel
theorem ml_203 : (mth 203).2.1 = 2 := by decide +kernel
set_option maxRecDepth 100000 in
theorem T_Z_isAway (k0 i0 x1 : Int) (σ : ST) (Q : Option AV → ST → Prop) (h :
  wpM m_Z_ofRoom [.inr (.inr (40, k0, i0)), .inl x1, .inl 6] σ (asI fun r101 s101 =>
  (((r101 ≠ 1 : Prop) →
    ((0 : Int) = 0 ∨ (0 : Int) = 1) ∧ Q (some (.inl 0)) s101) ∧
  (¬ (r101 ≠ 1) →
    ((1 : Int) = 0 ∨ (1 : Int) = 1) ∧ Q (some (.inl 1)) s101)))) :
  wpM m_Z_isAway [.inr (.inr (40, k0, i0)), .inl x1] σ Q :=
 wpM_of ml_203 (L := [some (.inr (.inr (40, k0, i0))), some (.inl x1)]) rfl
 (w_aload_n (p' := 1) f_203_0 rfl rfl
 (w_iload_n (p' := 2) f_203_1 rfl rfl
 (w_bipush (p' := 4) f_203_2 rfl
 (w_callV (p' := 7) f_203_4 rfl rfl rfl rfl rfl (r := []) rfl rfl (kI (.inl rk_198) fun r101 s101 h101 =>
 w_iconst (p' := 8) f_203_7 rfl
 (w_icmp (p' := 15) (q' := 11) f_203_8 rfl rfl
 (fun c102 => w_iconst (p' := 16) f_203_15 rfl
 (w_zret f_203_16 rk_203 (h101.1 c102).1 (h101.1 c102).2))
 (fun c102 => w_iconst (p' := 12) f_203_11 rfl
 (w_goto (p' := 16) f_203_12 rfl
 (w_zret f_203_16 rk_203 (h101.2 c102).1 (h101.2 c102).2))))) h))))
/-! ClosedRoomsModel.whyAdd(IIIII)I -/
theorem f_204_0 : fnd 204 0 = some (0, .aload_n 0, 1, 0, 0, 0, 0) := ceB_eq (by decide +kernel)
theorem f_204_1 : fnd 204 1 = some (1, .iload_n 1, 1, 0, 0, 0, 0) := ceB_eq (by decide +kernel)
theorem f_204_2 : fnd 204 2 = some (2, .invokevirtual 252, 3, 201, 2, 10, 0) := ceB_eq (by decide +kernel)
theorem f_204_5 : fnd 204 5 = some (5, .ifCond .ne 5, 3, 0, 0, 0, 0) := ceB_eq (by decide +kernel)
theorem f_204_8 : fnd 204 8 = some (8, .iconst 0, 1, 0, 0, 0, 0) := ceB_eq (by decide +kernel)
theorem f_204_9 : fnd 204 9 = some (9, .ireturn, 1, 0, 0, 0, 0) := ceB_eq (by decide +kernel)
theorem f_204_10 : fnd 204 10 = some (10, .aload_n 0, 1, 0, 0, 0, 0) := ceB_eq (by decide +kernel)
theorem f_204_11 : fnd 204 11 = some (11, .iload_n 1, 1, 0, 0, 0, 0) := ceB_eq (by decide +kernel)
theorem f_204_12 : fnd 204 12 = some (12, .iload_n 2, 1, 0, 0, 0, 0) := ceB_eq (by decide +kernel)
theorem f_204_13 : fnd 204 13 = some (13, .invokevirtual 255, 3, 202, 3, 10, 0) := ceB_eq (by decide +kernel)
theorem f_204_16 : fnd 204 16 = some (16, .ifCond .eq 35, 3, 0, 0, 0, 0) := ceB_eq (by decide +kernel)
theorem f_204_19 : fnd 204 19 = some (19, .iload_n 3, 1, 0, 0, 0, 0) := ceB_eq (by decide +kernel)
theorem f_204_20 : fnd 204 20 = some (20, .iconst 0, 1, 0, 0, 0, 0) := ceB_eq (by decide +kernel)
theorem f_204_21 : fnd 204 21 = some (21, .iconst 1, 1, 0, 0, 0, 0) := ceB_eq (by decide +kernel)
theorem f_204_22 : fnd 204 22 = some (22, .invokestatic 54, 3, 168, 3, 10, 0) := ceB_eq (by decide +kernel)
theorem f_204_25 : fnd 204 25 = some (25, .ifCond .eq 26, 3, 0, 0, 0, 0) := ceB_eq (by decide +kernel)
theorem f_204_28 : fnd 204 28 = some (28, .iload 4, 2, 0, 0, 0, 0) := ceB_eq (by decide +kernel)
theorem f_204_30 : fnd 204 30 = some (30, .iconst 1, 1, 0, 0, 0, 0) := ceB_eq (by decide +kernel)
theorem f_204_31 : fnd 204 31 = some (31, .bipush 7, 2, 0, 0, 0, 0) := ceB_eq (by decide +kernel)
theorem f_204_33 : fnd 204 33 = some (33, .invokestatic 54, 3, 168, 3, 10, 0) := ceB_eq (by decide +kernel)
theorem f_204_36 : fnd 204 36 = some (36, .ifCond .eq 15, 3, 0, 0, 0, 0) := ceB_eq (by decide +kernel)
theorem f_204_39 : fnd 204 39 = some (39, .iload 5, 2, 0, 0, 0, 0) := ceB_eq (by decide +kernel)
theorem f_204_41 : fnd 204 41 = some (41, .iconst 0, 1, 0, 0, 0, 0) := ceB_eq (by decide +kernel)
theorem f_204_42 : fnd 204 42 = some (42, .sipush 999, 3, 0, 0, 0, 0) := ceB_eq (by decide +kernel)
theorem f_204_45 : fnd 204 45 = some (45, .invokestatic 54, 3, 168, 3, 10, 0) := ceB_eq (by decide +kernel)
theorem f_204_48 : fnd 204 48 = some (48, .ifCond .ne 5, 3, 0, 0, 0, 0) := ceB_eq (by decide +kernel)
theorem f_204_51 : fnd 204 51 = some (51, .iconst 1, 1, 0, 0, 0, 0) := ceB_eq (by decide +kernel)
theorem f_204_52 : fnd 204 52 = some (52, .ireturn, 1, 0, 0, 0, 0) := ceB_eq (by decide +kernel)
theorem f_204_53 : fnd 204 53 = some (53, .aload_n 0, 1, 0, 0, 0, 0) := ceB_eq (by decide +kernel)
theorem f_204_54 : fnd 204 54 = some (54, .iload_n 1, 1, 0, 0, 0, 0) := ceB_eq (by decide +kernel)
theorem f_204_55 : fnd 204 55 = some (55, .iconst 3, 1, 0, 0, 0, 0) := ceB_eq (by decide +kernel)
theorem f_204_56 : fnd 204 56 = some (56, .invokevirtual 209, 3, 198, 3, 10, 0) := ceB_eq (by decide +kernel)
theorem f_204_59 : fnd 204 59 = some (59, .iconst 1, 1, 0, 0, 0, 0) := ceB_eq (by decide +kernel)
theorem f_204_60 : fnd 204 60 = some (60, .if_icmp .ne 23, 3, 0, 0, 0, 0) := ceB_eq (by decide +kernel)
theorem f_204_63 : fnd 204 63 = some (63, .aload_n 0, 1, 0, 0, 0, 0) := ceB_eq (by decide +kernel)
theorem f_204_64 : fnd 204 64 = some (64, .iload_n 1, 1, 0, 0, 0, 0) := ceB_eq (by decide +kernel)
theorem f_204_65 : fnd 204 65 = some (65, .invokevirtual 258, 3, 203, 2, 10, 0) := ceB_eq (by decide +kernel)
theorem f_204_68 : fnd 204 68 = some (68, .ifCond .ne 15, 3, 0, 0, 0, 0) := ceB_eq (by decide +kernel)
theorem f_204_71 : fnd 204 71 = some (71, .aload_n 0, 1, 0, 0, 0, 0) := ceB_eq (by decide +kernel)
theorem f_204_72 : fnd 204 72 = some (72, .iload_n 1, 1, 0, 0, 0, 0) := ceB_eq (by decide +kernel)
theorem f_204_73 : fnd 204 73 = some (73, .bipush 7, 2, 0, 0, 0, 0) := ceB_eq (by decide +kernel)
theorem f_204_75 : fnd 204 75 = some (75, .iload_n 2, 1, 0, 0, 0, 0) := ceB_eq (by decide +kernel)
theorem f_204_76 : fnd 204 76 = some (76, .iadd, 1, 0, 0, 0, 0) := ceB_eq (by decide +kernel)
theorem f_204_77 : fnd 204 77 = some (77, .invokevirtual 209, 3, 198, 3, 10, 0) := ceB_eq (by decide +kernel)
theorem f_204_80 : fnd 204 80 = some (80, .ifCond .eq 7, 3, 0, 0, 0, 0) := ceB_eq (by decide +kernel)
theorem f_204_83 : fnd 204 83 = some (83, .iconst 2, 1, 0, 0, 0, 0) := ceB_eq (by decide +kernel)
theorem f_204_84 : fnd 204 84 = some (84, .goto 16, 3, 0, 0, 0, 0) := ceB_eq (by decide +kernel)
theorem f_204_87 : fnd 204 87 = some (87, .aload_n 0, 1, 0, 0, 0, 0) := ceB_eq (by decide +kernel)
theorem f_204_88 : fnd 204 88 = some (88, .invokevirtual 246, 3, 197, 1, 10, 0) := ceB_eq (by decide +kernel)
theorem f_204_91 : fnd 204 91 = some (91, .iconst (-1), 1, 0, 0, 0, 0) := ceB_eq (by decide +kernel)
theorem f_204_92 : fnd 204 92 = some (92, .if_icmp .ne 7, 3, 0, 0, 0, 0) := ceB_eq (by decide +kernel)
theorem f_204_95 : fnd 204 95 = some (95, .iconst 3, 1, 0, 0, 0, 0) := ceB_eq (by decide +kernel)
theorem f_204_96 : fnd 204 96 = some (96, .goto 4, 3, 0, 0, 0, 0) := ceB_eq (by decide +kernel)
theorem f_204_99 : fnd 204 99 = some (99, .iconst (-1), 1, 0, 0, 0, 0) := ceB_eq (by decide +kernel)
theorem f_204_100 : fnd 204 100 = some (100, .ireturn, 1, 0, 0, 0, 0) := ceB_eq (by decide +kernel)
theorem rk_204 : rkm 204 = 0 := by decide +kernel
theorem ml_204 : (mth 204).2.1 = 6 := by decide +kernel
set_option maxRecDepth 100000 in
theorem T_Z_whyAdd (k0 i0 x1 x2 x3 x4 x5 : Int) (σ : ST) (Q : Option AV → ST → Prop) (h :
  wpM m_Z_isRoom [.inr (.inr (40, k0, i0)), .inl x1] σ (asI fun r101 s101 =>
  (((r101 ≠ 0 : Prop) →
    wpM m_Z_isAddress [.inr (.inr (40, k0, i0)), .inl x1, .inl x2] s101 (asI fun r102 s102 =>
    (((r102 = 0 : Prop) →
      Q (some (.inl 1)) s102) ∧
    (¬ (r102 = 0) →
      wpM m_Z_in [.inl x3, .inl 0, .inl 1] s102 (asI fun r103 s103 =>
      (((r103 = 0 : Prop) →
        Q (some (.inl 1)) s103) ∧
      (¬ (r103 = 0) →
        wpM m_Z_in [.inl x4, .inl 1, .inl 7] s103 (asI fun r104 s104 =>
        (((r104 = 0 : Prop) →
          Q (some (.inl 1)) s104) ∧
        (¬ (r104 = 0) →
          wpM m_Z_in [.inl x5, .inl 0, .inl 999] s104 (asI fun r105 s105 =>
          (((r105 ≠ 0 : Prop) →
            wpM m_Z_ofRoom [.inr (.inr (40, k0, i0)), .inl x1, .inl 3] s105 (asI fun r106 s106 =>
            (((r106 ≠ 1 : Prop) →
              Q (some (.inl 2)) s106) ∧
            (¬ (r106 ≠ 1) →
              wpM m_Z_isAway [.inr (.inr (40, k0, i0)), .inl x1] s106 (asI fun r107 s107 =>
              (((r107 ≠ 0 : Prop) →
                Q (some (.inl 2)) s107) ∧
              (¬ (r107 ≠ 0) →
                wpM m_Z_ofRoom [.inr (.inr (40, k0, i0)), .inl x1, .inl (wr (7 + x2))] s107 (asI fun r108 s108 =>
                (((r108 = 0 : Prop) →
                  wpM m_Z_freePage [.inr (.inr (40, k0, i0))] s108 (asI fun r109 s109 =>
                  (((r109 ≠ (-1) : Prop) →
                    Q (some (.inl (-1))) s109) ∧
                  (¬ (r109 ≠ (-1)) →
                    Q (some (.inl 3)) s109)))) ∧
                (¬ (r108 = 0) →
                  Q (some (.inl 2)) s108)))))))))) ∧
          (¬ (r105 ≠ 0) →
            Q (some (.inl 1)) s105))))))))))))) ∧
  (¬ (r101 ≠ 0) →
    Q (some (.inl 0)) s101)))) :
  wpM m_Z_whyAdd [.inr (.inr (40, k0, i0)), .inl x1, .inl x2, .inl x3, .inl x4, .inl x5] σ Q :=
 wpM_of ml_204 (L := [some (.inr (.inr (40, k0, i0))), some (.inl x1), some (.inl x2), some (.inl x3), some (.inl x4), some (.inl x5)]) rfl
 (w_aload_n (p' := 1) f_204_0 rfl rfl
 (w_iload_n (p' := 2) f_204_1 rfl rfl
 (w_callV (p' := 5) f_204_2 rfl rfl rfl rfl rfl (r := []) rfl rfl (kI (.inr rk_201) fun r101 s101 h101 =>
 w_if (p' := 10) (q' := 8) f_204_5 rfl rfl
 (fun c118 => w_aload_n (p' := 11) f_204_10 rfl rfl
 (w_iload_n (p' := 12) f_204_11 rfl rfl
 (w_iload_n (p' := 13) f_204_12 rfl rfl
 (w_callV (p' := 16) f_204_13 rfl rfl rfl rfl rfl (r := []) rfl rfl (kI (.inr rk_202) fun r102 s102 h102 =>
 w_if (p' := 51) (q' := 19) f_204_16 rfl rfl
 (fun c117 => w_iconst (p' := 52) f_204_51 rfl
 (w_iret f_204_52 rk_204 (h102.1 c117)))
 (fun c117 => w_iload_n (p' := 20) f_204_19 rfl rfl
 (w_iconst (p' := 21) f_204_20 rfl
 (w_iconst (p' := 22) f_204_21 rfl
 (w_callS (p' := 25) f_204_22 rfl rfl rfl (r := []) rfl rfl (kI (.inr rk_168) fun r103 s103 h103 =>
 w_if (p' := 51) (q' := 28) f_204_25 rfl rfl
 (fun c116 => w_iconst (p' := 52) f_204_51 rfl
 (w_iret f_204_52 rk_204 (h103.1 c116)))
 (fun c116 => w_iload (p' := 30) f_204_28 rfl rfl
 (w_iconst (p' := 31) f_204_30 rfl
 (w_bipush (p' := 33) f_204_31 rfl
 (w_callS (p' := 36) f_204_33 rfl rfl rfl (r := []) rfl rfl (kI (.inr rk_168) fun r104 s104 h104 =>
 w_if (p' := 51) (q' := 39) f_204_36 rfl rfl
 (fun c115 => w_iconst (p' := 52) f_204_51 rfl
 (w_iret f_204_52 rk_204 (h104.1 c115)))
 (fun c115 => w_iload (p' := 41) f_204_39 rfl rfl
 (w_iconst (p' := 42) f_204_41 rfl
 (w_sipush (p' := 45) f_204_42 rfl
 (w_callS (p' := 48) f_204_45 rfl rfl rfl (r := []) rfl rfl (kI (.inr rk_168) fun r105 s105 h105 =>
 w_if (p' := 53) (q' := 51) f_204_48 rfl rfl
 (fun c114 => w_aload_n (p' := 54) f_204_53 rfl rfl
 (w_iload_n (p' := 55) f_204_54 rfl rfl
 (w_iconst (p' := 56) f_204_55 rfl
 (w_callV (p' := 59) f_204_56 rfl rfl rfl rfl rfl (r := []) rfl rfl (kI (.inl rk_198) fun r106 s106 h106 =>
 w_iconst (p' := 60) f_204_59 rfl
 (w_icmp (p' := 83) (q' := 63) f_204_60 rfl rfl
 (fun c113 => w_iconst (p' := 84) f_204_83 rfl
 (w_goto (p' := 100) f_204_84 rfl
 (w_iret f_204_100 rk_204 (h106.1 c113))))
 (fun c113 => w_aload_n (p' := 64) f_204_63 rfl rfl
 (w_iload_n (p' := 65) f_204_64 rfl rfl
 (w_callV (p' := 68) f_204_65 rfl rfl rfl rfl rfl (r := []) rfl rfl (kI (.inr rk_203) fun r107 s107 h107 =>
 w_if (p' := 83) (q' := 71) f_204_68 rfl rfl
 (fun c112 => w_iconst (p' := 84) f_204_83 rfl
 (w_goto (p' := 100) f_204_84 rfl
 (w_iret f_204_100 rk_204 (h107.1 c112))))
 (fun c112 => w_aload_n (p' := 72) f_204_71 rfl rfl
 (w_iload_n (p' := 73) f_204_72 rfl rfl
 (w_bipush (p' := 75) f_204_73 rfl
 (w_iload_n (p' := 76) f_204_75 rfl rfl
 (w_iadd (p' := 77) f_204_76 rfl
 (w_callV (p' := 80) f_204_77 rfl rfl rfl rfl rfl (r := []) rfl rfl (kI (.inl rk_198) fun r108 s108 h108 =>
 w_if (p' := 87) (q' := 83) f_204_80 rfl rfl
 (fun c111 => w_aload_n (p' := 88) f_204_87 rfl rfl
 (w_callV (p' := 91) f_204_88 rfl rfl rfl rfl rfl (r := []) rfl rfl (kI (.inl rk_197) fun r109 s109 h109 =>
 w_iconst (p' := 92) f_204_91 rfl
 (w_icmp (p' := 99) (q' := 95) f_204_92 rfl rfl
 (fun c110 => w_iconst (p' := 100) f_204_99 rfl
 (w_iret f_204_100 rk_204 (h109.1 c110)))
 (fun c110 => w_iconst (p' := 96) f_204_95 rfl
 (w_goto (p' := 100) f_204_96 rfl
 (w_iret f_204_100 rk_204 (h109.2 c110)))))) (h108.1 c111)))
 (fun c111 => w_iconst (p' := 84) f_204_83 rfl
 (w_goto (p' := 100) f_204_84 rfl
 (w_iret f_204_100 rk_204 (h108.2 c111))))) (h107.2 c112)))))))) (h106.2 c113)))))) (h105.1 c114)))))
 (fun c114 => w_iconst (p' := 52) f_204_51 rfl
 (w_iret f_204_52 rk_204 (h105.2 c114)))) (h104.2 c115)))))) (h103.2 c116)))))) (h102.2 c117)))))) (h101.1 c118)))))
 (fun c118 => w_iconst (p' := 9) f_204_8 rfl
 (w_iret f_204_9 rk_204 (h101.2 c118)))) h)))
/-! ClosedRoomsModel.whyExtend(II)I -/
theorem f_205_0 : fnd 205 0 = some (0, .aload_n 0, 1, 0, 0, 0, 0) := ceB_eq (by decide +kernel)
theorem f_205_1 : fnd 205 1 = some (1, .iload_n 1, 1, 0, 0, 0, 0) := ceB_eq (by decide +kernel)
theorem f_205_2 : fnd 205 2 = some (2, .invokevirtual 252, 3, 201, 2, 10, 0) := ceB_eq (by decide +kernel)
theorem f_205_5 : fnd 205 5 = some (5, .ifCond .ne 7, 3, 0, 0, 0, 0) := ceB_eq (by decide +kernel)
theorem f_205_8 : fnd 205 8 = some (8, .iconst 0, 1, 0, 0, 0, 0) := ceB_eq (by decide +kernel)
theorem f_205_9 : fnd 205 9 = some (9, .goto 52, 3, 0, 0, 0, 0) := ceB_eq (by decide +kernel)
theorem f_205_12 : fnd 205 12 = some (12, .aload_n 0, 1, 0, 0, 0, 0) := ceB_eq (by decide +kernel)
theorem f_205_13 : fnd 205 13 = some (13, .iload_n 1, 1, 0, 0, 0, 0) := ceB_eq (by decide +kernel)
theorem f_205_14 : fnd 205 14 = some (14, .iload_n 2, 1, 0, 0, 0, 0) := ceB_eq (by decide +kernel)
theorem f_205_15 : fnd 205 15 = some (15, .invokevirtual 255, 3, 202, 3, 10, 0) := ceB_eq (by decide +kernel)
theorem f_205_18 : fnd 205 18 = some (18, .ifCond .ne 7, 3, 0, 0, 0, 0) := ceB_eq (by decide +kernel)
theorem f_205_21 : fnd 205 21 = some (21, .iconst 1, 1, 0, 0, 0, 0) := ceB_eq (by decide +kernel)
theorem f_205_22 : fnd 205 22 = some (22, .goto 39, 3, 0, 0, 0, 0) := ceB_eq (by decide +kernel)
theorem f_205_25 : fnd 205 25 = some (25, .aload_n 0, 1, 0, 0, 0, 0) := ceB_eq (by decide +kernel)
theorem f_205_26 : fnd 205 26 = some (26, .iload_n 1, 1, 0, 0, 0, 0) := ceB_eq (by decide +kernel)
theorem f_205_27 : fnd 205 27 = some (27, .iconst 3, 1, 0, 0, 0, 0) := ceB_eq (by decide +kernel)
theorem f_205_28 : fnd 205 28 = some (28, .invokevirtual 209, 3, 198, 3, 10, 0) := ceB_eq (by decide +kernel)
theorem f_205_31 : fnd 205 31 = some (31, .iconst 1, 1, 0, 0, 0, 0) := ceB_eq (by decide +kernel)
theorem f_205_32 : fnd 205 32 = some (32, .if_icmp .ne 24, 3, 0, 0, 0, 0) := ceB_eq (by decide +kernel)
theorem f_205_35 : fnd 205 35 = some (35, .aload_n 0, 1, 0, 0, 0, 0) := ceB_eq (by decide +kernel)
theorem f_205_36 : fnd 205 36 = some (36, .iload_n 1, 1, 0, 0, 0, 0) := ceB_eq (by decide +kernel)
theorem f_205_37 : fnd 205 37 = some (37, .invokevirtual 258, 3, 203, 2, 10, 0) := ceB_eq (by decide +kernel)
theorem f_205_40 : fnd 205 40 = some (40, .ifCond .ne 16, 3, 0, 0, 0, 0) := ceB_eq (by decide +kernel)
theorem f_205_43 : fnd 205 43 = some (43, .aload_n 0, 1, 0, 0, 0, 0) := ceB_eq (by decide +kernel)
theorem f_205_44 : fnd 205 44 = some (44, .iload_n 1, 1, 0, 0, 0, 0) := ceB_eq (by decide +kernel)
theorem f_205_45 : fnd 205 45 = some (45, .bipush 7, 2, 0, 0, 0, 0) := ceB_eq (by decide +kernel)
theorem f_205_47 : fnd 205 47 = some (47, .iload_n 2, 1, 0, 0, 0, 0) := ceB_eq (by decide +kernel)
theorem f_205_48 : fnd 205 48 = some (48, .iadd, 1, 0, 0, 0, 0) := ceB_eq (by decide +kernel)
theorem f_205_49 : fnd 205 49 = some (49, .invokevirtual 209, 3, 198, 3, 10, 0) := ceB_eq (by decide +kernel)
theorem f_205_52 : fnd 205 52 = some (52, .iconst 1, 1, 0, 0, 0, 0) := ceB_eq (by decide +kernel)
theorem f_205_53 : fnd 205 53 = some (53, .if_icmp .eq 7, 3, 0, 0, 0, 0) := ceB_eq (by decide +kernel)
theorem f_205_56 : fnd 205 56 = some (56, .iconst 2, 1, 0, 0, 0, 0) := ceB_eq (by decide +kernel)
theorem f_205_57 : fnd 205 57 = some (57, .goto 4, 3, 0, 0, 0, 0) := ceB_eq (by decide +kernel)
theorem f_205_60 : fnd 205 60 = some (60, .iconst (-1), 1, 0, 0, 0, 0) := ceB_eq (by decide +kernel)
theorem f_205_61 : fnd 205 61 = some (61, .ireturn, 1, 0, 0, 0, 0) := ceB_eq (by decide +kernel)
theorem rk_205 : rkm 205 = 0 := by decide +kernel
theorem ml_205 : (mth 205).2.1 = 3 := by decide +kernel
set_option maxRecDepth 100000 in
theorem T_Z_whyExtend (k0 i0 x1 x2 : Int) (σ : ST) (Q : Option AV → ST → Prop) (h :
  wpM m_Z_isRoom [.inr (.inr (40, k0, i0)), .inl x1] σ (asI fun r101 s101 =>
  (((r101 ≠ 0 : Prop) →
    wpM m_Z_isAddress [.inr (.inr (40, k0, i0)), .inl x1, .inl x2] s101 (asI fun r102 s102 =>
    (((r102 ≠ 0 : Prop) →
      wpM m_Z_ofRoom [.inr (.inr (40, k0, i0)), .inl x1, .inl 3] s102 (asI fun r103 s103 =>
      (((r103 ≠ 1 : Prop) →
        Q (some (.inl 2)) s103) ∧
      (¬ (r103 ≠ 1) →
        wpM m_Z_isAway [.inr (.inr (40, k0, i0)), .inl x1] s103 (asI fun r104 s104 =>
        (((r104 ≠ 0 : Prop) →
          Q (some (.inl 2)) s104) ∧
        (¬ (r104 ≠ 0) →
          wpM m_Z_ofRoom [.inr (.inr (40, k0, i0)), .inl x1, .inl (wr (7 + x2))] s104 (asI fun r105 s105 =>
          (((r105 = 1 : Prop) →
            Q (some (.inl (-1))) s105) ∧
          (¬ (r105 = 1) →
            Q (some (.inl 2)) s105)))))))))) ∧
    (¬ (r102 ≠ 0) →
      Q (some (.inl 1)) s102)))) ∧
  (¬ (r101 ≠ 0) →
    Q (some (.inl 0)) s101)))) :
  wpM m_Z_whyExtend [.inr (.inr (40, k0, i0)), .inl x1, .inl x2] σ Q :=
 wpM_of ml_205 (L := [some (.inr (.inr (40, k0, i0))), some (.inl x1), some (.inl x2)]) rfl
 (w_aload_n (p' := 1) f_205_0 rfl rfl
 (w_iload_n (p' := 2) f_205_1 rfl rfl
 (w_callV (p' := 5) f_205_2 rfl rfl rfl rfl rfl (r := []) rfl rfl (kI (.inr rk_201) fun r101 s101 h101 =>
 w_if (p' := 12) (q' := 8) f_205_5 rfl rfl
 (fun c110 => w_aload_n (p' := 13) f_205_12 rfl rfl
 (w_iload_n (p' := 14) f_205_13 rfl rfl
 (w_iload_n (p' := 15) f_205_14 rfl rfl
 (w_callV (p' := 18) f_205_15 rfl rfl rfl rfl rfl (r := []) rfl rfl (kI (.inr rk_202) fun r102 s102 h102 =>
 w_if (p' := 25) (q' := 21) f_205_18 rfl rfl
 (fun c109 => w_aload_n (p' := 26) f_205_25 rfl rfl
 (w_iload_n (p' := 27) f_205_26 rfl rfl
 (w_iconst (p' := 28) f_205_27 rfl
 (w_callV (p' := 31) f_205_28 rfl rfl rfl rfl rfl (r := []) rfl rfl (kI (.inl rk_198) fun r103 s103 h103 =>
 w_iconst (p' := 32) f_205_31 rfl
 (w_icmp (p' := 56) (q' := 35) f_205_32 rfl rfl
 (fun c108 => w_iconst (p' := 57) f_205_56 rfl
 (w_goto (p' := 61) f_205_57 rfl
 (w_iret f_205_61 rk_205 (h103.1 c108))))
 (fun c108 => w_aload_n (p' := 36) f_205_35 rfl rfl
 (w_iload_n (p' := 37) f_205_36 rfl rfl
 (w_callV (p' := 40) f_205_37 rfl rfl rfl rfl rfl (r := []) rfl rfl (kI (.inr rk_203) fun r104 s104 h104 =>
 w_if (p' := 56) (q' := 43) f_205_40 rfl rfl
 (fun c107 => w_iconst (p' := 57) f_205_56 rfl
 (w_goto (p' := 61) f_205_57 rfl
 (w_iret f_205_61 rk_205 (h104.1 c107))))
 (fun c107 => w_aload_n (p' := 44) f_205_43 rfl rfl
 (w_iload_n (p' := 45) f_205_44 rfl rfl
 (w_bipush (p' := 47) f_205_45 rfl
 (w_iload_n (p' := 48) f_205_47 rfl rfl
 (w_iadd (p' := 49) f_205_48 rfl
 (w_callV (p' := 52) f_205_49 rfl rfl rfl rfl rfl (r := []) rfl rfl (kI (.inl rk_198) fun r105 s105 h105 =>
 w_iconst (p' := 53) f_205_52 rfl
 (w_icmp (p' := 60) (q' := 56) f_205_53 rfl rfl
 (fun c106 => w_iconst (p' := 61) f_205_60 rfl
 (w_iret f_205_61 rk_205 (h105.1 c106)))
 (fun c106 => w_iconst (p' := 57) f_205_56 rfl
 (w_goto (p' := 61) f_205_57 rfl
 (w_iret f_205_61 rk_205 (h105.2 c106)))))) (h104.2 c107)))))))) (h103.2 c108)))))) (h102.1 c109)))))
 (fun c109 => w_iconst (p' := 22) f_205_21 rfl
 (w_goto (p' := 61) f_205_22 rfl
 (w_iret f_205_61 rk_205 (h102.2 c109))))) (h101.1 c110)))))
 (fun c110 => w_iconst (p' := 9) f_205_8 rfl
 (w_goto (p' := 61) f_205_9 rfl
 (w_iret f_205_61 rk_205 (h101.2 c110))))) h)))
/-! ClosedRoomsModel.whySeal(II)I -/
theorem f_206_0 : fnd 206 0 = some (0, .aload_n 0, 1, 0, 0, 0, 0) := ceB_eq (by decide +kernel)
theorem f_206_1 : fnd 206 1 = some (1, .iload_n 1, 1, 0, 0, 0, 0) := ceB_eq (by decide +kernel)
theorem f_206_2 : fnd 206 2 = some (2, .invokevirtual 252, 3, 201, 2, 10, 0) := ceB_eq (by decide +kernel)
theorem f_206_5 : fnd 206 5 = some (5, .ifCond .ne 7, 3, 0, 0, 0, 0) := ceB_eq (by decide +kernel)
theorem f_206_8 : fnd 206 8 = some (8, .iconst 0, 1, 0, 0, 0, 0) := ceB_eq (by decide +kernel)
theorem f_206_9 : fnd 206 9 = some (9, .goto 40, 3, 0, 0, 0, 0) := ceB_eq (by decide +kernel)
theorem f_206_12 : fnd 206 12 = some (12, .aload_n 0, 1, 0, 0, 0, 0) := ceB_eq (by decide +kernel)
theorem f_206_13 : fnd 206 13 = some (13, .iload_n 1, 1, 0, 0, 0, 0) := ceB_eq (by decide +kernel)
theorem f_206_14 : fnd 206 14 = some (14, .iconst 3, 1, 0, 0, 0, 0) := ceB_eq (by decide +kernel)
theorem f_206_15 : fnd 206 15 = some (15, .invokevirtual 209, 3, 198, 3, 10, 0) := ceB_eq (by decide +kernel)
theorem f_206_18 : fnd 206 18 = some (18, .iconst 1, 1, 0, 0, 0, 0) := ceB_eq (by decide +kernel)
theorem f_206_19 : fnd 206 19 = some (19, .if_icmp .ne 11, 3, 0, 0, 0, 0) := ceB_eq (by decide +kernel)
theorem f_206_22 : fnd 206 22 = some (22, .aload_n 0, 1, 0, 0, 0, 0) := ceB_eq (by decide +kernel)
theorem f_206_23 : fnd 206 23 = some (23, .iload_n 1, 1, 0, 0, 0, 0) := ceB_eq (by decide +kernel)
theorem f_206_24 : fnd 206 24 = some (24, .invokevirtual 258, 3, 203, 2, 10, 0) := ceB_eq (by decide +kernel)
theorem f_206_27 : fnd 206 27 = some (27, .ifCond .eq 7, 3, 0, 0, 0, 0) := ceB_eq (by decide +kernel)
theorem f_206_30 : fnd 206 30 = some (30, .iconst 2, 1, 0, 0, 0, 0) := ceB_eq (by decide +kernel)
theorem f_206_31 : fnd 206 31 = some (31, .goto 18, 3, 0, 0, 0, 0) := ceB_eq (by decide +kernel)
theorem f_206_34 : fnd 206 34 = some (34, .iload_n 2, 1, 0, 0, 0, 0) := ceB_eq (by decide +kernel)
theorem f_206_35 : fnd 206 35 = some (35, .aload_n 0, 1, 0, 0, 0, 0) := ceB_eq (by decide +kernel)
theorem f_206_36 : fnd 206 36 = some (36, .iload_n 1, 1, 0, 0, 0, 0) := ceB_eq (by decide +kernel)
theorem f_206_37 : fnd 206 37 = some (37, .iconst 4, 1, 0, 0, 0, 0) := ceB_eq (by decide +kernel)
theorem f_206_38 : fnd 206 38 = some (38, .invokevirtual 209, 3, 198, 3, 10, 0) := ceB_eq (by decide +kernel)
theorem f_206_41 : fnd 206 41 = some (41, .if_icmp .eq 7, 3, 0, 0, 0, 0) := ceB_eq (by decide +kernel)
theorem f_206_44 : fnd 206 44 = some (44, .iconst 4, 1, 0, 0, 0, 0) := ceB_eq (by decide +kernel)
theorem f_206_45 : fnd 206 45 = some (45, .goto 4, 3, 0, 0, 0, 0) := ceB_eq (by decide +kernel)
theorem f_206_48 : fnd 206 48 = some (48, .iconst (-1), 1, 0, 0, 0, 0) := ceB_eq (by decide +kernel)
theorem f_206_49 : fnd 206 49 = some (49, .ireturn, 1, 0, 0, 0, 0) := ceB_eq (by decide +kernel)
theorem rk_206 : rkm 206 = 0 := by decide +kernel
theorem ml_206 : (mth 206).2.1 = 3 := by decide +kernel
set_option maxRecDepth 100000 in
theorem T_Z_whySeal (k0 i0 x1 x2 : Int) (σ : ST) (Q : Option AV → ST → Prop) (h :
  wpM m_Z_isRoom [.inr (.inr (40, k0, i0)), .inl x1] σ (asI fun r101 s101 =>
  (((r101 ≠ 0 : Prop) →
    wpM m_Z_ofRoom [.inr (.inr (40, k0, i0)), .inl x1, .inl 3] s101 (asI fun r102 s102 =>
    (((r102 ≠ 1 : Prop) →
      Q (some (.inl 2)) s102) ∧
    (¬ (r102 ≠ 1) →
      wpM m_Z_isAway [.inr (.inr (40, k0, i0)), .inl x1] s102 (asI fun r103 s103 =>
      (((r103 = 0 : Prop) →
        wpM m_Z_ofRoom [.inr (.inr (40, k0, i0)), .inl x1, .inl 4] s103 (asI fun r104 s104 =>
        (((x2 = r104 : Prop) →
          Q (some (.inl (-1))) s104) ∧
        (¬ (x2 = r104) →
          Q (some (.inl 4)) s104)))) ∧
      (¬ (r103 = 0) →
        Q (some (.inl 2)) s103))))))) ∧
  (¬ (r101 ≠ 0) →
    Q (some (.inl 0)) s101)))) :
  wpM m_Z_whySeal [.inr (.inr (40, k0, i0)), .inl x1, .inl x2] σ Q :=
 wpM_of ml_206 (L := [some (.inr (.inr (40, k0, i0))), some (.inl x1), some (.inl x2)]) rfl
 (w_aload_n (p' := 1) f_206_0 rfl rfl
 (w_iload_n (p' := 2) f_206_1 rfl rfl
 (w_callV (p' := 5) f_206_2 rfl rfl rfl rfl rfl (r := []) rfl rfl (kI (.inr rk_201) fun r101 s101 h101 =>
 w_if (p' := 12) (q' := 8) f_206_5 rfl rfl
 (fun c108 => w_aload_n (p' := 13) f_206_12 rfl rfl
 (w_iload_n (p' := 14) f_206_13 rfl rfl
 (w_iconst (p' := 15) f_206_14 rfl
 (w_callV (p' := 18) f_206_15 rfl rfl rfl rfl rfl (r := []) rfl rfl (kI (.inl rk_198) fun r102 s102 h102 =>
 w_iconst (p' := 19) f_206_18 rfl
 (w_icmp (p' := 30) (q' := 22) f_206_19 rfl rfl
 (fun c107 => w_iconst (p' := 31) f_206_30 rfl
 (w_goto (p' := 49) f_206_31 rfl
 (w_iret f_206_49 rk_206 (h102.1 c107))))
 (fun c107 => w_aload_n (p' := 23) f_206_22 rfl rfl
 (w_iload_n (p' := 24) f_206_23 rfl rfl
 (w_callV (p' := 27) f_206_24 rfl rfl rfl rfl rfl (r := []) rfl rfl (kI (.inr rk_203) fun r103 s103 h103 =>
 w_if (p' := 34) (q' := 30) f_206_27 rfl rfl
 (fun c106 => w_iload_n (p' := 35) f_206_34 rfl rfl
 (w_aload_n (p' := 36) f_206_35 rfl rfl
 (w_iload_n (p' := 37) f_206_36 rfl rfl
 (w_iconst (p' := 38) f_206_37 rfl
 (w_callV (p' := 41) f_206_38 rfl rfl rfl rfl rfl (r := [.inl x2]) rfl rfl (kI (.inl rk_198) fun r104 s104 h104 =>
 w_icmp (p' := 48) (q' := 44) f_206_41 rfl rfl
 (fun c105 => w_iconst (p' := 49) f_206_48 rfl
 (w_iret f_206_49 rk_206 (h104.1 c105)))
 (fun c105 => w_iconst (p' := 45) f_206_44 rfl
 (w_goto (p' := 49) f_206_45 rfl
 (w_iret f_206_49 rk_206 (h104.2 c105))))) (h103.1 c106))))))
 (fun c106 => w_iconst (p' := 31) f_206_30 rfl
 (w_goto (p' := 49) f_206_31 rfl
 (w_iret f_206_49 rk_206 (h103.2 c106))))) (h102.2 c107)))))) (h101.1 c108)))))
 (fun c108 => w_iconst (p' := 9) f_206_8 rfl
 (w_goto (p' := 49) f_206_9 rfl
 (w_iret f_206_49 rk_206 (h101.2 c108))))) h)))
/-! ClosedRoomsModel.isCore(I)Z -/
theorem f_207_0 : fnd 207 0 = some (0, .aload_n 0, 1, 0, 0, 0, 0) := ceB_eq (by decide +kernel)
theorem f_207_1 : fnd 207 1 = some (1, .getfield 199, 3, 10, 11, 11, 0) := ceB_eq (by decide +kernel)
theorem f_207_4 : fnd 207 4 = some (4, .ifCond .eq 23, 3, 0, 0, 0, 0) := ceB_eq (by decide +kernel)
theorem f_207_7 : fnd 207 7 = some (7, .iload_n 1, 1, 0, 0, 0, 0) := ceB_eq (by decide +kernel)
theorem f_207_8 : fnd 207 8 = some (8, .iconst 0, 1, 0, 0, 0, 0) := ceB_eq (by decide +kernel)
theorem f_207_9 : fnd 207 9 = some (9, .aload_n 0, 1, 0, 0, 0, 0) := ceB_eq (by decide +kernel)
theorem f_207_10 : fnd 207 10 = some (10, .getfield 16, 3, 10, 10, 10, 0) := ceB_eq (by decide +kernel)
theorem f_207_13 : fnd 207 13 = some (13, .iconst 1, 1, 0, 0, 0, 0) := ceB_eq (by decide +kernel)
theorem f_207_14 : fnd 207 14 = some (14, .iaload, 1, 0, 0, 0, 0) := ceB_eq (by decide +kernel)
theorem f_207_15 : fnd 207 15 = some (15, .iconst 1, 1, 0, 0, 0, 0) := ceB_eq (by decide +kernel)
theorem f_207_16 : fnd 207 16 = some (16, .isub, 1, 0, 0, 0, 0) := ceB_eq (by decide +kernel)
theorem f_207_17 : fnd 207 17 = some (17, .invokestatic 54, 3, 168, 3, 10, 0) := ceB_eq (by decide +kernel)
theorem f_207_20 : fnd 207 20 = some (20, .ifCond .eq 7, 3, 0, 0, 0, 0) := ceB_eq (by decide +kernel)
theorem f_207_23 : fnd 207 23 = some (23, .iconst 1, 1, 0, 0, 0, 0) := ceB_eq (by decide +kernel)
theorem f_207_24 : fnd 207 24 = some (24, .goto 4, 3, 0, 0, 0, 0) := ceB_eq (by decide +kernel)
theorem f_207_27 : fnd 207 27 = some (27, .iconst 0, 1, 0, 0, 0, 0) := ceB_eq (by decide +kernel)
theorem f_207_28 : fnd 207 28 = some (28, .ireturn, 1, 0, 0, 0, 0) := ceB_eq (by decide +kernel)
theorem rk_207 : rkm 207 = 1 := by decide +kernel
theorem ml_207 : (mth 207).2.1 = 2 := by decide +kernel
set_option maxRecDepth 100000 in
theorem T_Z_isCore (k0 i0 x1 : Int) (σ : ST) (Q : Option AV → ST → Prop) (h :
  ((((bz (σ 40 k0 i0 11)) = 0 : Prop) →
    ((0 : Int) = 0 ∨ (0 : Int) = 1) ∧ Q (some (.inl 0)) σ) ∧
  (¬ ((bz (σ 40 k0 i0 11)) = 0) →
    ((0 : Int) ≤ 1 ∧ (1 : Int) < 4) ∧
    wpM m_Z_in [.inl x1, .inl 0, .inl (wr ((σ 43 0 0 1) - 1))] σ (asI fun r101 s101 =>
    (((r101 = 0 : Prop) →
      ((0 : Int) = 0 ∨ (0 : Int) = 1) ∧ Q (some (.inl 0)) s101) ∧
    (¬ (r101 = 0) →
      ((1 : Int) = 0 ∨ (1 : Int) = 1) ∧ Q (some (.inl 1)) s101)))))) :
  wpM m_Z_isCore [.inr (.inr (40, k0, i0)), .inl x1] σ Q :=
 wpM_of ml_207 (L := [some (.inr (.inr (40, k0, i0))), some (.inl x1)]) rfl
 (w_aload_n (p' := 1) f_207_0 rfl rfl
 (w_getfield (p' := 4) f_207_1 rfl (x := .inl (bz (σ 40 k0 i0 11))) rfl rfl
 (w_if (p' := 27) (q' := 7) f_207_4 rfl rfl
 (fun c103 => w_iconst (p' := 28) f_207_27 rfl
 (w_zret f_207_28 rk_207 (h.1 c103).1 (h.1 c103).2))
 (fun c103 => w_iload_n (p' := 8) f_207_7 rfl rfl
 (w_iconst (p' := 9) f_207_8 rfl
 (w_aload_n (p' := 10) f_207_9 rfl rfl
 (w_getfield (p' := 13) f_207_10 rfl (x := .inr (.inr (43, 0, 0))) rfl rfl
 (w_iconst (p' := 14) f_207_13 rfl
 (w_iaload (p' := 15) f_207_14 rfl (n := 4) rfl (h.2 c103).1 rfl
 (w_iconst (p' := 16) f_207_15 rfl
 (w_isub (p' := 17) f_207_16 rfl
 (w_callS (p' := 20) f_207_17 rfl rfl rfl (r := []) rfl rfl (kI (.inr rk_168) fun r101 s101 h101 =>
 w_if (p' := 27) (q' := 23) f_207_20 rfl rfl
 (fun c102 => w_iconst (p' := 28) f_207_27 rfl
 (w_zret f_207_28 rk_207 (h101.1 c102).1 (h101.1 c102).2))
 (fun c102 => w_iconst (p' := 24) f_207_23 rfl
 (w_goto (p' := 28) f_207_24 rfl
 (w_zret f_207_28 rk_207 (h101.2 c102).1 (h101.2 c102).2)))) (h.2 c103).2))))))))))))
/-! ClosedRoomsModel.ofCore(II)I -/
theorem f_208_0 : fnd 208 0 = some (0, .aload_n 0, 1, 0, 0, 0, 0) := ceB_eq (by decide +kernel)
theorem f_208_1 : fnd 208 1 = some (1, .getfield 25, 3, 10, 15, 15, 0) := ceB_eq (by decide +kernel)
theorem f_208_4 : fnd 208 4 = some (4, .sipush 202, 3, 0, 0, 0, 0) := ceB_eq (by decide +kernel)
theorem f_208_7 : fnd 208 7 = some (7, .bipush 11, 2, 0, 0, 0, 0) := ceB_eq (by decide +kernel)
theorem f_208_9 : fnd 208 9 = some (9, .iload_n 1, 1, 0, 0, 0, 0) := ceB_eq (by decide +kernel)
theorem f_208_10 : fnd 208 10 = some (10, .imul, 1, 0, 0, 0, 0) := ceB_eq (by decide +kernel)
theorem f_208_11 : fnd 208 11 = some (11, .iadd, 1, 0, 0, 0, 0) := ceB_eq (by decide +kernel)
theorem f_208_12 : fnd 208 12 = some (12, .iload_n 2, 1, 0, 0, 0, 0) := ceB_eq (by decide +kernel)
theorem f_208_13 : fnd 208 13 = some (13, .iadd, 1, 0, 0, 0, 0) := ceB_eq (by decide +kernel)
theorem f_208_14 : fnd 208 14 = some (14, .iaload, 1, 0, 0, 0, 0) := ceB_eq (by decide +kernel)
theorem f_208_15 : fnd 208 15 = some (15, .ireturn, 1, 0, 0, 0, 0) := ceB_eq (by decide +kernel)
theorem rk_208 : rkm 208 = 0 := by decide +kernel
theorem ml_208 : (mth 208).2.1 = 3 := by decide +kernel
set_option maxRecDepth 100000 in
theorem T_Z_ofCore (k0 i0 x1 x2 : Int) (σ : ST) (Q : Option AV → ST → Prop) (h :
  ((0 : Int) ≤ (wr ((wr (202 + (wr (11 * x1)))) + x2)) ∧ ((wr ((wr (202 + (wr (11 * x1)))) + x2)) : Int) < 526) ∧
  Q (some (.inl (σ 46 0 0 (wr ((wr (202 + (wr (11 * x1)))) + x2))))) σ) :
  wpM m_Z_ofCore [.inr (.inr (40, k0, i0)), .inl x1, .inl x2] σ Q :=
 wpM_of ml_208 (L := [some (.inr (.inr (40, k0, i0))), some (.inl x1), some (.inl x2)]) rfl
 (w_aload_n (p' := 1) f_208_0 rfl rfl
 (w_getfield (p' := 4) f_208_1 rfl (x := .inr (.inr (46, 0, 0))) rfl rfl
 (w_sipush (p' := 7) f_208_4 rfl
 (w_bipush (p' := 9) f_208_7 rfl
 (w_iload_n (p' := 10) f_208_9 rfl rfl
 (w_imul (p' := 11) f_208_10 rfl
 (w_iadd (p' := 12) f_208_11 rfl
 (w_iload_n (p' := 13) f_208_12 rfl rfl
 (w_iadd (p' := 14) f_208_13 rfl
 (w_iaload (p' := 15) f_208_14 rfl (n := 526) rfl h.1 rfl
 (w_iret f_208_15 rk_208 h.2)))))))))))
/-! ClosedRoomsModel.isInside(I)Z -/
theorem f_209_0 : fnd 209 0 = some (0, .aload_n 0, 1, 0, 0, 0, 0) := ceB_eq (by decide +kernel)
theorem f_209_1 : fnd 209 1 = some (1, .iload_n 1, 1, 0, 0, 0, 0) := ceB_eq (by decide +kernel)
theorem f_209_2 : fnd 209 2 = some (2, .iconst 1, 1, 0, 0, 0, 0) := ceB_eq (by decide +kernel)
theorem f_209_3 : fnd 209 3 = some (3, .invokevirtual 212, 3, 208, 3, 10, 0) := ceB_eq (by decide +kernel)
theorem f_209_6 : fnd 209 6 = some (6, .iconst (-1), 1, 0, 0, 0, 0) := ceB_eq (by decide +kernel)
theorem f_209_7 : fnd 209 7 = some (7, .if_icmp .eq 7, 3, 0, 0, 0, 0) := ceB_eq (by decide +kernel)
theorem f_209_10 : fnd 209 10 = some (10, .iconst 1, 1, 0, 0, 0, 0) := ceB_eq (by decide +kernel)
theorem f_209_11 : fnd 209 11 = some (11, .goto 4, 3, 0, 0, 0, 0) := ceB_eq (by decide +kernel)
theorem f_209_14 : fnd 209 14 = some (14, .iconst 0, 1, 0, 0, 0, 0) := ceB_eq (by decide +kernel)
theorem f_209_15 : fnd 209 15 = some (15, .ireturn, 1, 0, 0, 0, 0) := ceB_eq (by decide +kernel)
theorem rk_209 : rkm 209 = 1 := by decide +kernel
theorem ml_209 : (mth 209).2.1 = 2 := by decide +kernel
set_option maxRecDepth 100000 in
theorem T_Z_isInside (k0 i0 x1 : Int) (σ : ST) (Q : Option AV → ST → Prop) (h :
  wpM m_Z_ofCore [.inr (.inr (40, k0, i0)), .inl x1, .inl 1] σ (asI fun r101 s101 =>
  (((r101 = (-1) : Prop) →
    ((0 : Int) = 0 ∨ (0 : Int) = 1) ∧ Q (some (.inl 0)) s101) ∧
  (¬ (r101 = (-1)) →
    ((1 : Int) = 0 ∨ (1 : Int) = 1) ∧ Q (some (.inl 1)) s101)))) :
  wpM m_Z_isInside [.inr (.inr (40, k0, i0)), .inl x1] σ Q :=
 wpM_of ml_209 (L := [some (.inr (.inr (40, k0, i0))), some (.inl x1)]) rfl
 (w_aload_n (p' := 1) f_209_0 rfl rfl
 (w_iload_n (p' := 2) f_209_1 rfl rfl
 (w_iconst (p' := 3) f_209_2 rfl
 (w_callV (p' := 6) f_209_3 rfl rfl rfl rfl rfl (r := []) rfl rfl (kI (.inl rk_208) fun r101 s101 h101 =>
 w_iconst (p' := 7) f_209_6 rfl
 (w_icmp (p' := 14) (q' := 10) f_209_7 rfl rfl
 (fun c102 => w_iconst (p' := 15) f_209_14 rfl
 (w_zret f_209_15 rk_209 (h101.1 c102).1 (h101.1 c102).2))
 (fun c102 => w_iconst (p' := 11) f_209_10 rfl
 (w_goto (p' := 15) f_209_11 rfl
 (w_zret f_209_15 rk_209 (h101.2 c102).1 (h101.2 c102).2))))) h))))
/-! ClosedRoomsModel.mapOf(II)I -/
theorem f_210_0 : fnd 210 0 = some (0, .aload_n 0, 1, 0, 0, 0, 0) := ceB_eq (by decide +kernel)
theorem f_210_1 : fnd 210 1 = some (1, .iload_n 1, 1, 0, 0, 0, 0) := ceB_eq (by decide +kernel)
theorem f_210_2 : fnd 210 2 = some (2, .bipush 15, 2, 0, 0, 0, 0) := ceB_eq (by decide +kernel)
theorem f_210_4 : fnd 210 4 = some (4, .iload_n 2, 1, 0, 0, 0, 0) := ceB_eq (by decide +kernel)
theorem f_210_5 : fnd 210 5 = some (5, .iadd, 1, 0, 0, 0, 0) := ceB_eq (by decide +kernel)
theorem f_210_6 : fnd 210 6 = some (6, .invokevirtual 209, 3, 198, 3, 10, 0) := ceB_eq (by decide +kernel)
theorem f_210_9 : fnd 210 9 = some (9, .iconst 1, 1, 0, 0, 0, 0) := ceB_eq (by decide +kernel)
theorem f_210_10 : fnd 210 10 = some (10, .isub, 1, 0, 0, 0, 0) := ceB_eq (by decide +kernel)
theorem f_210_11 : fnd 210 11 = some (11, .ireturn, 1, 0, 0, 0, 0) := ceB_eq (by decide +kernel)
theorem rk_210 : rkm 210 = 0 := by decide +kernel
theorem ml_210 : (mth 210).2.1 = 3 := by decide +kernel
set_option maxRecDepth 100000 in
theorem T_Z_mapOf (k0 i0 x1 x2 : Int) (σ : ST) (Q : Option AV → ST → Prop) (h :
  wpM m_Z_ofRoom [.inr (.inr (40, k0, i0)), .inl x1, .inl (wr (15 + x2))] σ (asI fun r101 s101 =>
  Q (some (.inl (wr (r101 - 1)))) s101)) :
  wpM m_Z_mapOf [.inr (.inr (40, k0, i0)), .inl x1, .inl x2] σ Q :=
 wpM_of ml_210 (L := [some (.inr (.inr (40, k0, i0))), some (.inl x1), some (.inl x2)]) rfl
 (w_aload_n (p' := 1) f_210_0 rfl rfl
 (w_iload_n (p' := 2) f_210_1 rfl rfl
 (w_bipush (p' := 4) f_210_2 rfl
 (w_iload_n (p' := 5) f_210_4 rfl rfl
 (w_iadd (p' := 6) f_210_5 rfl
 (w_callV (p' := 9) f_210_6 rfl rfl rfl rfl rfl (r := []) rfl rfl (kI (.inl rk_198) fun r101 s101 h101 =>
 w_iconst (p' := 10) f_210_9 rfl
 (w_isub (p' := 11) f_210_10 rfl
 (w_iret f_210_11 rk_210 h101))) h))))))
/-! ClosedRoomsModel.isPage(I)Z -/
theorem f_211_0 : fnd 211 0 = some (0, .aload_n 0, 1, 0, 0, 0, 0) := ceB_eq (by decide +kernel)
theorem f_211_1 : fnd 211 1 = some (1, .getfield 199, 3, 10, 11, 11, 0) := ceB_eq (by decide +kernel)
theorem f_211_4 : fnd 211 4 = some (4, .ifCond .eq 23, 3, 0, 0, 0, 0) := ceB_eq (by decide +kernel)
theorem f_211_7 : fnd 211 7 = some (7, .iload_n 1, 1, 0, 0, 0, 0) := ceB_eq (by decide +kernel)
theorem f_211_8 : fnd 211 8 = some (8, .iconst 0, 1, 0, 0, 0, 0) := ceB_eq (by decide +kernel)
theorem f_211_9 : fnd 211 9 = some (9, .aload_n 0, 1, 0, 0, 0, 0) := ceB_eq (by decide +kernel)
theorem f_211_10 : fnd 211 10 = some (10, .getfield 16, 3, 10, 10, 10, 0) := ceB_eq (by decide +kernel)
theorem f_211_13 : fnd 211 13 = some (13, .iconst 0, 1, 0, 0, 0, 0) := ceB_eq (by decide +kernel)
theorem f_211_14 : fnd 211 14 = some (14, .iaload, 1, 0, 0, 0, 0) := ceB_eq (by decide +kernel)
theorem f_211_15 : fnd 211 15 = some (15, .iconst 1, 1, 0, 0, 0, 0) := ceB_eq (by decide +kernel)
theorem f_211_16 : fnd 211 16 = some (16, .isub, 1, 0, 0, 0, 0) := ceB_eq (by decide +kernel)
theorem f_211_17 : fnd 211 17 = some (17, .invokestatic 54, 3, 168, 3, 10, 0) := ceB_eq (by decide +kernel)
theorem f_211_20 : fnd 211 20 = some (20, .ifCond .eq 7, 3, 0, 0, 0, 0) := ceB_eq (by decide +kernel)
theorem f_211_23 : fnd 211 23 = some (23, .iconst 1, 1, 0, 0, 0, 0) := ceB_eq (by decide +kernel)
theorem f_211_24 : fnd 211 24 = some (24, .goto 4, 3, 0, 0, 0, 0) := ceB_eq (by decide +kernel)
theorem f_211_27 : fnd 211 27 = some (27, .iconst 0, 1, 0, 0, 0, 0) := ceB_eq (by decide +kernel)
theorem f_211_28 : fnd 211 28 = some (28, .ireturn, 1, 0, 0, 0, 0) := ceB_eq (by decide +kernel)
theorem rk_211 : rkm 211 = 1 := by decide +kernel
theorem ml_211 : (mth 211).2.1 = 2 := by decide +kernel
set_option maxRecDepth 100000 in
theorem T_Z_isPage (k0 i0 x1 : Int) (σ : ST) (Q : Option AV → ST → Prop) (h :
  ((((bz (σ 40 k0 i0 11)) = 0 : Prop) →
    ((0 : Int) = 0 ∨ (0 : Int) = 1) ∧ Q (some (.inl 0)) σ) ∧
  (¬ ((bz (σ 40 k0 i0 11)) = 0) →
    ((0 : Int) ≤ 0 ∧ (0 : Int) < 4) ∧
    wpM m_Z_in [.inl x1, .inl 0, .inl (wr ((σ 43 0 0 0) - 1))] σ (asI fun r101 s101 =>
    (((r101 = 0 : Prop) →
      ((0 : Int) = 0 ∨ (0 : Int) = 1) ∧ Q (some (.inl 0)) s101) ∧
    (¬ (r101 = 0) →
      ((1 : Int) = 0 ∨ (1 : Int) = 1) ∧ Q (some (.inl 1)) s101)))))) :
  wpM m_Z_isPage [.inr (.inr (40, k0, i0)), .inl x1] σ Q :=
 wpM_of ml_211 (L := [some (.inr (.inr (40, k0, i0))), some (.inl x1)]) rfl
 (w_aload_n (p' := 1) f_211_0 rfl rfl
 (w_getfield (p' := 4) f_211_1 rfl (x := .inl (bz (σ 40 k0 i0 11))) rfl rfl
 (w_if (p' := 27) (q' := 7) f_211_4 rfl rfl
 (fun c103 => w_iconst (p' := 28) f_211_27 rfl
 (w_zret f_211_28 rk_211 (h.1 c103).1 (h.1 c103).2))
 (fun c103 => w_iload_n (p' := 8) f_211_7 rfl rfl
 (w_iconst (p' := 9) f_211_8 rfl
 (w_aload_n (p' := 10) f_211_9 rfl rfl
 (w_getfield (p' := 13) f_211_10 rfl (x := .inr (.inr (43, 0, 0))) rfl rfl
 (w_iconst (p' := 14) f_211_13 rfl
 (w_iaload (p' := 15) f_211_14 rfl (n := 4) rfl (h.2 c103).1 rfl
 (w_iconst (p' := 16) f_211_15 rfl
 (w_isub (p' := 17) f_211_16 rfl
 (w_callS (p' := 20) f_211_17 rfl rfl rfl (r := []) rfl rfl (kI (.inr rk_168) fun r101 s101 h101 =>
 w_if (p' := 27) (q' := 23) f_211_20 rfl rfl
 (fun c102 => w_iconst (p' := 28) f_211_27 rfl
 (w_zret f_211_28 rk_211 (h101.1 c102).1 (h101.1 c102).2))
 (fun c102 => w_iconst (p' := 24) f_211_23 rfl
 (w_goto (p' := 28) f_211_24 rfl
 (w_zret f_211_28 rk_211 (h101.2 c102).1 (h101.2 c102).2)))) (h.2 c103).2))))))))))))
/-! ClosedRoomsModel.isPageOf(III)Z -/
theorem f_212_0 : fnd 212 0 = some (0, .aload_n 0, 1, 0, 0, 0, 0) := ceB_eq (by decide +kernel)
theorem f_212_1 : fnd 212 1 = some (1, .iload_n 1, 1, 0, 0, 0, 0) := ceB_eq (by decide +kernel)
theorem f_212_2 : fnd 212 2 = some (2, .invokevirtual 203, 3, 211, 2, 10, 0) := ceB_eq (by decide +kernel)
theorem f_212_5 : fnd 212 5 = some (5, .ifCond .eq 47, 3, 0, 0, 0, 0) := ceB_eq (by decide +kernel)
theorem f_212_8 : fnd 212 8 = some (8, .aload_n 0, 1, 0, 0, 0, 0) := ceB_eq (by decide +kernel)
theorem f_212_9 : fnd 212 9 = some (9, .iload_n 1, 1, 0, 0, 0, 0) := ceB_eq (by decide +kernel)
theorem f_212_10 : fnd 212 10 = some (10, .iconst 0, 1, 0, 0, 0, 0) := ceB_eq (by decide +kernel)
theorem f_212_11 : fnd 212 11 = some (11, .invokevirtual 206, 3, 196, 3, 10, 0) := ceB_eq (by decide +kernel)
theorem f_212_14 : fnd 212 14 = some (14, .iconst 2, 1, 0, 0, 0, 0) := ceB_eq (by decide +kernel)
theorem f_212_15 : fnd 212 15 = some (15, .if_icmp .eq 13, 3, 0, 0, 0, 0) := ceB_eq (by decide +kernel)
theorem f_212_18 : fnd 212 18 = some (18, .aload_n 0, 1, 0, 0, 0, 0) := ceB_eq (by decide +kernel)
theorem f_212_19 : fnd 212 19 = some (19, .iload_n 1, 1, 0, 0, 0, 0) := ceB_eq (by decide +kernel)
theorem f_212_20 : fnd 212 20 = some (20, .iconst 0, 1, 0, 0, 0, 0) := ceB_eq (by decide +kernel)
theorem f_212_21 : fnd 212 21 = some (21, .invokevirtual 206, 3, 196, 3, 10, 0) := ceB_eq (by decide +kernel)
theorem f_212_24 : fnd 212 24 = some (24, .iconst 3, 1, 0, 0, 0, 0) := ceB_eq (by decide +kernel)
theorem f_212_25 : fnd 212 25 = some (25, .if_icmp .ne 27, 3, 0, 0, 0, 0) := ceB_eq (by decide +kernel)
theorem f_212_28 : fnd 212 28 = some (28, .aload_n 0, 1, 0, 0, 0, 0) := ceB_eq (by decide +kernel)
theorem f_212_29 : fnd 212 29 = some (29, .iload_n 1, 1, 0, 0, 0, 0) := ceB_eq (by decide +kernel)
theorem f_212_30 : fnd 212 30 = some (30, .iconst 1, 1, 0, 0, 0, 0) := ceB_eq (by decide +kernel)
theorem f_212_31 : fnd 212 31 = some (31, .invokevirtual 206, 3, 196, 3, 10, 0) := ceB_eq (by decide +kernel)
theorem f_212_34 : fnd 212 34 = some (34, .iload_n 2, 1, 0, 0, 0, 0) := ceB_eq (by decide +kernel)
theorem f_212_35 : fnd 212 35 = some (35, .if_icmp .ne 17, 3, 0, 0, 0, 0) := ceB_eq (by decide +kernel)
theorem f_212_38 : fnd 212 38 = some (38, .aload_n 0, 1, 0, 0, 0, 0) := ceB_eq (by decide +kernel)
theorem f_212_39 : fnd 212 39 = some (39, .iload_n 1, 1, 0, 0, 0, 0) := ceB_eq (by decide +kernel)
theorem f_212_40 : fnd 212 40 = some (40, .iconst 2, 1, 0, 0, 0, 0) := ceB_eq (by decide +kernel)
theorem f_212_41 : fnd 212 41 = some (41, .invokevirtual 206, 3, 196, 3, 10, 0) := ceB_eq (by decide +kernel)
theorem f_212_44 : fnd 212 44 = some (44, .iload_n 3, 1, 0, 0, 0, 0) := ceB_eq (by decide +kernel)
theorem f_212_45 : fnd 212 45 = some (45, .if_icmp .ne 7, 3, 0, 0, 0, 0) := ceB_eq (by decide +kernel)
theorem f_212_48 : fnd 212 48 = some (48, .iconst 1, 1, 0, 0, 0, 0) := ceB_eq (by decide +kernel)
theorem f_212_49 : fnd 212 49 = some (49, .goto 4, 3, 0, 0, 0, 0) := ceB_eq (by decide +kernel)
theorem f_212_52 : fnd 212 52 = some (52, .iconst 0, 1, 0, 0, 0, 0) := ceB_eq (by decide +kernel)
theorem f_212_53 : fnd 212 53 = some (53, .ireturn, 1, 0, 0, 0, 0) := ceB_eq (by decide +kernel)
theorem rk_212 : rkm 212 = 1 := by decide +kernel
theorem ml_212 : (mth 212).2.1 = 4 := by decide +kernel
set_option maxRecDepth 100000 in
theorem T_Z_isPageOf (k0 i0 x1 x2 x3 : Int) (σ : ST) (Q : Option AV → ST → Prop) (h :
  wpM m_Z_isPage [.inr (.inr (40, k0, i0)), .inl x1] σ (asI fun r101 s101 =>
  (((r101 = 0 : Prop) →
    ((0 : Int) = 0 ∨ (0 : Int) = 1) ∧ Q (some (.inl 0)) s101) ∧
  (¬ (r101 = 0) →
    wpM m_Z_ofPage [.inr (.inr (40, k0, i0)), .inl x1, .inl 0] s101 (asI fun r102 s102 =>
    (((r102 = 2 : Prop) →
      wp m_Z_isPageOf (28, [some (.inr (.inr (40, k0, i0))), some (.inl x1), some (.inl x2), some (.inl x3)], [], s102) Q) ∧
    (¬ (r102 = 2) →
      wpM m_Z_ofPage [.inr (.inr (40, k0, i0)), .inl x1, .inl 0] s102 (asI fun r103 s103 =>
      (((r103 ≠ 3 : Prop) →
        ((0 : Int) = 0 ∨ (0 : Int) = 1) ∧ Q (some (.inl 0)) s103) ∧
      (¬ (r103 ≠ 3) →
        wp m_Z_isPageOf (28, [some (.inr (.inr (40, k0, i0))), some (.inl x1), some (.inl x2), some (.inl x3)], [], s103) Q)))))))))) :
  wpM m_Z_isPageOf [.inr (.inr (40, k0, i0)), .inl x1, .inl x2, .inl x3] σ Q :=
 wpM_of ml_212 (L := [some (.inr (.inr (40, k0, i0))), some (.inl x1), some (.inl x2), some (.inl x3)]) rfl
 (w_aload_n (p' := 1) f_212_0 rfl rfl
 (w_iload_n (p' := 2) f_212_1 rfl rfl
 (w_callV (p' := 5) f_212_2 rfl rfl rfl rfl rfl (r := []) rfl rfl (kI (.inr rk_211) fun r101 s101 h101 =>
 w_if (p' := 52) (q' := 8) f_212_5 rfl rfl
 (fun c106 => w_iconst (p' := 53) f_212_52 rfl
 (w_zret f_212_53 rk_212 (h101.1 c106).1 (h101.1 c106).2))
 (fun c106 => w_aload_n (p' := 9) f_212_8 rfl rfl
 (w_iload_n (p' := 10) f_212_9 rfl rfl
 (w_iconst (p' := 11) f_212_10 rfl
 (w_callV (p' := 14) f_212_11 rfl rfl rfl rfl rfl (r := []) rfl rfl (kI (.inl rk_196) fun r102 s102 h102 =>
 w_iconst (p' := 15) f_212_14 rfl
 (w_icmp (p' := 28) (q' := 18) f_212_15 rfl rfl
 (fun c105 => (h102.1 c105))
 (fun c105 => w_aload_n (p' := 19) f_212_18 rfl rfl
 (w_iload_n (p' := 20) f_212_19 rfl rfl
 (w_iconst (p' := 21) f_212_20 rfl
 (w_callV (p' := 24) f_212_21 rfl rfl rfl rfl rfl (r := []) rfl rfl (kI (.inl rk_196) fun r103 s103 h103 =>
 w_iconst (p' := 25) f_212_24 rfl
 (w_icmp (p' := 52) (q' := 28) f_212_25 rfl rfl
 (fun c104 => w_iconst (p' := 53) f_212_52 rfl
 (w_zret f_212_53 rk_212 (h103.1 c104).1 (h103.1 c104).2))
 (fun c104 => (h103.2 c104)))) (h102.2 c105))))))) (h101.2 c106)))))) h)))
set_option maxRecDepth 100000 in
theorem T_Z_isPageOf_28 (k0 i0 x1 x2 x3 : Int) (σ : ST) (Q : Option AV → ST → Prop) (h :
  wpM m_Z_ofPage [.inr (.inr (40, k0, i0)), .inl x1, .inl 1] σ (asI fun r101 s101 =>
  (((r101 ≠ x2 : Prop) →
    ((0 : Int) = 0 ∨ (0 : Int) = 1) ∧ Q (some (.inl 0)) s101) ∧
  (¬ (r101 ≠ x2) →
    wpM m_Z_ofPage [.inr (.inr (40, k0, i0)), .inl x1, .inl 2] s101 (asI fun r102 s102 =>
    (((r102 ≠ x3 : Prop) →
      ((0 : Int) = 0 ∨ (0 : Int) = 1) ∧ Q (some (.inl 0)) s102) ∧
    (¬ (r102 ≠ x3) →
      ((1 : Int) = 0 ∨ (1 : Int) = 1) ∧ Q (some (.inl 1)) s102))))))) :
  wp m_Z_isPageOf (28, [some (.inr (.inr (40, k0, i0))), some (.inl x1), some (.inl x2), some (.inl x3)], [], σ) Q :=
 w_aload_n (p' := 29) f_212_28 rfl rfl
 (w_iload_n (p' := 30) f_212_29 rfl rfl
 (w_iconst (p' := 31) f_212_30 rfl
 (w_callV (p' := 34) f_212_31 rfl rfl rfl rfl rfl (r := []) rfl rfl (kI (.inl rk_196) fun r101 s101 h101 =>
 w_iload_n (p' := 35) f_212_34 rfl rfl
 (w_icmp (p' := 52) (q' := 38) f_212_35 rfl rfl
 (fun c104 => w_iconst (p' := 53) f_212_52 rfl
 (w_zret f_212_53 rk_212 (h101.1 c104).1 (h101.1 c104).2))
 (fun c104 => w_aload_n (p' := 39) f_212_38 rfl rfl
 (w_iload_n (p' := 40) f_212_39 rfl rfl
 (w_iconst (p' := 41) f_212_40 rfl
 (w_callV (p' := 44) f_212_41 rfl rfl rfl rfl rfl (r := []) rfl rfl (kI (.inl rk_196) fun r102 s102 h102 =>
 w_iload_n (p' := 45) f_212_44 rfl rfl
 (w_icmp (p' := 52) (q' := 48) f_212_45 rfl rfl
 (fun c103 => w_iconst (p' := 53) f_212_52 rfl
 (w_zret f_212_53 rk_212 (h102.1 c103).1 (h102.1 c103).2))
 (fun c103 => w_iconst (p' := 49) f_212_48 rfl
 (w_goto (p' := 53) f_212_49 rfl
 (w_zret f_212_53 rk_212 (h102.2 c103).1 (h102.2 c103).2))))) (h101.2 c104))))))) h)))
/-! ClosedRoomsModel.whyEnter(IIII)I -/
theorem f_213_0 : fnd 213 0 = some (0, .aload_n 0, 1, 0, 0, 0, 0) := ceB_eq (by decide +kernel)
theorem f_213_1 : fnd 213 1 = some (1, .iload_n 1, 1, 0, 0, 0, 0) := ceB_eq (by decide +kernel)
theorem f_213_2 : fnd 213 2 = some (2, .invokevirtual 261, 3, 207, 2, 10, 0) := ceB_eq (by decide +kernel)
theorem f_213_5 : fnd 213 5 = some (5, .ifCond .eq 11, 3, 0, 0, 0, 0) := ceB_eq (by decide +kernel)
theorem f_213_8 : fnd 213 8 = some (8, .aload_n 0, 1, 0, 0, 0, 0) := ceB_eq (by decide +kernel)
theorem f_213_9 : fnd 213 9 = some (9, .iload_n 2, 1, 0, 0, 0, 0) := ceB_eq (by decide +kernel)
theorem f_213_10 : fnd 213 10 = some (10, .invokevirtual 252, 3, 201, 2, 10, 0) := ceB_eq (by decide +kernel)
theorem f_213_13 : fnd 213 13 = some (13, .ifCond .ne 5, 3, 0, 0, 0, 0) := ceB_eq (by decide +kernel)
theorem f_213_16 : fnd 213 16 = some (16, .iconst 0, 1, 0, 0, 0, 0) := ceB_eq (by decide +kernel)
theorem f_213_17 : fnd 213 17 = some (17, .ireturn, 1, 0, 0, 0, 0) := ceB_eq (by decide +kernel)
theorem f_213_18 : fnd 213 18 = some (18, .aload_n 0, 1, 0, 0, 0, 0) := ceB_eq (by decide +kernel)
theorem f_213_19 : fnd 213 19 = some (19, .iload_n 2, 1, 0, 0, 0, 0) := ceB_eq (by decide +kernel)
theorem f_213_20 : fnd 213 20 = some (20, .iload_n 3, 1, 0, 0, 0, 0) := ceB_eq (by decide +kernel)
theorem f_213_21 : fnd 213 21 = some (21, .invokevirtual 255, 3, 202, 3, 10, 0) := ceB_eq (by decide +kernel)
theorem f_213_24 : fnd 213 24 = some (24, .ifCond .ne 5, 3, 0, 0, 0, 0) := ceB_eq (by decide +kernel)
theorem f_213_27 : fnd 213 27 = some (27, .iconst 1, 1, 0, 0, 0, 0) := ceB_eq (by decide +kernel)
theorem f_213_28 : fnd 213 28 = some (28, .ireturn, 1, 0, 0, 0, 0) := ceB_eq (by decide +kernel)
theorem f_213_29 : fnd 213 29 = some (29, .aload_n 0, 1, 0, 0, 0, 0) := ceB_eq (by decide +kernel)
theorem f_213_30 : fnd 213 30 = some (30, .iload_n 1, 1, 0, 0, 0, 0) := ceB_eq (by decide +kernel)
theorem f_213_31 : fnd 213 31 = some (31, .invokevirtual 264, 3, 209, 2, 10, 0) := ceB_eq (by decide +kernel)
theorem f_213_34 : fnd 213 34 = some (34, .ifCond .ne 21, 3, 0, 0, 0, 0) := ceB_eq (by decide +kernel)
theorem f_213_37 : fnd 213 37 = some (37, .aload_n 0, 1, 0, 0, 0, 0) := ceB_eq (by decide +kernel)
theorem f_213_38 : fnd 213 38 = some (38, .iload_n 2, 1, 0, 0, 0, 0) := ceB_eq (by decide +kernel)
theorem f_213_39 : fnd 213 39 = some (39, .iconst 3, 1, 0, 0, 0, 0) := ceB_eq (by decide +kernel)
theorem f_213_40 : fnd 213 40 = some (40, .invokevirtual 209, 3, 198, 3, 10, 0) := ceB_eq (by decide +kernel)
theorem f_213_43 : fnd 213 43 = some (43, .iconst 2, 1, 0, 0, 0, 0) := ceB_eq (by decide +kernel)
theorem f_213_44 : fnd 213 44 = some (44, .if_icmp .ne 11, 3, 0, 0, 0, 0) := ceB_eq (by decide +kernel)
theorem f_213_47 : fnd 213 47 = some (47, .aload_n 0, 1, 0, 0, 0, 0) := ceB_eq (by decide +kernel)
theorem f_213_48 : fnd 213 48 = some (48, .iload_n 2, 1, 0, 0, 0, 0) := ceB_eq (by decide +kernel)
theorem f_213_49 : fnd 213 49 = some (49, .invokevirtual 258, 3, 203, 2, 10, 0) := ceB_eq (by decide +kernel)
theorem f_213_52 : fnd 213 52 = some (52, .ifCond .eq 5, 3, 0, 0, 0, 0) := ceB_eq (by decide +kernel)
theorem f_213_55 : fnd 213 55 = some (55, .iconst 2, 1, 0, 0, 0, 0) := ceB_eq (by decide +kernel)
theorem f_213_56 : fnd 213 56 = some (56, .ireturn, 1, 0, 0, 0, 0) := ceB_eq (by decide +kernel)
theorem f_213_57 : fnd 213 57 = some (57, .aload_n 0, 1, 0, 0, 0, 0) := ceB_eq (by decide +kernel)
theorem f_213_58 : fnd 213 58 = some (58, .iload_n 2, 1, 0, 0, 0, 0) := ceB_eq (by decide +kernel)
theorem f_213_59 : fnd 213 59 = some (59, .iload_n 3, 1, 0, 0, 0, 0) := ceB_eq (by decide +kernel)
theorem f_213_60 : fnd 213 60 = some (60, .invokevirtual 267, 3, 210, 3, 10, 0) := ceB_eq (by decide +kernel)
theorem f_213_63 : fnd 213 63 = some (63, .istore 5, 2, 0, 0, 0, 0) := ceB_eq (by decide +kernel)
theorem f_213_65 : fnd 213 65 = some (65, .aload_n 0, 1, 0, 0, 0, 0) := ceB_eq (by decide +kernel)
theorem f_213_66 : fnd 213 66 = some (66, .iload 5, 2, 0, 0, 0, 0) := ceB_eq (by decide +kernel)
theorem f_213_68 : fnd 213 68 = some (68, .iload_n 2, 1, 0, 0, 0, 0) := ceB_eq (by decide +kernel)
theorem f_213_69 : fnd 213 69 = some (69, .iload_n 3, 1, 0, 0, 0, 0) := ceB_eq (by decide +kernel)
theorem f_213_70 : fnd 213 70 = some (70, .invokevirtual 243, 3, 212, 4, 10, 0) := ceB_eq (by decide +kernel)
theorem f_213_73 : fnd 213 73 = some (73, .ifCond .ne 5, 3, 0, 0, 0, 0) := ceB_eq (by decide +kernel)
theorem f_213_76 : fnd 213 76 = some (76, .iconst 4, 1, 0, 0, 0, 0) := ceB_eq (by decide +kernel)
theorem f_213_77 : fnd 213 77 = some (77, .ireturn, 1, 0, 0, 0, 0) := ceB_eq (by decide +kernel)
theorem f_213_78 : fnd 213 78 = some (78, .aload_n 0, 1, 0, 0, 0, 0) := ceB_eq (by decide +kernel)
theorem f_213_79 : fnd 213 79 = some (79, .iload 5, 2, 0, 0, 0, 0) := ceB_eq (by decide +kernel)
theorem f_213_81 : fnd 213 81 = some (81, .iconst 0, 1, 0, 0, 0, 0) := ceB_eq (by decide +kernel)
theorem f_213_82 : fnd 213 82 = some (82, .invokevirtual 206, 3, 196, 3, 10, 0) := ceB_eq (by decide +kernel)
theorem f_213_85 : fnd 213 85 = some (85, .iconst 3, 1, 0, 0, 0, 0) := ceB_eq (by decide +kernel)
theorem f_213_86 : fnd 213 86 = some (86, .if_icmp .ne 16, 3, 0, 0, 0, 0) := ceB_eq (by decide +kernel)
theorem f_213_89 : fnd 213 89 = some (89, .aload_n 0, 1, 0, 0, 0, 0) := ceB_eq (by decide +kernel)
theorem f_213_90 : fnd 213 90 = some (90, .iload 5, 2, 0, 0, 0, 0) := ceB_eq (by decide +kernel)
theorem f_213_92 : fnd 213 92 = some (92, .bipush 6, 2, 0, 0, 0, 0) := ceB_eq (by decide +kernel)
theorem f_213_94 : fnd 213 94 = some (94, .invokevirtual 206, 3, 196, 3, 10, 0) := ceB_eq (by decide +kernel)
theorem f_213_97 : fnd 213 97 = some (97, .iload 4, 2, 0, 0, 0, 0) := ceB_eq (by decide +kernel)
theorem f_213_99 : fnd 213 99 = some (99, .if_icmp .eq 5, 3, 0, 0, 0, 0) := ceB_eq (by decide +kernel)
theorem f_213_102 : fnd 213 102 = some (102, .iconst 2, 1, 0, 0, 0, 0) := ceB_eq (by decide +kernel)
theorem f_213_103 : fnd 213 103 = some (103, .ireturn, 1, 0, 0, 0, 0) := ceB_eq (by decide +kernel)
theorem f_213_104 : fnd 213 104 = some (104, .aload_n 0, 1, 0, 0, 0, 0) := ceB_eq (by decide +kernel)
theorem f_213_105 : fnd 213 105 = some (105, .iload 5, 2, 0, 0, 0, 0) := ceB_eq (by decide +kernel)
theorem f_213_107 : fnd 213 107 = some (107, .iconst 5, 1, 0, 0, 0, 0) := ceB_eq (by decide +kernel)
theorem f_213_108 : fnd 213 108 = some (108, .invokevirtual 206, 3, 196, 3, 10, 0) := ceB_eq (by decide +kernel)
theorem f_213_111 : fnd 213 111 = some (111, .iconst (-1), 1, 0, 0, 0, 0) := ceB_eq (by decide +kernel)
theorem f_213_112 : fnd 213 112 = some (112, .if_icmp .eq 7, 3, 0, 0, 0, 0) := ceB_eq (by decide +kernel)
theorem f_213_115 : fnd 213 115 = some (115, .iconst 4, 1, 0, 0, 0, 0) := ceB_eq (by decide +kernel)
theorem f_213_116 : fnd 213 116 = some (116, .goto 4, 3, 0, 0, 0, 0) := ceB_eq (by decide +kernel)
theorem f_213_119 : fnd 213 119 = some (119, .iconst (-1), 1, 0, 0, 0, 0) := ceB_eq (by decide +kernel)
theorem f_213_120 : fnd 213 120 = some (120, .ireturn, 1, 0, 0, 0, 0) := ceB_eq (by decide +kernel)
theorem rk_213 : rkm 213 = 0 := by decide +kernel
theorem ml_213 : (mth 213).2.1 = 6 := by decide +kernel
set_option maxRecDepth 100000 in
theorem T_Z_whyEnter (k0 i0 x1 x2 x3 x4 : Int) (σ : ST) (Q : Option AV → ST → Prop) (h :
  wpM m_Z_isCore [.inr (.inr (40, k0, i0)), .inl x1] σ (asI fun r101 s101 =>
  (((r101 = 0 : Prop) →
    Q (some (.inl 0)) s101) ∧
  (¬ (r101 = 0) →
    wpM m_Z_isRoom [.inr (.inr (40, k0, i0)), .inl x2] s101 (asI fun r102 s102 =>
    (((r102 ≠ 0 : Prop) →
      wpM m_Z_isAddress [.inr (.inr (40, k0, i0)), .inl x2, .inl x3] s102 (asI fun r103 s103 =>
      (((r103 ≠ 0 : Prop) →
        wpM m_Z_isInside [.inr (.inr (40, k0, i0)), .inl x1] s103 (asI fun r104 s104 =>
        (((r104 ≠ 0 : Prop) →
          Q (some (.inl 2)) s104) ∧
        (¬ (r104 ≠ 0) →
          wpM m_Z_ofRoom [.inr (.inr (40, k0, i0)), .inl x2, .inl 3] s104 (asI fun r105 s105 =>
          (((r105 ≠ 2 : Prop) →
            Q (some (.inl 2)) s105) ∧
          (¬ (r105 ≠ 2) →
            wpM m_Z_isAway [.inr (.inr (40, k0, i0)), .inl x2] s105 (asI fun r106 s106 =>
            (((r106 = 0 : Prop) →
              wpM m_Z_mapOf [.inr (.inr (40, k0, i0)), .inl x2, .inl x3] s106 (asI fun r107 s107 =>
              wpM m_Z_isPageOf [.inr (.inr (40, k0, i0)), .inl r107, .inl x2, .inl x3] s107 (asI fun r108 s108 =>
              (((r108 ≠ 0 : Prop) →
                wpM m_Z_ofPage [.inr (.inr (40, k0, i0)), .inl r107, .inl 0] s108 (asI fun r109 s109 =>
                (((r109 ≠ 3 : Prop) →
                  Q (some (.inl 2)) s109) ∧
                (¬ (r109 ≠ 3) →
                  wpM m_Z_ofPage [.inr (.inr (40, k0, i0)), .inl r107, .inl 6] s109 (asI fun r110 s110 =>
                  (((r110 = x4 : Prop) →
                    wpM m_Z_ofPage [.inr (.inr (40, k0, i0)), .inl r107, .inl 5] s110 (asI fun r111 s111 =>
                    (((r111 = (-1) : Prop) →
                      Q (some (.inl (-1))) s111) ∧
                    (¬ (r111 = (-1)) →
                      Q (some (.inl 4)) s111)))) ∧
                  (¬ (r110 = x4) →
                    Q (some (.inl 2)) s110))))))) ∧
              (¬ (r108 ≠ 0) →
                Q (some (.inl 4)) s108))))) ∧
            (¬ (r106 = 0) →
              Q (some (.inl 2)) s106)))))))))) ∧
      (¬ (r103 ≠ 0) →
        Q (some (.inl 1)) s103)))) ∧
    (¬ (r102 ≠ 0) →
      Q (some (.inl 0)) s102))))))) :
  wpM m_Z_whyEnter [.inr (.inr (40, k0, i0)), .inl x1, .inl x2, .inl x3, .inl x4] σ Q :=
 wpM_of ml_213 (L := [some (.inr (.inr (40, k0, i0))), some (.inl x1), some (.inl x2), some (.inl x3), some (.inl x4), none]) rfl
 (w_aload_n (p' := 1) f_213_0 rfl rfl
 (w_iload_n (p' := 2) f_213_1 rfl rfl
 (w_callV (p' := 5) f_213_2 rfl rfl rfl rfl rfl (r := []) rfl rfl (kI (.inr rk_207) fun r101 s101 h101 =>
 w_if (p' := 16) (q' := 8) f_213_5 rfl rfl
 (fun c121 => w_iconst (p' := 17) f_213_16 rfl
 (w_iret f_213_17 rk_213 (h101.1 c121)))
 (fun c121 => w_aload_n (p' := 9) f_213_8 rfl rfl
 (w_iload_n (p' := 10) f_213_9 rfl rfl
 (w_callV (p' := 13) f_213_10 rfl rfl rfl rfl rfl (r := []) rfl rfl (kI (.inr rk_201) fun r102 s102 h102 =>
 w_if (p' := 18) (q' := 16) f_213_13 rfl rfl
 (fun c120 => w_aload_n (p' := 19) f_213_18 rfl rfl
 (w_iload_n (p' := 20) f_213_19 rfl rfl
 (w_iload_n (p' := 21) f_213_20 rfl rfl
 (w_callV (p' := 24) f_213_21 rfl rfl rfl rfl rfl (r := []) rfl rfl (kI (.inr rk_202) fun r103 s103 h103 =>
 w_if (p' := 29) (q' := 27) f_213_24 rfl rfl
 (fun c119 => w_aload_n (p' := 30) f_213_29 rfl rfl
 (w_iload_n (p' := 31) f_213_30 rfl rfl
 (w_callV (p' := 34) f_213_31 rfl rfl rfl rfl rfl (r := []) rfl rfl (kI (.inr rk_209) fun r104 s104 h104 =>
 w_if (p' := 55) (q' := 37) f_213_34 rfl rfl
 (fun c118 => w_iconst (p' := 56) f_213_55 rfl
 (w_iret f_213_56 rk_213 (h104.1 c118)))
 (fun c118 => w_aload_n (p' := 38) f_213_37 rfl rfl
 (w_iload_n (p' := 39) f_213_38 rfl rfl
 (w_iconst (p' := 40) f_213_39 rfl
 (w_callV (p' := 43) f_213_40 rfl rfl rfl rfl rfl (r := []) rfl rfl (kI (.inl rk_198) fun r105 s105 h105 =>
 w_iconst (p' := 44) f_213_43 rfl
 (w_icmp (p' := 55) (q' := 47) f_213_44 rfl rfl
 (fun c117 => w_iconst (p' := 56) f_213_55 rfl
 (w_iret f_213_56 rk_213 (h105.1 c117)))
 (fun c117 => w_aload_n (p' := 48) f_213_47 rfl rfl
 (w_iload_n (p' := 49) f_213_48 rfl rfl
 (w_callV (p' := 52) f_213_49 rfl rfl rfl rfl rfl (r := []) rfl rfl (kI (.inr rk_203) fun r106 s106 h106 =>
 w_if (p' := 57) (q' := 55) f_213_52 rfl rfl
 (fun c116 => w_aload_n (p' := 58) f_213_57 rfl rfl
 (w_iload_n (p' := 59) f_213_58 rfl rfl
 (w_iload_n (p' := 60) f_213_59 rfl rfl
 (w_callV (p' := 63) f_213_60 rfl rfl rfl rfl rfl (r := []) rfl rfl (kI (.inl rk_210) fun r107 s107 h107 =>
 w_istore (p' := 65) f_213_63 (L' := [some (.inr (.inr (40, k0, i0))), some (.inl x1), some (.inl x2), some (.inl x3), some (.inl x4), some (.inl r107)]) rfl rfl
 (w_aload_n (p' := 66) f_213_65 rfl rfl
 (w_iload (p' := 68) f_213_66 rfl rfl
 (w_iload_n (p' := 69) f_213_68 rfl rfl
 (w_iload_n (p' := 70) f_213_69 rfl rfl
 (w_callV (p' := 73) f_213_70 rfl rfl rfl rfl rfl (r := []) rfl rfl (kI (.inr rk_212) fun r108 s108 h108 =>
 w_if (p' := 78) (q' := 76) f_213_73 rfl rfl
 (fun c115 => w_aload_n (p' := 79) f_213_78 rfl rfl
 (w_iload (p' := 81) f_213_79 rfl rfl
 (w_iconst (p' := 82) f_213_81 rfl
 (w_callV (p' := 85) f_213_82 rfl rfl rfl rfl rfl (r := []) rfl rfl (kI (.inl rk_196) fun r109 s109 h109 =>
 w_iconst (p' := 86) f_213_85 rfl
 (w_icmp (p' := 102) (q' := 89) f_213_86 rfl rfl
 (fun c114 => w_iconst (p' := 103) f_213_102 rfl
 (w_iret f_213_103 rk_213 (h109.1 c114)))
 (fun c114 => w_aload_n (p' := 90) f_213_89 rfl rfl
 (w_iload (p' := 92) f_213_90 rfl rfl
 (w_bipush (p' := 94) f_213_92 rfl
 (w_callV (p' := 97) f_213_94 rfl rfl rfl rfl rfl (r := []) rfl rfl (kI (.inl rk_196) fun r110 s110 h110 =>
 w_iload (p' := 99) f_213_97 rfl rfl
 (w_icmp (p' := 104) (q' := 102) f_213_99 rfl rfl
 (fun c113 => w_aload_n (p' := 105) f_213_104 rfl rfl
 (w_iload (p' := 107) f_213_105 rfl rfl
 (w_iconst (p' := 108) f_213_107 rfl
 (w_callV (p' := 111) f_213_108 rfl rfl rfl rfl rfl (r := []) rfl rfl (kI (.inl rk_196) fun r111 s111 h111 =>
 w_iconst (p' := 112) f_213_111 rfl
 (w_icmp (p' := 119) (q' := 115) f_213_112 rfl rfl
 (fun c112 => w_iconst (p' := 120) f_213_119 rfl
 (w_iret f_213_120 rk_213 (h111.1 c112)))
 (fun c112 => w_iconst (p' := 116) f_213_115 rfl
 (w_goto (p' := 120) f_213_116 rfl
 (w_iret f_213_120 rk_213 (h111.2 c112)))))) (h110.1 c113)))))
 (fun c113 => w_iconst (p' := 103) f_213_102 rfl
 (w_iret f_213_103 rk_213 (h110.2 c113))))) (h109.2 c114))))))) (h108.1 c115)))))
 (fun c115 => w_iconst (p' := 77) f_213_76 rfl
 (w_iret f_213_77 rk_213 (h108.2 c115)))) h107)))))) (h106.1 c116)))))
 (fun c116 => w_iconst (p' := 56) f_213_55 rfl
 (w_iret f_213_56 rk_213 (h106.2 c116)))) (h105.2 c117)))))) (h104.2 c118)))))) (h103.1 c119))))
 (fun c119 => w_iconst (p' := 28) f_213_27 rfl
 (w_iret f_213_28 rk_213 (h103.2 c119)))) (h102.1 c120)))))
 (fun c120 => w_iconst (p' := 17) f_213_16 rfl
 (w_iret f_213_17 rk_213 (h102.2 c120)))) (h101.2 c121))))) h)))
/-! ClosedRoomsModel.whyLeave(I)I -/
theorem f_214_0 : fnd 214 0 = some (0, .aload_n 0, 1, 0, 0, 0, 0) := ceB_eq (by decide +kernel)
theorem f_214_1 : fnd 214 1 = some (1, .iload_n 1, 1, 0, 0, 0, 0) := ceB_eq (by decide +kernel)
theorem f_214_2 : fnd 214 2 = some (2, .invokevirtual 261, 3, 207, 2, 10, 0) := ceB_eq (by decide +kernel)
theorem f_214_5 : fnd 214 5 = some (5, .ifCond .ne 7, 3, 0, 0, 0, 0) := ceB_eq (by decide +kernel)
theorem f_214_8 : fnd 214 8 = some (8, .iconst 0, 1, 0, 0, 0, 0) := ceB_eq (by decide +kernel)
theorem f_214_9 : fnd 214 9 = some (9, .goto 16, 3, 0, 0, 0, 0) := ceB_eq (by decide +kernel)
theorem f_214_12 : fnd 214 12 = some (12, .aload_n 0, 1, 0, 0, 0, 0) := ceB_eq (by decide +kernel)
theorem f_214_13 : fnd 214 13 = some (13, .iload_n 1, 1, 0, 0, 0, 0) := ceB_eq (by decide +kernel)
theorem f_214_14 : fnd 214 14 = some (14, .invokevirtual 264, 3, 209, 2, 10, 0) := ceB_eq (by decide +kernel)
theorem f_214_17 : fnd 214 17 = some (17, .ifCond .ne 7, 3, 0, 0, 0, 0) := ceB_eq (by decide +kernel)
theorem f_214_20 : fnd 214 20 = some (20, .iconst 2, 1, 0, 0, 0, 0) := ceB_eq (by decide +kernel)
theorem f_214_21 : fnd 214 21 = some (21, .goto 4, 3, 0, 0, 0, 0) := ceB_eq (by decide +kernel)
theorem f_214_24 : fnd 214 24 = some (24, .iconst (-1), 1, 0, 0, 0, 0) := ceB_eq (by decide +kernel)
theorem f_214_25 : fnd 214 25 = some (25, .ireturn, 1, 0, 0, 0, 0) := ceB_eq (by decide +kernel)
theorem rk_214 : rkm 214 = 0 := by decide +kernel
theorem ml_214 : (mth 214).2.1 = 2 := by decide +kernel
set_option maxRecDepth 100000 in
theorem T_Z_whyLeave (k0 i0 x1 : Int) (σ : ST) (Q : Option AV → ST → Prop) (h :
  wpM m_Z_isCore [.inr (.inr (40, k0, i0)), .inl x1] σ (asI fun r101 s101 =>
  (((r101 ≠ 0 : Prop) →
    wpM m_Z_isInside [.inr (.inr (40, k0, i0)), .inl x1] s101 (asI fun r102 s102 =>
    (((r102 ≠ 0 : Prop) →
      Q (some (.inl (-1))) s102) ∧
    (¬ (r102 ≠ 0) →
      Q (some (.inl 2)) s102)))) ∧
  (¬ (r101 ≠ 0) →
    Q (some (.inl 0)) s101)))) :
  wpM m_Z_whyLeave [.inr (.inr (40, k0, i0)), .inl x1] σ Q :=
 wpM_of ml_214 (L := [some (.inr (.inr (40, k0, i0))), some (.inl x1)]) rfl
 (w_aload_n (p' := 1) f_214_0 rfl rfl
 (w_iload_n (p' := 2) f_214_1 rfl rfl
 (w_callV (p' := 5) f_214_2 rfl rfl rfl rfl rfl (r := []) rfl rfl (kI (.inr rk_207) fun r101 s101 h101 =>
 w_if (p' := 12) (q' := 8) f_214_5 rfl rfl
 (fun c104 => w_aload_n (p' := 13) f_214_12 rfl rfl
 (w_iload_n (p' := 14) f_214_13 rfl rfl
 (w_callV (p' := 17) f_214_14 rfl rfl rfl rfl rfl (r := []) rfl rfl (kI (.inr rk_209) fun r102 s102 h102 =>
 w_if (p' := 24) (q' := 20) f_214_17 rfl rfl
 (fun c103 => w_iconst (p' := 25) f_214_24 rfl
 (w_iret f_214_25 rk_214 (h102.1 c103)))
 (fun c103 => w_iconst (p' := 21) f_214_20 rfl
 (w_goto (p' := 25) f_214_21 rfl
 (w_iret f_214_25 rk_214 (h102.2 c103))))) (h101.1 c104))))
 (fun c104 => w_iconst (p' := 9) f_214_8 rfl
 (w_goto (p' := 25) f_214_9 rfl
 (w_iret f_214_25 rk_214 (h101.2 c104))))) h)))
/-! ClosedRoomsModel.sightOf(II)I -/
theorem f_215_0 : fnd 215 0 = some (0, .iconst 0, 1, 0, 0, 0, 0) := ceB_eq (by decide +kernel)
theorem f_215_1 : fnd 215 1 = some (1, .istore_n 3, 1, 0, 0, 0, 0) := ceB_eq (by decide +kernel)
theorem f_215_2 : fnd 215 2 = some (2, .iload_n 3, 1, 0, 0, 0, 0) := ceB_eq (by decide +kernel)
theorem f_215_3 : fnd 215 3 = some (3, .aload_n 0, 1, 0, 0, 0, 0) := ceB_eq (by decide +kernel)
theorem f_215_4 : fnd 215 4 = some (4, .iload_n 1, 1, 0, 0, 0, 0) := ceB_eq (by decide +kernel)
theorem f_215_5 : fnd 215 5 = some (5, .iconst 4, 1, 0, 0, 0, 0) := ceB_eq (by decide +kernel)
theorem f_215_6 : fnd 215 6 = some (6, .invokevirtual 212, 3, 208, 3, 10, 0) := ceB_eq (by decide +kernel)
theorem f_215_9 : fnd 215 9 = some (9, .if_icmp .ge 25, 3, 0, 0, 0, 0) := ceB_eq (by decide +kernel)
theorem f_215_12 : fnd 215 12 = some (12, .aload_n 0, 1, 0, 0, 0, 0) := ceB_eq (by decide +kernel)
theorem f_215_13 : fnd 215 13 = some (13, .iload_n 1, 1, 0, 0, 0, 0) := ceB_eq (by decide +kernel)
theorem f_215_14 : fnd 215 14 = some (14, .iconst 5, 1, 0, 0, 0, 0) := ceB_eq (by decide +kernel)
theorem f_215_15 : fnd 215 15 = some (15, .iconst 2, 1, 0, 0, 0, 0) := ceB_eq (by decide +kernel)
theorem f_215_16 : fnd 215 16 = some (16, .iload_n 3, 1, 0, 0, 0, 0) := ceB_eq (by decide +kernel)
theorem f_215_17 : fnd 215 17 = some (17, .imul, 1, 0, 0, 0, 0) := ceB_eq (by decide +kernel)
theorem f_215_18 : fnd 215 18 = some (18, .iadd, 1, 0, 0, 0, 0) := ceB_eq (by decide +kernel)
theorem f_215_19 : fnd 215 19 = some (19, .invokevirtual 212, 3, 208, 3, 10, 0) := ceB_eq (by decide +kernel)
theorem f_215_22 : fnd 215 22 = some (22, .iload_n 2, 1, 0, 0, 0, 0) := ceB_eq (by decide +kernel)
theorem f_215_23 : fnd 215 23 = some (23, .if_icmp .ne 5, 3, 0, 0, 0, 0) := ceB_eq (by decide +kernel)
theorem f_215_26 : fnd 215 26 = some (26, .iload_n 3, 1, 0, 0, 0, 0) := ceB_eq (by decide +kernel)
theorem f_215_27 : fnd 215 27 = some (27, .ireturn, 1, 0, 0, 0, 0) := ceB_eq (by decide +kernel)
theorem f_215_28 : fnd 215 28 = some (28, .iinc 3 1, 3, 0, 0, 0, 0) := ceB_eq (by decide +kernel)
theorem f_215_31 : fnd 215 31 = some (31, .goto (-29), 3, 0, 0, 0, 0) := ceB_eq (by decide +kernel)
theorem f_215_34 : fnd 215 34 = some (34, .iconst (-1), 1, 0, 0, 0, 0) := ceB_eq (by decide +kernel)
theorem f_215_35 : fnd 215 35 = some (35, .ireturn, 1, 0, 0, 0, 0) := ceB_eq (by decide +kernel)
theorem rk_215 : rkm 215 = 0 := by decide +kernel
theorem ml_215 : (mth 215).2.1 = 4 := by decide +kernel
set_option maxRecDepth 100000 in
theorem T_Z_sightOf (k0 i0 x1 x2 : Int) (σ : ST) (Q : Option AV → ST → Prop) (h :
  wp m_Z_sightOf (2, [some (.inr (.inr (40, k0, i0))), some (.inl x1), some (.inl x2), some (.inl 0)], [], σ) Q) :
  wpM m_Z_sightOf [.inr (.inr (40, k0, i0)), .inl x1, .inl x2] σ Q :=
 wpM_of ml_215 (L := [some (.inr (.inr (40, k0, i0))), some (.inl x1), some (.inl x2), none]) rfl
 (w_iconst (p' := 1) f_215_0 rfl
 (w_istore_n (p' := 2) f_215_1 (L' := [some (.inr (.inr (40, k0, i0))), some (.inl x1), some (.inl x2), some (.inl 0)]) rfl rfl
 (h)))
set_option maxRecDepth 100000 in
theorem T_Z_sightOf_2 (k0 i0 x1 x2 x3 : Int) (σ : ST) (Q : Option AV → ST → Prop) (h :
  wpM m_Z_ofCore [.inr (.inr (40, k0, i0)), .inl x1, .inl 4] σ (asI fun r101 s101 =>
  (((r101 ≤ x3 : Prop) →
    Q (some (.inl (-1))) s101) ∧
  (¬ (r101 ≤ x3) →
    wpM m_Z_ofCore [.inr (.inr (40, k0, i0)), .inl x1, .inl (wr (5 + (wr (2 * x3))))] s101 (asI fun r102 s102 =>
    (((r102 ≠ x2 : Prop) →
      wp m_Z_sightOf (2, [some (.inr (.inr (40, k0, i0))), some (.inl x1), some (.inl x2), some (.inl (wr (x3 + 1)))], [], s102) Q) ∧
    (¬ (r102 ≠ x2) →
      Q (some (.inl x3)) s102))))))) :
  wp m_Z_sightOf (2, [some (.inr (.inr (40, k0, i0))), some (.inl x1), some (.inl x2), some (.inl x3)], [], σ) Q :=
 w_iload_n (p' := 3) f_215_2 rfl rfl
 (w_aload_n (p' := 4) f_215_3 rfl rfl
 (w_iload_n (p' := 5) f_215_4 rfl rfl
 (w_iconst (p' := 6) f_215_5 rfl
 (w_callV (p' := 9) f_215_6 rfl rfl rfl rfl rfl (r := [.inl x3]) rfl rfl (kI (.inl rk_208) fun r101 s101 h101 =>
 w_icmp (p' := 34) (q' := 12) f_215_9 rfl rfl
 (fun c104 => w_iconst (p' := 35) f_215_34 rfl
 (w_iret f_215_35 rk_215 (h101.1 c104)))
 (fun c104 => w_aload_n (p' := 13) f_215_12 rfl rfl
 (w_iload_n (p' := 14) f_215_13 rfl rfl
 (w_iconst (p' := 15) f_215_14 rfl
 (w_iconst (p' := 16) f_215_15 rfl
 (w_iload_n (p' := 17) f_215_16 rfl rfl
 (w_imul (p' := 18) f_215_17 rfl
 (w_iadd (p' := 19) f_215_18 rfl
 (w_callV (p' := 22) f_215_19 rfl rfl rfl rfl rfl (r := []) rfl rfl (kI (.inl rk_208) fun r102 s102 h102 =>
 w_iload_n (p' := 23) f_215_22 rfl rfl
 (w_icmp (p' := 28) (q' := 26) f_215_23 rfl rfl
 (fun c103 => w_iinc (p' := 31) f_215_28 rfl (L' := [some (.inr (.inr (40, k0, i0))), some (.inl x1), some (.inl x2), some (.inl (wr (x3 + 1)))]) rfl rfl
 (w_goto (p' := 2) f_215_31 rfl
 ((h102.1 c103))))
 (fun c103 => w_iload_n (p' := 27) f_215_26 rfl rfl
 (w_iret f_215_27 rk_215 (h102.2 c103))))) (h101.2 c104)))))))))) h))))
/-! ClosedRoomsModel.touched(II)I -/
theorem f_216_0 : fnd 216 0 = some (0, .aload_n 0, 1, 0, 0, 0, 0) := ceB_eq (by decide +kernel)
theorem f_216_1 : fnd 216 1 = some (1, .iload_n 1, 1, 0, 0, 0, 0) := ceB_eq (by decide +kernel)
theorem f_216_2 : fnd 216 2 = some (2, .iload_n 2, 1, 0, 0, 0, 0) := ceB_eq (by decide +kernel)
theorem f_216_3 : fnd 216 3 = some (3, .invokevirtual 270, 3, 215, 3, 10, 0) := ceB_eq (by decide +kernel)
theorem f_216_6 : fnd 216 6 = some (6, .istore_n 3, 1, 0, 0, 0, 0) := ceB_eq (by decide +kernel)
theorem f_216_7 : fnd 216 7 = some (7, .iload_n 3, 1, 0, 0, 0, 0) := ceB_eq (by decide +kernel)
theorem f_216_8 : fnd 216 8 = some (8, .iconst (-1), 1, 0, 0, 0, 0) := ceB_eq (by decide +kernel)
theorem f_216_9 : fnd 216 9 = some (9, .if_icmp .ne 17, 3, 0, 0, 0, 0) := ceB_eq (by decide +kernel)
theorem f_216_12 : fnd 216 12 = some (12, .aload_n 0, 1, 0, 0, 0, 0) := ceB_eq (by decide +kernel)
theorem f_216_13 : fnd 216 13 = some (13, .aload_n 0, 1, 0, 0, 0, 0) := ceB_eq (by decide +kernel)
theorem f_216_14 : fnd 216 14 = some (14, .iload_n 1, 1, 0, 0, 0, 0) := ceB_eq (by decide +kernel)
theorem f_216_15 : fnd 216 15 = some (15, .iconst 1, 1, 0, 0, 0, 0) := ceB_eq (by decide +kernel)
theorem f_216_16 : fnd 216 16 = some (16, .invokevirtual 212, 3, 208, 3, 10, 0) := ceB_eq (by decide +kernel)
theorem f_216_19 : fnd 216 19 = some (19, .iload_n 2, 1, 0, 0, 0, 0) := ceB_eq (by decide +kernel)
theorem f_216_20 : fnd 216 20 = some (20, .invokevirtual 267, 3, 210, 3, 10, 0) := ceB_eq (by decide +kernel)
theorem f_216_23 : fnd 216 23 = some (23, .goto 15, 3, 0, 0, 0, 0) := ceB_eq (by decide +kernel)
theorem f_216_26 : fnd 216 26 = some (26, .aload_n 0, 1, 0, 0, 0, 0) := ceB_eq (by decide +kernel)
theorem f_216_27 : fnd 216 27 = some (27, .iload_n 1, 1, 0, 0, 0, 0) := ceB_eq (by decide +kernel)
theorem f_216_28 : fnd 216 28 = some (28, .iconst 5, 1, 0, 0, 0, 0) := ceB_eq (by decide +kernel)
theorem f_216_29 : fnd 216 29 = some (29, .iconst 2, 1, 0, 0, 0, 0) := ceB_eq (by decide +kernel)
theorem f_216_30 : fnd 216 30 = some (30, .iload_n 3, 1, 0, 0, 0, 0) := ceB_eq (by decide +kernel)
theorem f_216_31 : fnd 216 31 = some (31, .imul, 1, 0, 0, 0, 0) := ceB_eq (by decide +kernel)
theorem f_216_32 : fnd 216 32 = some (32, .iadd, 1, 0, 0, 0, 0) := ceB_eq (by decide +kernel)
theorem f_216_33 : fnd 216 33 = some (33, .iconst 1, 1, 0, 0, 0, 0) := ceB_eq (by decide +kernel)
theorem f_216_34 : fnd 216 34 = some (34, .iadd, 1, 0, 0, 0, 0) := ceB_eq (by decide +kernel)
theorem f_216_35 : fnd 216 35 = some (35, .invokevirtual 212, 3, 208, 3, 10, 0) := ceB_eq (by decide +kernel)
theorem f_216_38 : fnd 216 38 = some (38, .ireturn, 1, 0, 0, 0, 0) := ceB_eq (by decide +kernel)
theorem rk_216 : rkm 216 = 0 := by decide +kernel
theorem ml_216 : (mth 216).2.1 = 4 := by decide +kernel
set_option maxRecDepth 100000 in
theorem T_Z_touched (k0 i0 x1 x2 : Int) (σ : ST) (Q : Option AV → ST → Prop) (h :
  wpM m_Z_sightOf [.inr (.inr (40, k0, i0)), .inl x1, .inl x2] σ (asI fun r101 s101 =>
  (((r101 ≠ (-1) : Prop) →
    wpM m_Z_ofCore [.inr (.inr (40, k0, i0)), .inl x1, .inl (wr ((wr (5 + (wr (2 * r101)))) + 1))] s101 (asI fun r102 s102 =>
    Q (some (.inl r102)) s102)) ∧
  (¬ (r101 ≠ (-1)) →
    wpM m_Z_ofCore [.inr (.inr (40, k0, i0)), .inl x1, .inl 1] s101 (asI fun r103 s103 =>
    wpM m_Z_mapOf [.inr (.inr (40, k0, i0)), .inl r103, .inl x2] s103 (asI fun r104 s104 =>
    Q (some (.inl r104)) s104)))))) :
  wpM m_Z_touched [.inr (.inr (40, k0, i0)), .inl x1, .inl x2] σ Q :=
 wpM_of ml_216 (L := [some (.inr (.inr (40, k0, i0))), some (.inl x1), some (.inl x2), none]) rfl
 (w_aload_n (p' := 1) f_216_0 rfl rfl
 (w_iload_n (p' := 2) f_216_1 rfl rfl
 (w_iload_n (p' := 3) f_216_2 rfl rfl
 (w_callV (p' := 6) f_216_3 rfl rfl rfl rfl rfl (r := []) rfl rfl (kI (.inl rk_215) fun r101 s101 h101 =>
 w_istore_n (p' := 7) f_216_6 (L' := [some (.inr (.inr (40, k0, i0))), some (.inl x1), some (.inl x2), some (.inl r101)]) rfl rfl
 (w_iload_n (p' := 8) f_216_7 rfl rfl
 (w_iconst (p' := 9) f_216_8 rfl
 (w_icmp (p' := 26) (q' := 12) f_216_9 rfl rfl
 (fun c105 => w_aload_n (p' := 27) f_216_26 rfl rfl
 (w_iload_n (p' := 28) f_216_27 rfl rfl
 (w_iconst (p' := 29) f_216_28 rfl
 (w_iconst (p' := 30) f_216_29 rfl
 (w_iload_n (p' := 31) f_216_30 rfl rfl
 (w_imul (p' := 32) f_216_31 rfl
 (w_iadd (p' := 33) f_216_32 rfl
 (w_iconst (p' := 34) f_216_33 rfl
 (w_iadd (p' := 35) f_216_34 rfl
 (w_callV (p' := 38) f_216_35 rfl rfl rfl rfl rfl (r := []) rfl rfl (kI (.inl rk_208) fun r102 s102 h102 =>
 w_iret f_216_38 rk_216 h102) (h101.1 c105)))))))))))
 (fun c105 => w_aload_n (p' := 13) f_216_12 rfl rfl
 (w_aload_n (p' := 14) f_216_13 rfl rfl
 (w_iload_n (p' := 15) f_216_14 rfl rfl
 (w_iconst (p' := 16) f_216_15 rfl
 (w_callV (p' := 19) f_216_16 rfl rfl rfl rfl rfl (r := [.inr (.inr (40, k0, i0))]) rfl rfl (kI (.inl rk_208) fun r103 s103 h103 =>
 w_iload_n (p' := 20) f_216_19 rfl rfl
 (w_callV (p' := 23) f_216_20 rfl rfl rfl rfl rfl (r := []) rfl rfl (kI (.inl rk_210) fun r104 s104 h104 =>
 w_goto (p' := 38) f_216_23 rfl
 (w_iret f_216_38 rk_216 h104)) h103)) (h101.2 c105)))))))))) h))))
/-! ClosedRoomsModel.whyTouch(III)I -/
theorem f_217_0 : fnd 217 0 = some (0, .aload_n 0, 1, 0, 0, 0, 0) := ceB_eq (by decide +kernel)
theorem f_217_1 : fnd 217 1 = some (1, .iload_n 1, 1, 0, 0, 0, 0) := ceB_eq (by decide +kernel)
theorem f_217_2 : fnd 217 2 = some (2, .invokevirtual 261, 3, 207, 2, 10, 0) := ceB_eq (by decide +kernel)
theorem f_217_5 : fnd 217 5 = some (5, .ifCond .ne 5, 3, 0, 0, 0, 0) := ceB_eq (by decide +kernel)
theorem f_217_8 : fnd 217 8 = some (8, .iconst 0, 1, 0, 0, 0, 0) := ceB_eq (by decide +kernel)
theorem f_217_9 : fnd 217 9 = some (9, .ireturn, 1, 0, 0, 0, 0) := ceB_eq (by decide +kernel)
theorem f_217_10 : fnd 217 10 = some (10, .iload_n 2, 1, 0, 0, 0, 0) := ceB_eq (by decide +kernel)
theorem f_217_11 : fnd 217 11 = some (11, .iconst 0, 1, 0, 0, 0, 0) := ceB_eq (by decide +kernel)
theorem f_217_12 : fnd 217 12 = some (12, .bipush 7, 2, 0, 0, 0, 0) := ceB_eq (by decide +kernel)
theorem f_217_14 : fnd 217 14 = some (14, .invokestatic 54, 3, 168, 3, 10, 0) := ceB_eq (by decide +kernel)
theorem f_217_17 : fnd 217 17 = some (17, .ifCond .eq 12, 3, 0, 0, 0, 0) := ceB_eq (by decide +kernel)
theorem f_217_20 : fnd 217 20 = some (20, .iload_n 3, 1, 0, 0, 0, 0) := ceB_eq (by decide +kernel)
theorem f_217_21 : fnd 217 21 = some (21, .iconst 0, 1, 0, 0, 0, 0) := ceB_eq (by decide +kernel)
theorem f_217_22 : fnd 217 22 = some (22, .iconst 2, 1, 0, 0, 0, 0) := ceB_eq (by decide +kernel)
theorem f_217_23 : fnd 217 23 = some (23, .invokestatic 54, 3, 168, 3, 10, 0) := ceB_eq (by decide +kernel)
theorem f_217_26 : fnd 217 26 = some (26, .ifCond .ne 5, 3, 0, 0, 0, 0) := ceB_eq (by decide +kernel)
theorem f_217_29 : fnd 217 29 = some (29, .iconst 1, 1, 0, 0, 0, 0) := ceB_eq (by decide +kernel)
theorem f_217_30 : fnd 217 30 = some (30, .ireturn, 1, 0, 0, 0, 0) := ceB_eq (by decide +kernel)
theorem f_217_31 : fnd 217 31 = some (31, .aload_n 0, 1, 0, 0, 0, 0) := ceB_eq (by decide +kernel)
theorem f_217_32 : fnd 217 32 = some (32, .iload_n 1, 1, 0, 0, 0, 0) := ceB_eq (by decide +kernel)
theorem f_217_33 : fnd 217 33 = some (33, .invokevirtual 264, 3, 209, 2, 10, 0) := ceB_eq (by decide +kernel)
theorem f_217_36 : fnd 217 36 = some (36, .ifCond .eq 17, 3, 0, 0, 0, 0) := ceB_eq (by decide +kernel)
theorem f_217_39 : fnd 217 39 = some (39, .aload_n 0, 1, 0, 0, 0, 0) := ceB_eq (by decide +kernel)
theorem f_217_40 : fnd 217 40 = some (40, .aload_n 0, 1, 0, 0, 0, 0) := ceB_eq (by decide +kernel)
theorem f_217_41 : fnd 217 41 = some (41, .iload_n 1, 1, 0, 0, 0, 0) := ceB_eq (by decide +kernel)
theorem f_217_42 : fnd 217 42 = some (42, .iconst 1, 1, 0, 0, 0, 0) := ceB_eq (by decide +kernel)
theorem f_217_43 : fnd 217 43 = some (43, .invokevirtual 212, 3, 208, 3, 10, 0) := ceB_eq (by decide +kernel)
theorem f_217_46 : fnd 217 46 = some (46, .iload_n 2, 1, 0, 0, 0, 0) := ceB_eq (by decide +kernel)
theorem f_217_47 : fnd 217 47 = some (47, .invokevirtual 255, 3, 202, 3, 10, 0) := ceB_eq (by decide +kernel)
theorem f_217_50 : fnd 217 50 = some (50, .ifCond .ne 5, 3, 0, 0, 0, 0) := ceB_eq (by decide +kernel)
theorem f_217_53 : fnd 217 53 = some (53, .iconst 2, 1, 0, 0, 0, 0) := ceB_eq (by decide +kernel)
theorem f_217_54 : fnd 217 54 = some (54, .ireturn, 1, 0, 0, 0, 0) := ceB_eq (by decide +kernel)
theorem f_217_55 : fnd 217 55 = some (55, .aload_n 0, 1, 0, 0, 0, 0) := ceB_eq (by decide +kernel)
theorem f_217_56 : fnd 217 56 = some (56, .iload_n 1, 1, 0, 0, 0, 0) := ceB_eq (by decide +kernel)
theorem f_217_57 : fnd 217 57 = some (57, .iload_n 2, 1, 0, 0, 0, 0) := ceB_eq (by decide +kernel)
theorem f_217_58 : fnd 217 58 = some (58, .invokevirtual 273, 3, 216, 3, 10, 0) := ceB_eq (by decide +kernel)
theorem f_217_61 : fnd 217 61 = some (61, .istore 4, 2, 0, 0, 0, 0) := ceB_eq (by decide +kernel)
theorem f_217_63 : fnd 217 63 = some (63, .aload_n 0, 1, 0, 0, 0, 0) := ceB_eq (by decide +kernel)
theorem f_217_64 : fnd 217 64 = some (64, .iload_n 1, 1, 0, 0, 0, 0) := ceB_eq (by decide +kernel)
theorem f_217_65 : fnd 217 65 = some (65, .iload_n 2, 1, 0, 0, 0, 0) := ceB_eq (by decide +kernel)
theorem f_217_66 : fnd 217 66 = some (66, .invokevirtual 270, 3, 215, 3, 10, 0) := ceB_eq (by decide +kernel)
theorem f_217_69 : fnd 217 69 = some (69, .iconst (-1), 1, 0, 0, 0, 0) := ceB_eq (by decide +kernel)
theorem f_217_70 : fnd 217 70 = some (70, .if_icmp .ne 41, 3, 0, 0, 0, 0) := ceB_eq (by decide +kernel)
theorem f_217_73 : fnd 217 73 = some (73, .aload_n 0, 1, 0, 0, 0, 0) := ceB_eq (by decide +kernel)
theorem f_217_74 : fnd 217 74 = some (74, .iload 4, 2, 0, 0, 0, 0) := ceB_eq (by decide +kernel)
theorem f_217_76 : fnd 217 76 = some (76, .aload_n 0, 1, 0, 0, 0, 0) := ceB_eq (by decide +kernel)
theorem f_217_77 : fnd 217 77 = some (77, .iload_n 1, 1, 0, 0, 0, 0) := ceB_eq (by decide +kernel)
theorem f_217_78 : fnd 217 78 = some (78, .iconst 1, 1, 0, 0, 0, 0) := ceB_eq (by decide +kernel)
theorem f_217_79 : fnd 217 79 = some (79, .invokevirtual 212, 3, 208, 3, 10, 0) := ceB_eq (by decide +kernel)
theorem f_217_82 : fnd 217 82 = some (82, .iload_n 2, 1, 0, 0, 0, 0) := ceB_eq (by decide +kernel)
theorem f_217_83 : fnd 217 83 = some (83, .invokevirtual 243, 3, 212, 4, 10, 0) := ceB_eq (by decide +kernel)
theorem f_217_86 : fnd 217 86 = some (86, .ifCond .eq 29, 3, 0, 0, 0, 0) := ceB_eq (by decide +kernel)
theorem f_217_89 : fnd 217 89 = some (89, .aload_n 0, 1, 0, 0, 0, 0) := ceB_eq (by decide +kernel)
theorem f_217_90 : fnd 217 90 = some (90, .iload 4, 2, 0, 0, 0, 0) := ceB_eq (by decide +kernel)
theorem f_217_92 : fnd 217 92 = some (92, .iconst 5, 1, 0, 0, 0, 0) := ceB_eq (by decide +kernel)
theorem f_217_93 : fnd 217 93 = some (93, .invokevirtual 206, 3, 196, 3, 10, 0) := ceB_eq (by decide +kernel)
theorem f_217_96 : fnd 217 96 = some (96, .iconst (-1), 1, 0, 0, 0, 0) := ceB_eq (by decide +kernel)
theorem f_217_97 : fnd 217 97 = some (97, .if_icmp .ne 18, 3, 0, 0, 0, 0) := ceB_eq (by decide +kernel)
theorem f_217_100 : fnd 217 100 = some (100, .aload_n 0, 1, 0, 0, 0, 0) := ceB_eq (by decide +kernel)
theorem f_217_101 : fnd 217 101 = some (101, .iload 4, 2, 0, 0, 0, 0) := ceB_eq (by decide +kernel)
theorem f_217_103 : fnd 217 103 = some (103, .iconst 0, 1, 0, 0, 0, 0) := ceB_eq (by decide +kernel)
theorem f_217_104 : fnd 217 104 = some (104, .invokevirtual 206, 3, 196, 3, 10, 0) := ceB_eq (by decide +kernel)
theorem f_217_107 : fnd 217 107 = some (107, .iconst 2, 1, 0, 0, 0, 0) := ceB_eq (by decide +kernel)
theorem f_217_108 : fnd 217 108 = some (108, .if_icmp .ne 7, 3, 0, 0, 0, 0) := ceB_eq (by decide +kernel)
theorem f_217_111 : fnd 217 111 = some (111, .iconst 1, 1, 0, 0, 0, 0) := ceB_eq (by decide +kernel)
theorem f_217_112 : fnd 217 112 = some (112, .goto 4, 3, 0, 0, 0, 0) := ceB_eq (by decide +kernel)
theorem f_217_115 : fnd 217 115 = some (115, .iconst 0, 1, 0, 0, 0, 0) := ceB_eq (by decide +kernel)
theorem f_217_116 : fnd 217 116 = some (116, .istore 5, 2, 0, 0, 0, 0) := ceB_eq (by decide +kernel)
theorem f_217_118 : fnd 217 118 = some (118, .iload 5, 2, 0, 0, 0, 0) := ceB_eq (by decide +kernel)
theorem f_217_120 : fnd 217 120 = some (120, .ifCond .eq 21, 3, 0, 0, 0, 0) := ceB_eq (by decide +kernel)
theorem f_217_123 : fnd 217 123 = some (123, .aload_n 0, 1, 0, 0, 0, 0) := ceB_eq (by decide +kernel)
theorem f_217_124 : fnd 217 124 = some (124, .iload 4, 2, 0, 0, 0, 0) := ceB_eq (by decide +kernel)
theorem f_217_126 : fnd 217 126 = some (126, .iconst 3, 1, 0, 0, 0, 0) := ceB_eq (by decide +kernel)
theorem f_217_127 : fnd 217 127 = some (127, .invokevirtual 206, 3, 196, 3, 10, 0) := ceB_eq (by decide +kernel)
theorem f_217_130 : fnd 217 130 = some (130, .iload_n 3, 1, 0, 0, 0, 0) := ceB_eq (by decide +kernel)
theorem f_217_131 : fnd 217 131 = some (131, .invokestatic 173, 3, 180, 2, 10, 0) := ceB_eq (by decide +kernel)
theorem f_217_134 : fnd 217 134 = some (134, .ifCond .eq 7, 3, 0, 0, 0, 0) := ceB_eq (by decide +kernel)
theorem f_217_137 : fnd 217 137 = some (137, .iconst (-1), 1, 0, 0, 0, 0) := ceB_eq (by decide +kernel)
theorem f_217_138 : fnd 217 138 = some (138, .goto 4, 3, 0, 0, 0, 0) := ceB_eq (by decide +kernel)
theorem f_217_141 : fnd 217 141 = some (141, .iconst 4, 1, 0, 0, 0, 0) := ceB_eq (by decide +kernel)
theorem f_217_142 : fnd 217 142 = some (142, .ireturn, 1, 0, 0, 0, 0) := ceB_eq (by decide +kernel)
theorem rk_217 : rkm 217 = 0 := by decide +kernel
theorem ml_217 : (mth 217).2.1 = 6 := by decide +kernel
set_option maxRecDepth 100000 in
theorem T_Z_whyTouch (k0 i0 x1 x2 x3 : Int) (σ : ST) (Q : Option AV → ST → Prop) (h :
  wpM m_Z_isCore [.inr (.inr (40, k0, i0)), .inl x1] σ (asI fun r101 s101 =>
  (((r101 ≠ 0 : Prop) →
    wpM m_Z_in [.inl x2, .inl 0, .inl 7] s101 (asI fun r102 s102 =>
    (((r102 = 0 : Prop) →
      Q (some (.inl 1)) s102) ∧
    (¬ (r102 = 0) →
      wpM m_Z_in [.inl x3, .inl 0, .inl 2] s102 (asI fun r103 s103 =>
      (((r103 ≠ 0 : Prop) →
        wpM m_Z_isInside [.inr (.inr (40, k0, i0)), .inl x1] s103 (asI fun r104 s104 =>
        (((r104 = 0 : Prop) →
          Q (some (.inl 2)) s104) ∧
        (¬ (r104 = 0) →
          wpM m_Z_ofCore [.inr (.inr (40, k0, i0)), .inl x1, .inl 1] s104 (asI fun r105 s105 =>
          wpM m_Z_isAddress [.inr (.inr (40, k0, i0)), .inl r105, .inl x2] s105 (asI fun r106 s106 =>
          (((r106 ≠ 0 : Prop) →
            wpM m_Z_touched [.inr (.inr (40, k0, i0)), .inl x1, .inl x2] s106 (asI fun r107 s107 =>
            wpM m_Z_sightOf [.inr (.inr (40, k0, i0)), .inl x1, .inl x2] s107 (asI fun r108 s108 =>
            (((r108 ≠ (-1) : Prop) →
              wp m_Z_whyTouch (116, [some (.inr (.inr (40, k0, i0))), some (.inl x1), some (.inl x2), some (.inl x3), some (.inl r107), none], [.inl 1], s108) Q) ∧
            (¬ (r108 ≠ (-1)) →
              wpM m_Z_ofCore [.inr (.inr (40, k0, i0)), .inl x1, .inl 1] s108 (asI fun r109 s109 =>
              wpM m_Z_isPageOf [.inr (.inr (40, k0, i0)), .inl r107, .inl r109, .inl x2] s109 (asI fun r110 s110 =>
              (((r110 = 0 : Prop) →
                wp m_Z_whyTouch (116, [some (.inr (.inr (40, k0, i0))), some (.inl x1), some (.inl x2), some (.inl x3), some (.inl r107), none], [.inl 0], s110) Q) ∧
              (¬ (r110 = 0) →
                wpM m_Z_ofPage [.inr (.inr (40, k0, i0)), .inl r107, .inl 5] s110 (asI fun r111 s111 =>
                (((r111 ≠ (-1) : Prop) →
                  wp m_Z_whyTouch (116, [some (.inr (.inr (40, k0, i0))), some (.inl x1), some (.inl x2), some (.inl x3), some (.inl r107), none], [.inl 0], s111) Q) ∧
                (¬ (r111 ≠ (-1)) →
                  wpM m_Z_ofPage [.inr (.inr (40, k0, i0)), .inl r107, .inl 0] s111 (asI fun r112 s112 =>
                  (((r112 ≠ 2 : Prop) →
                    wp m_Z_whyTouch (116, [some (.inr (.inr (40, k0, i0))), some (.inl x1), some (.inl x2), some (.inl x3), some (.inl r107), none], [.inl 0], s112) Q) ∧
                  (¬ (r112 ≠ 2) →
                    wp m_Z_whyTouch (116, [some (.inr (.inr (40, k0, i0))), some (.inl x1), some (.inl x2), some (.inl x3), some (.inl r107), none], [.inl 1], s112) Q))))))))))))))) ∧
          (¬ (r106 ≠ 0) →
            Q (some (.inl 2)) s106)))))))) ∧
      (¬ (r103 ≠ 0) →
        Q (some (.inl 1)) s103))))))) ∧
  (¬ (r101 ≠ 0) →
    Q (some (.inl 0)) s101)))) :
  wpM m_Z_whyTouch [.inr (.inr (40, k0, i0)), .inl x1, .inl x2, .inl x3] σ Q :=
 wpM_of ml_217 (L := [some (.inr (.inr (40, k0, i0))), some (.inl x1), some (.inl x2), some (.inl x3), none, none]) rfl
 (w_aload_n (p' := 1) f_217_0 rfl rfl
 (w_iload_n (p' := 2) f_217_1 rfl rfl
 (w_callV (p' := 5) f_217_2 rfl rfl rfl rfl rfl (r := []) rfl rfl (kI (.inr rk_207) fun r101 s101 h101 =>
 w_if (p' := 10) (q' := 8) f_217_5 rfl rfl
 (fun c121 => w_iload_n (p' := 11) f_217_10 rfl rfl
 (w_iconst (p' := 12) f_217_11 rfl
 (w_bipush (p' := 14) f_217_12 rfl
 (w_callS (p' := 17) f_217_14 rfl rfl rfl (r := []) rfl rfl (kI (.inr rk_168) fun r102 s102 h102 =>
 w_if (p' := 29) (q' := 20) f_217_17 rfl rfl
 (fun c120 => w_iconst (p' := 30) f_217_29 rfl
 (w_iret f_217_30 rk_217 (h102.1 c120)))
 (fun c120 => w_iload_n (p' := 21) f_217_20 rfl rfl
 (w_iconst (p' := 22) f_217_21 rfl
 (w_iconst (p' := 23) f_217_22 rfl
 (w_callS (p' := 26) f_217_23 rfl rfl rfl (r := []) rfl rfl (kI (.inr rk_168) fun r103 s103 h103 =>
 w_if (p' := 31) (q' := 29) f_217_26 rfl rfl
 (fun c119 => w_aload_n (p' := 32) f_217_31 rfl rfl
 (w_iload_n (p' := 33) f_217_32 rfl rfl
 (w_callV (p' := 36) f_217_33 rfl rfl rfl rfl rfl (r := []) rfl rfl (kI (.inr rk_209) fun r104 s104 h104 =>
 w_if (p' := 53) (q' := 39) f_217_36 rfl rfl
 (fun c118 => w_iconst (p' := 54) f_217_53 rfl
 (w_iret f_217_54 rk_217 (h104.1 c118)))
 (fun c118 => w_aload_n (p' := 40) f_217_39 rfl rfl
 (w_aload_n (p' := 41) f_217_40 rfl rfl
 (w_iload_n (p' := 42) f_217_41 rfl rfl
 (w_iconst (p' := 43) f_217_42 rfl
 (w_callV (p' := 46) f_217_43 rfl rfl rfl rfl rfl (r := [.inr (.inr (40, k0, i0))]) rfl rfl (kI (.inl rk_208) fun r105 s105 h105 =>
 w_iload_n (p' := 47) f_217_46 rfl rfl
 (w_callV (p' := 50) f_217_47 rfl rfl rfl rfl rfl (r := []) rfl rfl (kI (.inr rk_202) fun r106 s106 h106 =>
 w_if (p' := 55) (q' := 53) f_217_50 rfl rfl
 (fun c117 => w_aload_n (p' := 56) f_217_55 rfl rfl
 (w_iload_n (p' := 57) f_217_56 rfl rfl
 (w_iload_n (p' := 58) f_217_57 rfl rfl
 (w_callV (p' := 61) f_217_58 rfl rfl rfl rfl rfl (r := []) rfl rfl (kI (.inl rk_216) fun r107 s107 h107 =>
 w_istore (p' := 63) f_217_61 (L' := [some (.inr (.inr (40, k0, i0))), some (.inl x1), some (.inl x2), some (.inl x3), some (.inl r107), none]) rfl rfl
 (w_aload_n (p' := 64) f_217_63 rfl rfl
 (w_iload_n (p' := 65) f_217_64 rfl rfl
 (w_iload_n (p' := 66) f_217_65 rfl rfl
 (w_callV (p' := 69) f_217_66 rfl rfl rfl rfl rfl (r := []) rfl rfl (kI (.inl rk_215) fun r108 s108 h108 =>
 w_iconst (p' := 70) f_217_69 rfl
 (w_icmp (p' := 111) (q' := 73) f_217_70 rfl rfl
 (fun c116 => w_iconst (p' := 112) f_217_111 rfl
 (w_goto (p' := 116) f_217_112 rfl
 ((h108.1 c116))))
 (fun c116 => w_aload_n (p' := 74) f_217_73 rfl rfl
 (w_iload (p' := 76) f_217_74 rfl rfl
 (w_aload_n (p' := 77) f_217_76 rfl rfl
 (w_iload_n (p' := 78) f_217_77 rfl rfl
 (w_iconst (p' := 79) f_217_78 rfl
 (w_callV (p' := 82) f_217_79 rfl rfl rfl rfl rfl (r := [.inl r107, .inr (.inr (40, k0, i0))]) rfl rfl (kI (.inl rk_208) fun r109 s109 h109 =>
 w_iload_n (p' := 83) f_217_82 rfl rfl
 (w_callV (p' := 86) f_217_83 rfl rfl rfl rfl rfl (r := []) rfl rfl (kI (.inr rk_212) fun r110 s110 h110 =>
 w_if (p' := 115) (q' := 89) f_217_86 rfl rfl
 (fun c115 => w_iconst (p' := 116) f_217_115 rfl
 ((h110.1 c115)))
 (fun c115 => w_aload_n (p' := 90) f_217_89 rfl rfl
 (w_iload (p' := 92) f_217_90 rfl rfl
 (w_iconst (p' := 93) f_217_92 rfl
 (w_callV (p' := 96) f_217_93 rfl rfl rfl rfl rfl (r := []) rfl rfl (kI (.inl rk_196) fun r111 s111 h111 =>
 w_iconst (p' := 97) f_217_96 rfl
 (w_icmp (p' := 115) (q' := 100) f_217_97 rfl rfl
 (fun c114 => w_iconst (p' := 116) f_217_115 rfl
 ((h111.1 c114)))
 (fun c114 => w_aload_n (p' := 101) f_217_100 rfl rfl
 (w_iload (p' := 103) f_217_101 rfl rfl
 (w_iconst (p' := 104) f_217_103 rfl
 (w_callV (p' := 107) f_217_104 rfl rfl rfl rfl rfl (r := []) rfl rfl (kI (.inl rk_196) fun r112 s112 h112 =>
 w_iconst (p' := 108) f_217_107 rfl
 (w_icmp (p' := 115) (q' := 111) f_217_108 rfl rfl
 (fun c113 => w_iconst (p' := 116) f_217_115 rfl
 ((h112.1 c113)))
 (fun c113 => w_iconst (p' := 112) f_217_111 rfl
 (w_goto (p' := 116) f_217_112 rfl
 ((h112.2 c113)))))) (h111.2 c114))))))) (h110.2 c115)))))) h109)) (h108.2 c116))))))))) h107))))) (h106.1 c117)))))
 (fun c117 => w_iconst (p' := 54) f_217_53 rfl
 (w_iret f_217_54 rk_217 (h106.2 c117)))) h105)) (h104.2 c118))))))) (h103.1 c119))))
 (fun c119 => w_iconst (p' := 30) f_217_29 rfl
 (w_iret f_217_30 rk_217 (h103.2 c119)))) (h102.2 c120)))))) (h101.1 c121)))))
 (fun c121 => w_iconst (p' := 9) f_217_8 rfl
 (w_iret f_217_9 rk_217 (h101.2 c121)))) h)))
set_option maxRecDepth 100000 in
theorem T_Z_whyTouch_116 (k0 i0 x3 x4 t0 : Int) (o1 o2 o5 : Option AV) (σ : ST) (Q : Option AV → ST → Prop) (h :
  (((t0 = 0 : Prop) →
    Q (some (.inl 4)) σ) ∧
  (¬ (t0 = 0) →
    wpM m_Z_ofPage [.inr (.inr (40, k0, i0)), .inl x4, .inl 3] σ (asI fun r101 s101 =>
    wpM m_Z_has [.inl r101, .inl x3] s101 (asI fun r102 s102 =>
    (((r102 = 0 : Prop) →
      Q (some (.inl 4)) s102) ∧
    (¬ (r102 = 0) →
      Q (some (.inl (-1))) s102))))))) :
  wp m_Z_whyTouch (116, [some (.inr (.inr (40, k0, i0))), o1, o2, some (.inl x3), some (.inl x4), o5], [.inl t0], σ) Q :=
 w_istore (p' := 118) f_217_116 (L' := [some (.inr (.inr (40, k0, i0))), o1, o2, some (.inl x3), some (.inl x4), some (.inl t0)]) rfl rfl
 (w_iload (p' := 120) f_217_118 rfl rfl
 (w_if (p' := 141) (q' := 123) f_217_120 rfl rfl
 (fun c104 => w_iconst (p' := 142) f_217_141 rfl
 (w_iret f_217_142 rk_217 (h.1 c104)))
 (fun c104 => w_aload_n (p' := 124) f_217_123 rfl rfl
 (w_iload (p' := 126) f_217_124 rfl rfl
 (w_iconst (p' := 127) f_217_126 rfl
 (w_callV (p' := 130) f_217_127 rfl rfl rfl rfl rfl (r := []) rfl rfl (kI (.inl rk_196) fun r101 s101 h101 =>
 w_iload_n (p' := 131) f_217_130 rfl rfl
 (w_callS (p' := 134) f_217_131 rfl rfl rfl (r := []) rfl rfl (kI (.inr rk_180) fun r102 s102 h102 =>
 w_if (p' := 141) (q' := 137) f_217_134 rfl rfl
 (fun c103 => w_iconst (p' := 142) f_217_141 rfl
 (w_iret f_217_142 rk_217 (h102.1 c103)))
 (fun c103 => w_iconst (p' := 138) f_217_137 rfl
 (w_goto (p' := 142) f_217_138 rfl
 (w_iret f_217_142 rk_217 (h102.2 c103))))) h101)) (h.2 c104)))))))
/-! ClosedRoomsModel.isUsed(I)Z -/
theorem f_218_0 : fnd 218 0 = some (0, .aload_n 0, 1, 0, 0, 0, 0) := ceB_eq (by decide +kernel)
theorem f_218_1 : fnd 218 1 = some (1, .iload_n 1, 1, 0, 0, 0, 0) := ceB_eq (by decide +kernel)
theorem f_218_2 : fnd 218 2 = some (2, .invokevirtual 203, 3, 211, 2, 10, 0) := ceB_eq (by decide +kernel)
theorem f_218_5 : fnd 218 5 = some (5, .ifCond .eq 16, 3, 0, 0, 0, 0) := ceB_eq (by decide +kernel)
theorem f_218_8 : fnd 218 8 = some (8, .aload_n 0, 1, 0, 0, 0, 0) := ceB_eq (by decide +kernel)
theorem f_218_9 : fnd 218 9 = some (9, .iload_n 1, 1, 0, 0, 0, 0) := ceB_eq (by decide +kernel)
theorem f_218_10 : fnd 218 10 = some (10, .iconst 0, 1, 0, 0, 0, 0) := ceB_eq (by decide +kernel)
theorem f_218_11 : fnd 218 11 = some (11, .invokevirtual 206, 3, 196, 3, 10, 0) := ceB_eq (by decide +kernel)
theorem f_218_14 : fnd 218 14 = some (14, .ifCond .eq 7, 3, 0, 0, 0, 0) := ceB_eq (by decide +kernel)
theorem f_218_17 : fnd 218 17 = some (17, .iconst 1, 1, 0, 0, 0, 0) := ceB_eq (by decide +kernel)
theorem f_218_18 : fnd 218 18 = some (18, .goto 4, 3, 0, 0, 0, 0) := ceB_eq (by decide +kernel)
theorem f_218_21 : fnd 218 21 = some (21, .iconst 0, 1, 0, 0, 0, 0) := ceB_eq (by decide +kernel)
theorem f_218_22 : fnd 218 22 = some (22, .ireturn, 1, 0, 0, 0, 0) := ceB_eq (by decide +kernel)
theorem rk_218 : rkm 218 = 1 := by decide +kernel
theorem ml_218 : (mth 218).2.1 = 2 := by decide +kernel
set_option maxRecDepth 100000 in
theorem T_Z_isUsed (k0 i0 x1 : Int) (σ : ST) (Q : Option AV → ST → Prop) (h :
  wpM m_Z_isPage [.inr (.inr (40, k0, i0)), .inl x1] σ (asI fun r101 s101 =>
  (((r101 = 0 : Prop) →
    ((0 : Int) = 0 ∨ (0 : Int) = 1) ∧ Q (some (.inl 0)) s101) ∧
  (¬ (r101 = 0) →
    wpM m_Z_ofPage [.inr (.inr (40, k0, i0)), .inl x1, .inl 0] s101 (asI fun r102 s102 =>
    (((r102 = 0 : Prop) →
      ((0 : Int) = 0 ∨ (0 : Int) = 1) ∧ Q (some (.inl 0)) s102) ∧
    (¬ (r102 = 0) →
      ((1 : Int) = 0 ∨ (1 : Int) = 1) ∧ Q (some (.inl 1)) s102))))))) :
  wpM m_Z_isUsed [.inr (.inr (40, k0, i0)), .inl x1] σ Q :=
 wpM_of ml_218 (L := [some (.inr (.inr (40, k0, i0))), some (.inl x1)]) rfl
 (w_aload_n (p' := 1) f_218_0 rfl rfl
 (w_iload_n (p' := 2) f_218_1 rfl rfl
 (w_callV (p' := 5) f_218_2 rfl rfl rfl rfl rfl (r := []) rfl rfl (kI (.inr rk_211) fun r101 s101 h101 =>
 w_if (p' := 21) (q' := 8) f_218_5 rfl rfl
 (fun c104 => w_iconst (p' := 22) f_218_21 rfl
 (w_zret f_218_22 rk_218 (h101.1 c104).1 (h101.1 c104).2))
 (fun c104 => w_aload_n (p' := 9) f_218_8 rfl rfl
 (w_iload_n (p' := 10) f_218_9 rfl rfl
 (w_iconst (p' := 11) f_218_10 rfl
 (w_callV (p' := 14) f_218_11 rfl rfl rfl rfl rfl (r := []) rfl rfl (kI (.inl rk_196) fun r102 s102 h102 =>
 w_if (p' := 21) (q' := 17) f_218_14 rfl rfl
 (fun c103 => w_iconst (p' := 22) f_218_21 rfl
 (w_zret f_218_22 rk_218 (h102.1 c103).1 (h102.1 c103).2))
 (fun c103 => w_iconst (p' := 18) f_218_17 rfl
 (w_goto (p' := 22) f_218_18 rfl
 (w_zret f_218_22 rk_218 (h102.2 c103).1 (h102.2 c103).2)))) (h101.2 c104)))))) h)))
/-! ClosedRoomsModel.isMoving(I)Z -/
theorem f_219_0 : fnd 219 0 = some (0, .aload_n 0, 1, 0, 0, 0, 0) := ceB_eq (by decide +kernel)
theorem f_219_1 : fnd 219 1 = some (1, .iload_n 1, 1, 0, 0, 0, 0) := ceB_eq (by decide +kernel)
theorem f_219_2 : fnd 219 2 = some (2, .iconst 0, 1, 0, 0, 0, 0) := ceB_eq (by decide +kernel)
theorem f_219_3 : fnd 219 3 = some (3, .invokevirtual 206, 3, 196, 3, 10, 0) := ceB_eq (by decide +kernel)
theorem f_219_6 : fnd 219 6 = some (6, .iconst 2, 1, 0, 0, 0, 0) := ceB_eq (by decide +kernel)
theorem f_219_7 : fnd 219 7 = some (7, .if_icmp .eq 13, 3, 0, 0, 0, 0) := ceB_eq (by decide +kernel)
theorem f_219_10 : fnd 219 10 = some (10, .aload_n 0, 1, 0, 0, 0, 0) := ceB_eq (by decide +kernel)
theorem f_219_11 : fnd 219 11 = some (11, .iload_n 1, 1, 0, 0, 0, 0) := ceB_eq (by decide +kernel)
theorem f_219_12 : fnd 219 12 = some (12, .iconst 0, 1, 0, 0, 0, 0) := ceB_eq (by decide +kernel)
theorem f_219_13 : fnd 219 13 = some (13, .invokevirtual 206, 3, 196, 3, 10, 0) := ceB_eq (by decide +kernel)
theorem f_219_16 : fnd 219 16 = some (16, .iconst 3, 1, 0, 0, 0, 0) := ceB_eq (by decide +kernel)
theorem f_219_17 : fnd 219 17 = some (17, .if_icmp .ne 7, 3, 0, 0, 0, 0) := ceB_eq (by decide +kernel)
theorem f_219_20 : fnd 219 20 = some (20, .iconst 1, 1, 0, 0, 0, 0) := ceB_eq (by decide +kernel)
theorem f_219_21 : fnd 219 21 = some (21, .goto 4, 3, 0, 0, 0, 0) := ceB_eq (by decide +kernel)
theorem f_219_24 : fnd 219 24 = some (24, .iconst 0, 1, 0, 0, 0, 0) := ceB_eq (by decide +kernel)
theorem f_219_25 : fnd 219 25 = some (25, .ireturn, 1, 0, 0, 0, 0) := ceB_eq (by decide +kernel)
theorem rk_219 : rkm 219 = 1 := by decide +kernel
theorem ml_219 : (mth 219).2.1 = 2 := by decide +kernel
set_option maxRecDepth 100000 in
theorem T_Z_isMoving (k0 i0 x1 : Int) (σ : ST) (Q : Option AV → ST → Prop) (h :
  wpM m_Z_ofPage [.inr (.inr (40, k0, i0)), .inl x1, .inl 0] σ (asI fun r101 s101 =>
  (((r101 = 2 : Prop) →
    ((1 : Int) = 0 ∨ (1 : Int) = 1) ∧ Q (some (.inl 1)) s101) ∧
  (¬ (r101 = 2) →
    wpM m_Z_ofPage [.inr (.inr (40, k0, i0)), .inl x1, .inl 0] s101 (asI fun r102 s102 =>
    (((r102 ≠ 3 : Prop) →
      ((0 : Int) = 0 ∨ (0 : Int) = 1) ∧ Q (some (.inl 0)) s102) ∧
    (¬ (r102 ≠ 3) →
      ((1 : Int) = 0 ∨ (1 : Int) = 1) ∧ Q (some (.inl 1)) s102))))))) :
  wpM m_Z_isMoving [.inr (.inr (40, k0, i0)), .inl x1] σ Q :=
 wpM_of ml_219 (L := [some (.inr (.inr (40, k0, i0))), some (.inl x1)]) rfl
 (w_aload_n (p' := 1) f_219_0 rfl rfl
 (w_iload_n (p' := 2) f_219_1 rfl rfl
 (w_iconst (p' := 3) f_219_2 rfl
 (w_callV (p' := 6) f_219_3 rfl rfl rfl rfl rfl (r := []) rfl rfl (kI (.inl rk_196) fun r101 s101 h101 =>
 w_iconst (p' := 7) f_219_6 rfl
 (w_icmp (p' := 20) (q' := 10) f_219_7 rfl rfl
 (fun c104 => w_iconst (p' := 21) f_219_20 rfl
 (w_goto (p' := 25) f_219_21 rfl
 (w_zret f_219_25 rk_219 (h101.1 c104).1 (h101.1 c104).2)))
 (fun c104 => w_aload_n (p' := 11) f_219_10 rfl rfl
 (w_iload_n (p' := 12) f_219_11 rfl rfl
 (w_iconst (p' := 13) f_219_12 rfl
 (w_callV (p' := 16) f_219_13 rfl rfl rfl rfl rfl (r := []) rfl rfl (kI (.inl rk_196) fun r102 s102 h102 =>
 w_iconst (p' := 17) f_219_16 rfl
 (w_icmp (p' := 24) (q' := 20) f_219_17 rfl rfl
 (fun c103 => w_iconst (p' := 25) f_219_24 rfl
 (w_zret f_219_25 rk_219 (h102.1 c103).1 (h102.1 c103).2))
 (fun c103 => w_iconst (p' := 21) f_219_20 rfl
 (w_goto (p' := 25) f_219_21 rfl
 (w_zret f_219_25 rk_219 (h102.2 c103).1 (h102.2 c103).2))))) (h101.2 c104))))))) h))))
/-! ClosedRoomsModel.whyBlock(I)I -/
theorem f_220_0 : fnd 220 0 = some (0, .aload_n 0, 1, 0, 0, 0, 0) := ceB_eq (by decide +kernel)
theorem f_220_1 : fnd 220 1 = some (1, .iload_n 1, 1, 0, 0, 0, 0) := ceB_eq (by decide +kernel)
theorem f_220_2 : fnd 220 2 = some (2, .invokevirtual 276, 3, 218, 2, 10, 0) := ceB_eq (by decide +kernel)
theorem f_220_5 : fnd 220 5 = some (5, .ifCond .ne 7, 3, 0, 0, 0, 0) := ceB_eq (by decide +kernel)
theorem f_220_8 : fnd 220 8 = some (8, .iconst 0, 1, 0, 0, 0, 0) := ceB_eq (by decide +kernel)
theorem f_220_9 : fnd 220 9 = some (9, .goto 39, 3, 0, 0, 0, 0) := ceB_eq (by decide +kernel)
theorem f_220_12 : fnd 220 12 = some (12, .aload_n 0, 1, 0, 0, 0, 0) := ceB_eq (by decide +kernel)
theorem f_220_13 : fnd 220 13 = some (13, .iload_n 1, 1, 0, 0, 0, 0) := ceB_eq (by decide +kernel)
theorem f_220_14 : fnd 220 14 = some (14, .invokevirtual 279, 3, 219, 2, 10, 0) := ceB_eq (by decide +kernel)
theorem f_220_17 : fnd 220 17 = some (17, .ifCond .eq 26, 3, 0, 0, 0, 0) := ceB_eq (by decide +kernel)
theorem f_220_20 : fnd 220 20 = some (20, .aload_n 0, 1, 0, 0, 0, 0) := ceB_eq (by decide +kernel)
theorem f_220_21 : fnd 220 21 = some (21, .iload_n 1, 1, 0, 0, 0, 0) := ceB_eq (by decide +kernel)
theorem f_220_22 : fnd 220 22 = some (22, .iconst 5, 1, 0, 0, 0, 0) := ceB_eq (by decide +kernel)
theorem f_220_23 : fnd 220 23 = some (23, .invokevirtual 206, 3, 196, 3, 10, 0) := ceB_eq (by decide +kernel)
theorem f_220_26 : fnd 220 26 = some (26, .iconst (-1), 1, 0, 0, 0, 0) := ceB_eq (by decide +kernel)
theorem f_220_27 : fnd 220 27 = some (27, .if_icmp .ne 16, 3, 0, 0, 0, 0) := ceB_eq (by decide +kernel)
theorem f_220_30 : fnd 220 30 = some (30, .aload_n 0, 1, 0, 0, 0, 0) := ceB_eq (by decide +kernel)
theorem f_220_31 : fnd 220 31 = some (31, .aload_n 0, 1, 0, 0, 0, 0) := ceB_eq (by decide +kernel)
theorem f_220_32 : fnd 220 32 = some (32, .iload_n 1, 1, 0, 0, 0, 0) := ceB_eq (by decide +kernel)
theorem f_220_33 : fnd 220 33 = some (33, .iconst 1, 1, 0, 0, 0, 0) := ceB_eq (by decide +kernel)
theorem f_220_34 : fnd 220 34 = some (34, .invokevirtual 206, 3, 196, 3, 10, 0) := ceB_eq (by decide +kernel)
theorem f_220_37 : fnd 220 37 = some (37, .invokevirtual 258, 3, 203, 2, 10, 0) := ceB_eq (by decide +kernel)
theorem f_220_40 : fnd 220 40 = some (40, .ifCond .eq 7, 3, 0, 0, 0, 0) := ceB_eq (by decide +kernel)
theorem f_220_43 : fnd 220 43 = some (43, .iconst 2, 1, 0, 0, 0, 0) := ceB_eq (by decide +kernel)
theorem f_220_44 : fnd 220 44 = some (44, .goto 4, 3, 0, 0, 0, 0) := ceB_eq (by decide +kernel)
theorem f_220_47 : fnd 220 47 = some (47, .iconst (-1), 1, 0, 0, 0, 0) := ceB_eq (by decide +kernel)
theorem f_220_48 : fnd 220 48 = some (48, .ireturn, 1, 0, 0, 0, 0) := ceB_eq (by decide +kernel)
theorem rk_220 : rkm 220 = 0 := by decide +kernel
theorem ml_220 : (mth 220).2.1 = 2 := by decide +kernel
set_option maxRecDepth 100000 in
theorem T_Z_whyBlock (k0 i0 x1 : Int) (σ : ST) (Q : Option AV → ST → Prop) (h :
  wpM m_Z_isUsed [.inr (.inr (40, k0, i0)), .inl x1] σ (asI fun r101 s101 =>
  (((r101 ≠ 0 : Prop) →
    wpM m_Z_isMoving [.inr (.inr (40, k0, i0)), .inl x1] s101 (asI fun r102 s102 =>
    (((r102 = 0 : Prop) →
      Q (some (.inl 2)) s102) ∧
    (¬ (r102 = 0) →
      wpM m_Z_ofPage [.inr (.inr (40, k0, i0)), .inl x1, .inl 5] s102 (asI fun r103 s103 =>
      (((r103 ≠ (-1) : Prop) →
        Q (some (.inl 2)) s103) ∧
      (¬ (r103 ≠ (-1)) →
        wpM m_Z_ofPage [.inr (.inr (40, k0, i0)), .inl x1, .inl 1] s103 (asI fun r104 s104 =>
        wpM m_Z_isAway [.inr (.inr (40, k0, i0)), .inl r104] s104 (asI fun r105 s105 =>
        (((r105 = 0 : Prop) →
          Q (some (.inl (-1))) s105) ∧
        (¬ (r105 = 0) →
          Q (some (.inl 2)) s105))))))))))) ∧
  (¬ (r101 ≠ 0) →
    Q (some (.inl 0)) s101)))) :
  wpM m_Z_whyBlock [.inr (.inr (40, k0, i0)), .inl x1] σ Q :=
 wpM_of ml_220 (L := [some (.inr (.inr (40, k0, i0))), some (.inl x1)]) rfl
 (w_aload_n (p' := 1) f_220_0 rfl rfl
 (w_iload_n (p' := 2) f_220_1 rfl rfl
 (w_callV (p' := 5) f_220_2 rfl rfl rfl rfl rfl (r := []) rfl rfl (kI (.inr rk_218) fun r101 s101 h101 =>
 w_if (p' := 12) (q' := 8) f_220_5 rfl rfl
 (fun c109 => w_aload_n (p' := 13) f_220_12 rfl rfl
 (w_iload_n (p' := 14) f_220_13 rfl rfl
 (w_callV (p' := 17) f_220_14 rfl rfl rfl rfl rfl (r := []) rfl rfl (kI (.inr rk_219) fun r102 s102 h102 =>
 w_if (p' := 43) (q' := 20) f_220_17 rfl rfl
 (fun c108 => w_iconst (p' := 44) f_220_43 rfl
 (w_goto (p' := 48) f_220_44 rfl
 (w_iret f_220_48 rk_220 (h102.1 c108))))
 (fun c108 => w_aload_n (p' := 21) f_220_20 rfl rfl
 (w_iload_n (p' := 22) f_220_21 rfl rfl
 (w_iconst (p' := 23) f_220_22 rfl
 (w_callV (p' := 26) f_220_23 rfl rfl rfl rfl rfl (r := []) rfl rfl (kI (.inl rk_196) fun r103 s103 h103 =>
 w_iconst (p' := 27) f_220_26 rfl
 (w_icmp (p' := 43) (q' := 30) f_220_27 rfl rfl
 (fun c107 => w_iconst (p' := 44) f_220_43 rfl
 (w_goto (p' := 48) f_220_44 rfl
 (w_iret f_220_48 rk_220 (h103.1 c107))))
 (fun c107 => w_aload_n (p' := 31) f_220_30 rfl rfl
 (w_aload_n (p' := 32) f_220_31 rfl rfl
 (w_iload_n (p' := 33) f_220_32 rfl rfl
 (w_iconst (p' := 34) f_220_33 rfl
 (w_callV (p' := 37) f_220_34 rfl rfl rfl rfl rfl (r := [.inr (.inr (40, k0, i0))]) rfl rfl (kI (.inl rk_196) fun r104 s104 h104 =>
 w_callV (p' := 40) f_220_37 rfl rfl rfl rfl rfl (r := []) rfl rfl (kI (.inr rk_203) fun r105 s105 h105 =>
 w_if (p' := 47) (q' := 43) f_220_40 rfl rfl
 (fun c106 => w_iconst (p' := 48) f_220_47 rfl
 (w_iret f_220_48 rk_220 (h105.1 c106)))
 (fun c106 => w_iconst (p' := 44) f_220_43 rfl
 (w_goto (p' := 48) f_220_44 rfl
 (w_iret f_220_48 rk_220 (h105.2 c106))))) h104) (h103.2 c107)))))))) (h102.2 c108)))))) (h101.1 c109))))
 (fun c109 => w_iconst (p' := 9) f_220_8 rfl
 (w_goto (p' := 48) f_220_9 rfl
 (w_iret f_220_48 rk_220 (h101.2 c109))))) h)))
/-! ClosedRoomsModel.insideSince(II)I -/
theorem f_221_0 : fnd 221 0 = some (0, .iconst 0, 1, 0, 0, 0, 0) := ceB_eq (by decide +kernel)
theorem f_221_1 : fnd 221 1 = some (1, .istore_n 3, 1, 0, 0, 0, 0) := ceB_eq (by decide +kernel)
theorem f_221_2 : fnd 221 2 = some (2, .iconst 0, 1, 0, 0, 0, 0) := ceB_eq (by decide +kernel)
theorem f_221_3 : fnd 221 3 = some (3, .istore 4, 2, 0, 0, 0, 0) := ceB_eq (by decide +kernel)
theorem f_221_5 : fnd 221 5 = some (5, .iload 4, 2, 0, 0, 0, 0) := ceB_eq (by decide +kernel)
theorem f_221_7 : fnd 221 7 = some (7, .aload_n 0, 1, 0, 0, 0, 0) := ceB_eq (by decide +kernel)
theorem f_221_8 : fnd 221 8 = some (8, .getfield 16, 3, 10, 10, 10, 0) := ceB_eq (by decide +kernel)
theorem f_221_11 : fnd 221 11 = some (11, .iconst 1, 1, 0, 0, 0, 0) := ceB_eq (by decide +kernel)
theorem f_221_12 : fnd 221 12 = some (12, .iaload, 1, 0, 0, 0, 0) := ceB_eq (by decide +kernel)
theorem f_221_13 : fnd 221 13 = some (13, .if_icmp .ge 42, 3, 0, 0, 0, 0) := ceB_eq (by decide +kernel)
theorem f_221_16 : fnd 221 16 = some (16, .iload_n 3, 1, 0, 0, 0, 0) := ceB_eq (by decide +kernel)
theorem f_221_17 : fnd 221 17 = some (17, .aload_n 0, 1, 0, 0, 0, 0) := ceB_eq (by decide +kernel)
theorem f_221_18 : fnd 221 18 = some (18, .iload 4, 2, 0, 0, 0, 0) := ceB_eq (by decide +kernel)
theorem f_221_20 : fnd 221 20 = some (20, .iconst 1, 1, 0, 0, 0, 0) := ceB_eq (by decide +kernel)
theorem f_221_21 : fnd 221 21 = some (21, .invokevirtual 212, 3, 208, 3, 10, 0) := ceB_eq (by decide +kernel)
theorem f_221_24 : fnd 221 24 = some (24, .iload_n 1, 1, 0, 0, 0, 0) := ceB_eq (by decide +kernel)
theorem f_221_25 : fnd 221 25 = some (25, .if_icmp .ne 21, 3, 0, 0, 0, 0) := ceB_eq (by decide +kernel)
theorem f_221_28 : fnd 221 28 = some (28, .aload_n 0, 1, 0, 0, 0, 0) := ceB_eq (by decide +kernel)
theorem f_221_29 : fnd 221 29 = some (29, .iload 4, 2, 0, 0, 0, 0) := ceB_eq (by decide +kernel)
theorem f_221_31 : fnd 221 31 = some (31, .iconst 3, 1, 0, 0, 0, 0) := ceB_eq (by decide +kernel)
theorem f_221_32 : fnd 221 32 = some (32, .invokevirtual 212, 3, 208, 3, 10, 0) := ceB_eq (by decide +kernel)
theorem f_221_35 : fnd 221 35 = some (35, .iload_n 2, 1, 0, 0, 0, 0) := ceB_eq (by decide +kernel)
theorem f_221_36 : fnd 221 36 = some (36, .if_icmp .gt 10, 3, 0, 0, 0, 0) := ceB_eq (by decide +kernel)
theorem f_221_39 : fnd 221 39 = some (39, .iconst 1, 1, 0, 0, 0, 0) := ceB_eq (by decide +kernel)
theorem f_221_40 : fnd 221 40 = some (40, .iload 4, 2, 0, 0, 0, 0) := ceB_eq (by decide +kernel)
theorem f_221_42 : fnd 221 42 = some (42, .ishl, 1, 0, 0, 0, 0) := ceB_eq (by decide +kernel)
theorem f_221_43 : fnd 221 43 = some (43, .goto 4, 3, 0, 0, 0, 0) := ceB_eq (by decide +kernel)
theorem f_221_46 : fnd 221 46 = some (46, .iconst 0, 1, 0, 0, 0, 0) := ceB_eq (by decide +kernel)
theorem f_221_47 : fnd 221 47 = some (47, .ior, 1, 0, 0, 0, 0) := ceB_eq (by decide +kernel)
theorem f_221_48 : fnd 221 48 = some (48, .istore_n 3, 1, 0, 0, 0, 0) := ceB_eq (by decide +kernel)
theorem f_221_49 : fnd 221 49 = some (49, .iinc 4 1, 3, 0, 0, 0, 0) := ceB_eq (by decide +kernel)
theorem f_221_52 : fnd 221 52 = some (52, .goto (-47), 3, 0, 0, 0, 0) := ceB_eq (by decide +kernel)
theorem f_221_55 : fnd 221 55 = some (55, .iload_n 3, 1, 0, 0, 0, 0) := ceB_eq (by decide +kernel)
theorem f_221_56 : fnd 221 56 = some (56, .ireturn, 1, 0, 0, 0, 0) := ceB_eq (by decide +kernel)
theorem rk_221 : rkm 221 = 0 := by decide +kernel
theorem ml_221 : (mth 221).2.1 = 5 := by decide +kernel
set_option maxRecDepth 100000 in
theorem T_Z_insideSince (k0 i0 x1 x2 : Int) (σ : ST) (Q : Option AV → ST → Prop) (h :
  wp m_Z_insideSince (5, [some (.inr (.inr (40, k0, i0))), some (.inl x1), some (.inl x2), some (.inl 0), some (.inl 0)], [], σ) Q) :
  wpM m_Z_insideSince [.inr (.inr (40, k0, i0)), .inl x1, .inl x2] σ Q :=
 wpM_of ml_221 (L := [some (.inr (.inr (40, k0, i0))), some (.inl x1), some (.inl x2), none, none]) rfl
 (w_iconst (p' := 1) f_221_0 rfl
 (w_istore_n (p' := 2) f_221_1 (L' := [some (.inr (.inr (40, k0, i0))), some (.inl x1), some (.inl x2), some (.inl 0), none]) rfl rfl
 (w_iconst (p' := 3) f_221_2 rfl
 (w_istore (p' := 5) f_221_3 (L' := [some (.inr (.inr (40, k0, i0))), some (.inl x1), some (.inl x2), some (.inl 0), some (.inl 0)]) rfl rfl
 (h)))))
set_option maxRecDepth 100000 in
theorem T_Z_insideSince_5 (k0 i0 x1 x2 x3 x4 : Int) (σ : ST) (Q : Option AV → ST → Prop) (h :
  ((0 : Int) ≤ 1 ∧ (1 : Int) < 4) ∧
  ((((σ 43 0 0 1) ≤ x4 : Prop) →
    Q (some (.inl x3)) σ) ∧
  (¬ ((σ 43 0 0 1) ≤ x4) →
    wpM m_Z_ofCore [.inr (.inr (40, k0, i0)), .inl x4, .inl 1] σ (asI fun r101 s101 =>
    (((r101 ≠ x1 : Prop) →
      wp m_Z_insideSince (5, [some (.inr (.inr (40, k0, i0))), some (.inl x1), some (.inl x2), some (.inl (i_or x3 0)), some (.inl (wr (x4 + 1)))], [], s101) Q) ∧
    (¬ (r101 ≠ x1) →
      wpM m_Z_ofCore [.inr (.inr (40, k0, i0)), .inl x4, .inl 3] s101 (asI fun r102 s102 =>
      (((x2 < r102 : Prop) →
        wp m_Z_insideSince (5, [some (.inr (.inr (40, k0, i0))), some (.inl x1), some (.inl x2), some (.inl (i_or x3 0)), some (.inl (wr (x4 + 1)))], [], s102) Q) ∧
      (¬ (x2 < r102) →
        wp m_Z_insideSince (5, [some (.inr (.inr (40, k0, i0))), some (.inl x1), some (.inl x2), some (.inl (i_or x3 (i_shl 1 x4))), some (.inl (wr (x4 + 1)))], [], s102) Q))))))))) :
  wp m_Z_insideSince (5, [some (.inr (.inr (40, k0, i0))), some (.inl x1), some (.inl x2), some (.inl x3), some (.inl x4)], [], σ) Q :=
 w_iload (p' := 7) f_221_5 rfl rfl
 (w_aload_n (p' := 8) f_221_7 rfl rfl
 (w_getfield (p' := 11) f_221_8 rfl (x := .inr (.inr (43, 0, 0))) rfl rfl
 (w_iconst (p' := 12) f_221_11 rfl
 (w_iaload (p' := 13) f_221_12 rfl (n := 4) rfl h.1 rfl
 (w_icmp (p' := 55) (q' := 16) f_221_13 rfl rfl
 (fun c105 => w_iload_n (p' := 56) f_221_55 rfl rfl
 (w_iret f_221_56 rk_221 (h.2.1 c105)))
 (fun c105 => w_iload_n (p' := 17) f_221_16 rfl rfl
 (w_aload_n (p' := 18) f_221_17 rfl rfl
 (w_iload (p' := 20) f_221_18 rfl rfl
 (w_iconst (p' := 21) f_221_20 rfl
 (w_callV (p' := 24) f_221_21 rfl rfl rfl rfl rfl (r := [.inl x3]) rfl rfl (kI (.inl rk_208) fun r101 s101 h101 =>
 w_iload_n (p' := 25) f_221_24 rfl rfl
 (w_icmp (p' := 46) (q' := 28) f_221_25 rfl rfl
 (fun c104 => w_iconst (p' := 47) f_221_46 rfl
 (w_ior (p' := 48) f_221_47 rfl
 (w_istore_n (p' := 49) f_221_48 (L' := [some (.inr (.inr (40, k0, i0))), some (.inl x1), some (.inl x2), some (.inl (i_or x3 0)), some (.inl x4)]) rfl rfl
 (w_iinc (p' := 52) f_221_49 rfl (L' := [some (.inr (.inr (40, k0, i0))), some (.inl x1), some (.inl x2), some (.inl (i_or x3 0)), some (.inl (wr (x4 + 1)))]) rfl rfl
 (w_goto (p' := 5) f_221_52 rfl
 ((h101.1 c104)))))))
 (fun c104 => w_aload_n (p' := 29) f_221_28 rfl rfl
 (w_iload (p' := 31) f_221_29 rfl rfl
 (w_iconst (p' := 32) f_221_31 rfl
 (w_callV (p' := 35) f_221_32 rfl rfl rfl rfl rfl (r := [.inl x3]) rfl rfl (kI (.inl rk_208) fun r102 s102 h102 =>
 w_iload_n (p' := 36) f_221_35 rfl rfl
 (w_icmp (p' := 46) (q' := 39) f_221_36 rfl rfl
 (fun c103 => w_iconst (p' := 47) f_221_46 rfl
 (w_ior (p' := 48) f_221_47 rfl
 (w_istore_n (p' := 49) f_221_48 (L' := [some (.inr (.inr (40, k0, i0))), some (.inl x1), some (.inl x2), some (.inl (i_or x3 0)), some (.inl x4)]) rfl rfl
 (w_iinc (p' := 52) f_221_49 rfl (L' := [some (.inr (.inr (40, k0, i0))), some (.inl x1), some (.inl x2), some (.inl (i_or x3 0)), some (.inl (wr (x4 + 1)))]) rfl rfl
 (w_goto (p' := 5) f_221_52 rfl
 ((h102.1 c103)))))))
 (fun c103 => w_iconst (p' := 40) f_221_39 rfl
 (w_iload (p' := 42) f_221_40 rfl rfl
 (w_ishl (p' := 43) f_221_42 rfl
 (w_goto (p' := 47) f_221_43 rfl
 (w_ior (p' := 48) f_221_47 rfl
 (w_istore_n (p' := 49) f_221_48 (L' := [some (.inr (.inr (40, k0, i0))), some (.inl x1), some (.inl x2), some (.inl (i_or x3 (i_shl 1 x4))), some (.inl x4)]) rfl rfl
 (w_iinc (p' := 52) f_221_49 rfl (L' := [some (.inr (.inr (40, k0, i0))), some (.inl x1), some (.inl x2), some (.inl (i_or x3 (i_shl 1 x4))), some (.inl (wr (x4 + 1)))]) rfl rfl
 (w_goto (p' := 5) f_221_52 rfl
 ((h102.2 c103)))))))))))) (h101.2 c104))))))) (h.2.2 c105)))))))))))
/-! ClosedRoomsModel.whyTrack(I)I -/
theorem f_222_0 : fnd 222 0 = some (0, .aload_n 0, 1, 0, 0, 0, 0) := ceB_eq (by decide +kernel)
theorem f_222_1 : fnd 222 1 = some (1, .iload_n 1, 1, 0, 0, 0, 0) := ceB_eq (by decide +kernel)
theorem f_222_2 : fnd 222 2 = some (2, .invokevirtual 252, 3, 201, 2, 10, 0) := ceB_eq (by decide +kernel)
theorem f_222_5 : fnd 222 5 = some (5, .ifCond .ne 7, 3, 0, 0, 0, 0) := ceB_eq (by decide +kernel)
theorem f_222_8 : fnd 222 8 = some (8, .iconst 0, 1, 0, 0, 0, 0) := ceB_eq (by decide +kernel)
theorem f_222_9 : fnd 222 9 = some (9, .goto 32, 3, 0, 0, 0, 0) := ceB_eq (by decide +kernel)
theorem f_222_12 : fnd 222 12 = some (12, .aload_n 0, 1, 0, 0, 0, 0) := ceB_eq (by decide +kernel)
theorem f_222_13 : fnd 222 13 = some (13, .iload_n 1, 1, 0, 0, 0, 0) := ceB_eq (by decide +kernel)
theorem f_222_14 : fnd 222 14 = some (14, .invokevirtual 258, 3, 203, 2, 10, 0) := ceB_eq (by decide +kernel)
theorem f_222_17 : fnd 222 17 = some (17, .ifCond .ne 19, 3, 0, 0, 0, 0) := ceB_eq (by decide +kernel)
theorem f_222_20 : fnd 222 20 = some (20, .aload_n 0, 1, 0, 0, 0, 0) := ceB_eq (by decide +kernel)
theorem f_222_21 : fnd 222 21 = some (21, .iload_n 1, 1, 0, 0, 0, 0) := ceB_eq (by decide +kernel)
theorem f_222_22 : fnd 222 22 = some (22, .aload_n 0, 1, 0, 0, 0, 0) := ceB_eq (by decide +kernel)
theorem f_222_23 : fnd 222 23 = some (23, .iload_n 1, 1, 0, 0, 0, 0) := ceB_eq (by decide +kernel)
theorem f_222_24 : fnd 222 24 = some (24, .iconst 5, 1, 0, 0, 0, 0) := ceB_eq (by decide +kernel)
theorem f_222_25 : fnd 222 25 = some (25, .invokevirtual 209, 3, 198, 3, 10, 0) := ceB_eq (by decide +kernel)
theorem f_222_28 : fnd 222 28 = some (28, .iconst 1, 1, 0, 0, 0, 0) := ceB_eq (by decide +kernel)
theorem f_222_29 : fnd 222 29 = some (29, .isub, 1, 0, 0, 0, 0) := ceB_eq (by decide +kernel)
theorem f_222_30 : fnd 222 30 = some (30, .invokevirtual 282, 3, 221, 3, 10, 0) := ceB_eq (by decide +kernel)
theorem f_222_33 : fnd 222 33 = some (33, .ifCond .eq 7, 3, 0, 0, 0, 0) := ceB_eq (by decide +kernel)
theorem f_222_36 : fnd 222 36 = some (36, .iconst 2, 1, 0, 0, 0, 0) := ceB_eq (by decide +kernel)
theorem f_222_37 : fnd 222 37 = some (37, .goto 4, 3, 0, 0, 0, 0) := ceB_eq (by decide +kernel)
theorem f_222_40 : fnd 222 40 = some (40, .iconst (-1), 1, 0, 0, 0, 0) := ceB_eq (by decide +kernel)
theorem f_222_41 : fnd 222 41 = some (41, .ireturn, 1, 0, 0, 0, 0) := ceB_eq (by decide +kernel)
theorem rk_222 : rkm 222 = 0 := by decide +kernel
theorem ml_222 : (mth 222).2.1 = 2 := by decide +kernel
set_option maxRecDepth 100000 in
theorem T_Z_whyTrack (k0 i0 x1 : Int) (σ : ST) (Q : Option AV → ST → Prop) (h :
  wpM m_Z_isRoom [.inr (.inr (40, k0, i0)), .inl x1] σ (asI fun r101 s101 =>
  (((r101 ≠ 0 : Prop) →
    wpM m_Z_isAway [.inr (.inr (40, k0, i0)), .inl x1] s101 (asI fun r102 s102 =>
    (((r102 ≠ 0 : Prop) →
      Q (some (.inl 2)) s102) ∧
    (¬ (r102 ≠ 0) →
      wpM m_Z_ofRoom [.inr (.inr (40, k0, i0)), .inl x1, .inl 5] s102 (asI fun r103 s103 =>
      wpM m_Z_insideSince [.inr (.inr (40, k0, i0)), .inl x1, .inl (wr (r103 - 1))] s103 (asI fun r104 s104 =>
      (((r104 = 0 : Prop) →
        Q (some (.inl (-1))) s104) ∧
      (¬ (r104 = 0) →
        Q (some (.inl 2)) s104)))))))) ∧
  (¬ (r101 ≠ 0) →
    Q (some (.inl 0)) s101)))) :
  wpM m_Z_whyTrack [.inr (.inr (40, k0, i0)), .inl x1] σ Q :=
 wpM_of ml_222 (L := [some (.inr (.inr (40, k0, i0))), some (.inl x1)]) rfl
 (w_aload_n (p' := 1) f_222_0 rfl rfl
 (w_iload_n (p' := 2) f_222_1 rfl rfl
 (w_callV (p' := 5) f_222_2 rfl rfl rfl rfl rfl (r := []) rfl rfl (kI (.inr rk_201) fun r101 s101 h101 =>
 w_if (p' := 12) (q' := 8) f_222_5 rfl rfl
 (fun c107 => w_aload_n (p' := 13) f_222_12 rfl rfl
 (w_iload_n (p' := 14) f_222_13 rfl rfl
 (w_callV (p' := 17) f_222_14 rfl rfl rfl rfl rfl (r := []) rfl rfl (kI (.inr rk_203) fun r102 s102 h102 =>
 w_if (p' := 36) (q' := 20) f_222_17 rfl rfl
 (fun c106 => w_iconst (p' := 37) f_222_36 rfl
 (w_goto (p' := 41) f_222_37 rfl
 (w_iret f_222_41 rk_222 (h102.1 c106))))
 (fun c106 => w_aload_n (p' := 21) f_222_20 rfl rfl
 (w_iload_n (p' := 22) f_222_21 rfl rfl
 (w_aload_n (p' := 23) f_222_22 rfl rfl
 (w_iload_n (p' := 24) f_222_23 rfl rfl
 (w_iconst (p' := 25) f_222_24 rfl
 (w_callV (p' := 28) f_222_25 rfl rfl rfl rfl rfl (r := [.inl x1, .inr (.inr (40, k0, i0))]) rfl rfl (kI (.inl rk_198) fun r103 s103 h103 =>
 w_iconst (p' := 29) f_222_28 rfl
 (w_isub (p' := 30) f_222_29 rfl
 (w_callV (p' := 33) f_222_30 rfl rfl rfl rfl rfl (r := []) rfl rfl (kI (.inl rk_221) fun r104 s104 h104 =>
 w_if (p' := 40) (q' := 36) f_222_33 rfl rfl
 (fun c105 => w_iconst (p' := 41) f_222_40 rfl
 (w_iret f_222_41 rk_222 (h104.1 c105)))
 (fun c105 => w_iconst (p' := 37) f_222_36 rfl
 (w_goto (p' := 41) f_222_37 rfl
 (w_iret f_222_41 rk_222 (h104.2 c105))))) h103))) (h102.2 c106)))))))) (h101.1 c107))))
 (fun c107 => w_iconst (p' := 9) f_222_8 rfl
 (w_goto (p' := 41) f_222_9 rfl
 (w_iret f_222_41 rk_222 (h101.2 c107))))) h)))
/-! ClosedRoomsModel.areSlots(I)Z -/
theorem f_223_0 : fnd 223 0 = some (0, .aload_n 0, 1, 0, 0, 0, 0) := ceB_eq (by decide +kernel)
theorem f_223_1 : fnd 223 1 = some (1, .iload_n 1, 1, 0, 0, 0, 0) := ceB_eq (by decide +kernel)
theorem f_223_2 : fnd 223 2 = some (2, .invokevirtual 203, 3, 211, 2, 10, 0) := ceB_eq (by decide +kernel)
theorem f_223_5 : fnd 223 5 = some (5, .ifCond .eq 17, 3, 0, 0, 0, 0) := ceB_eq (by decide +kernel)
theorem f_223_8 : fnd 223 8 = some (8, .aload_n 0, 1, 0, 0, 0, 0) := ceB_eq (by decide +kernel)
theorem f_223_9 : fnd 223 9 = some (9, .iload_n 1, 1, 0, 0, 0, 0) := ceB_eq (by decide +kernel)
theorem f_223_10 : fnd 223 10 = some (10, .iconst 0, 1, 0, 0, 0, 0) := ceB_eq (by decide +kernel)
theorem f_223_11 : fnd 223 11 = some (11, .invokevirtual 206, 3, 196, 3, 10, 0) := ceB_eq (by decide +kernel)
theorem f_223_14 : fnd 223 14 = some (14, .iconst 4, 1, 0, 0, 0, 0) := ceB_eq (by decide +kernel)
theorem f_223_15 : fnd 223 15 = some (15, .if_icmp .ne 7, 3, 0, 0, 0, 0) := ceB_eq (by decide +kernel)
theorem f_223_18 : fnd 223 18 = some (18, .iconst 1, 1, 0, 0, 0, 0) := ceB_eq (by decide +kernel)
theorem f_223_19 : fnd 223 19 = some (19, .goto 4, 3, 0, 0, 0, 0) := ceB_eq (by decide +kernel)
theorem f_223_22 : fnd 223 22 = some (22, .iconst 0, 1, 0, 0, 0, 0) := ceB_eq (by decide +kernel)
theorem f_223_23 : fnd 223 23 = some (23, .ireturn, 1, 0, 0, 0, 0) := ceB_eq (by decide +kernel)
theorem rk_223 : rkm 223 = 1 := by decide +kernel
theorem ml_223 : (mth 223).2.1 = 2 := by decide +kernel
set_option maxRecDepth 100000 in
theorem T_Z_areSlots (k0 i0 x1 : Int) (σ : ST) (Q : Option AV → ST → Prop) (h :
  wpM m_Z_isPage [.inr (.inr (40, k0, i0)), .inl x1] σ (asI fun r101 s101 =>
  (((r101 = 0 : Prop) →
    ((0 : Int) = 0 ∨ (0 : Int) = 1) ∧ Q (some (.inl 0)) s101) ∧
  (¬ (r101 = 0) →
    wpM m_Z_ofPage [.inr (.inr (40, k0, i0)), .inl x1, .inl 0] s101 (asI fun r102 s102 =>
    (((r102 ≠ 4 : Prop) →
      ((0 : Int) = 0 ∨ (0 : Int) = 1) ∧ Q (some (.inl 0)) s102) ∧
    (¬ (r102 ≠ 4) →
      ((1 : Int) = 0 ∨ (1 : Int) = 1) ∧ Q (some (.inl 1)) s102))))))) :
  wpM m_Z_areSlots [.inr (.inr (40, k0, i0)), .inl x1] σ Q :=
 wpM_of ml_223 (L := [some (.inr (.inr (40, k0, i0))), some (.inl x1)]) rfl
 (w_aload_n (p' := 1) f_223_0 rfl rfl
 (w_iload_n (p' := 2) f_223_1 rfl rfl
 (w_callV (p' := 5) f_223_2 rfl rfl rfl rfl rfl (r := []) rfl rfl (kI (.inr rk_211) fun r101 s101 h101 =>
 w_if (p' := 22) (q' := 8) f_223_5 rfl rfl
 (fun c104 => w_iconst (p' := 23) f_223_22 rfl
 (w_zret f_223_23 rk_223 (h101.1 c104).1 (h101.1 c104).2))
 (fun c104 => w_aload_n (p' := 9) f_223_8 rfl rfl
 (w_iload_n (p' := 10) f_223_9 rfl rfl
 (w_iconst (p' := 11) f_223_10 rfl
 (w_callV (p' := 14) f_223_11 rfl rfl rfl rfl rfl (r := []) rfl rfl (kI (.inl rk_196) fun r102 s102 h102 =>
 w_iconst (p' := 15) f_223_14 rfl
 (w_icmp (p' := 22) (q' := 18) f_223_15 rfl rfl
 (fun c103 => w_iconst (p' := 23) f_223_22 rfl
 (w_zret f_223_23 rk_223 (h102.1 c103).1 (h102.1 c103).2))
 (fun c103 => w_iconst (p' := 19) f_223_18 rfl
 (w_goto (p' := 23) f_223_19 rfl
 (w_zret f_223_23 rk_223 (h102.2 c103).1 (h102.2 c103).2))))) (h101.2 c104)))))) h)))
/-! ClosedRoomsModel.pagesOf(IZ)I -/
theorem f_224_0 : fnd 224 0 = some (0, .iconst 0, 1, 0, 0, 0, 0) := ceB_eq (by decide +kernel)
theorem f_224_1 : fnd 224 1 = some (1, .istore_n 3, 1, 0, 0, 0, 0) := ceB_eq (by decide +kernel)
theorem f_224_2 : fnd 224 2 = some (2, .iconst 0, 1, 0, 0, 0, 0) := ceB_eq (by decide +kernel)
theorem f_224_3 : fnd 224 3 = some (3, .istore 4, 2, 0, 0, 0, 0) := ceB_eq (by decide +kernel)
theorem f_224_5 : fnd 224 5 = some (5, .iload 4, 2, 0, 0, 0, 0) := ceB_eq (by decide +kernel)
theorem f_224_7 : fnd 224 7 = some (7, .aload_n 0, 1, 0, 0, 0, 0) := ceB_eq (by decide +kernel)
theorem f_224_8 : fnd 224 8 = some (8, .getfield 16, 3, 10, 10, 10, 0) := ceB_eq (by decide +kernel)
theorem f_224_11 : fnd 224 11 = some (11, .iconst 0, 1, 0, 0, 0, 0) := ceB_eq (by decide +kernel)
theorem f_224_12 : fnd 224 12 = some (12, .iaload, 1, 0, 0, 0, 0) := ceB_eq (by decide +kernel)
theorem f_224_13 : fnd 224 13 = some (13, .if_icmp .ge 53, 3, 0, 0, 0, 0) := ceB_eq (by decide +kernel)
theorem f_224_16 : fnd 224 16 = some (16, .iload_n 3, 1, 0, 0, 0, 0) := ceB_eq (by decide +kernel)
theorem f_224_17 : fnd 224 17 = some (17, .aload_n 0, 1, 0, 0, 0, 0) := ceB_eq (by decide +kernel)
theorem f_224_18 : fnd 224 18 = some (18, .iload 4, 2, 0, 0, 0, 0) := ceB_eq (by decide +kernel)
theorem f_224_20 : fnd 224 20 = some (20, .iconst 0, 1, 0, 0, 0, 0) := ceB_eq (by decide +kernel)
theorem f_224_21 : fnd 224 21 = some (21, .invokevirtual 206, 3, 196, 3, 10, 0) := ceB_eq (by decide +kernel)
theorem f_224_24 : fnd 224 24 = some (24, .ifCond .eq 33, 3, 0, 0, 0, 0) := ceB_eq (by decide +kernel)
theorem f_224_27 : fnd 224 27 = some (27, .aload_n 0, 1, 0, 0, 0, 0) := ceB_eq (by decide +kernel)
theorem f_224_28 : fnd 224 28 = some (28, .iload 4, 2, 0, 0, 0, 0) := ceB_eq (by decide +kernel)
theorem f_224_30 : fnd 224 30 = some (30, .iconst 1, 1, 0, 0, 0, 0) := ceB_eq (by decide +kernel)
theorem f_224_31 : fnd 224 31 = some (31, .invokevirtual 206, 3, 196, 3, 10, 0) := ceB_eq (by decide +kernel)
theorem f_224_34 : fnd 224 34 = some (34, .iload_n 1, 1, 0, 0, 0, 0) := ceB_eq (by decide +kernel)
theorem f_224_35 : fnd 224 35 = some (35, .if_icmp .ne 22, 3, 0, 0, 0, 0) := ceB_eq (by decide +kernel)
theorem f_224_38 : fnd 224 38 = some (38, .iload_n 2, 1, 0, 0, 0, 0) := ceB_eq (by decide +kernel)
theorem f_224_39 : fnd 224 39 = some (39, .ifCond .ne 14, 3, 0, 0, 0, 0) := ceB_eq (by decide +kernel)
theorem f_224_42 : fnd 224 42 = some (42, .aload_n 0, 1, 0, 0, 0, 0) := ceB_eq (by decide +kernel)
theorem f_224_43 : fnd 224 43 = some (43, .iload 4, 2, 0, 0, 0, 0) := ceB_eq (by decide +kernel)
theorem f_224_45 : fnd 224 45 = some (45, .iconst 0, 1, 0, 0, 0, 0) := ceB_eq (by decide +kernel)
theorem f_224_46 : fnd 224 46 = some (46, .invokevirtual 206, 3, 196, 3, 10, 0) := ceB_eq (by decide +kernel)
theorem f_224_49 : fnd 224 49 = some (49, .iconst 1, 1, 0, 0, 0, 0) := ceB_eq (by decide +kernel)
theorem f_224_50 : fnd 224 50 = some (50, .if_icmp .eq 7, 3, 0, 0, 0, 0) := ceB_eq (by decide +kernel)
theorem f_224_53 : fnd 224 53 = some (53, .iconst 1, 1, 0, 0, 0, 0) := ceB_eq (by decide +kernel)
theorem f_224_54 : fnd 224 54 = some (54, .goto 4, 3, 0, 0, 0, 0) := ceB_eq (by decide +kernel)
theorem f_224_57 : fnd 224 57 = some (57, .iconst 0, 1, 0, 0, 0, 0) := ceB_eq (by decide +kernel)
theorem f_224_58 : fnd 224 58 = some (58, .iadd, 1, 0, 0, 0, 0) := ceB_eq (by decide +kernel)
theorem f_224_59 : fnd 224 59 = some (59, .istore_n 3, 1, 0, 0, 0, 0) := ceB_eq (by decide +kernel)
theorem f_224_60 : fnd 224 60 = some (60, .iinc 4 1, 3, 0, 0, 0, 0) := ceB_eq (by decide +kernel)
theorem f_224_63 : fnd 224 63 = some (63, .goto (-58), 3, 0, 0, 0, 0) := ceB_eq (by decide +kernel)
theorem f_224_66 : fnd 224 66 = some (66, .iload_n 3, 1, 0, 0, 0, 0) := ceB_eq (by decide +kernel)
theorem f_224_67 : fnd 224 67 = some (67, .ireturn, 1, 0, 0, 0, 0) := ceB_eq (by decide +kernel)
theorem rk_224 : rkm 224 = 0 := by decide +kernel
theorem ml_224 : (mth 224).2.1 = 5 := by decide +kernel
set_option maxRecDepth 100000 in
theorem T_Z_pagesOf (k0 i0 x1 x2 : Int) (σ : ST) (Q : Option AV → ST → Prop) (h :
  wp m_Z_pagesOf (5, [some (.inr (.inr (40, k0, i0))), some (.inl x1), some (.inl x2), some (.inl 0), some (.inl 0)], [], σ) Q) :
  wpM m_Z_pagesOf [.inr (.inr (40, k0, i0)), .inl x1, .inl x2] σ Q :=
 wpM_of ml_224 (L := [some (.inr (.inr (40, k0, i0))), some (.inl x1), some (.inl x2), none, none]) rfl
 (w_iconst (p' := 1) f_224_0 rfl
 (w_istore_n (p' := 2) f_224_1 (L' := [some (.inr (.inr (40, k0, i0))), some (.inl x1), some (.inl x2), some (.inl 0), none]) rfl rfl
 (w_iconst (p' := 3) f_224_2 rfl
 (w_istore (p' := 5) f_224_3 (L' := [some (.inr (.inr (40, k0, i0))), some (.inl x1), some (.inl x2), some (.inl 0), some (.inl 0)]) rfl rfl
 (h)))))
set_option maxRecDepth 100000 in
theorem T_Z_pagesOf_5 (k0 i0 x1 x2 x3 x4 : Int) (σ : ST) (Q : Option AV → ST → Prop) (h :
  ((0 : Int) ≤ 0 ∧ (0 : Int) < 4) ∧
  ((((σ 43 0 0 0) ≤ x4 : Prop) →
    Q (some (.inl x3)) σ) ∧
  (¬ ((σ 43 0 0 0) ≤ x4) →
    wpM m_Z_ofPage [.inr (.inr (40, k0, i0)), .inl x4, .inl 0] σ (asI fun r101 s101 =>
    (((r101 = 0 : Prop) →
      wp m_Z_pagesOf (5, [some (.inr (.inr (40, k0, i0))), some (.inl x1), some (.inl x2), some (.inl (wr (x3 + 0))), some (.inl (wr (x4 + 1)))], [], s101) Q) ∧
    (¬ (r101 = 0) →
      wpM m_Z_ofPage [.inr (.inr (40, k0, i0)), .inl x4, .inl 1] s101 (asI fun r102 s102 =>
      (((r102 ≠ x1 : Prop) →
        wp m_Z_pagesOf (5, [some (.inr (.inr (40, k0, i0))), some (.inl x1), some (.inl x2), some (.inl (wr (x3 + 0))), some (.inl (wr (x4 + 1)))], [], s102) Q) ∧
      (¬ (r102 ≠ x1) →
        (((x2 ≠ 0 : Prop) →
          wp m_Z_pagesOf (5, [some (.inr (.inr (40, k0, i0))), some (.inl x1), some (.inl x2), some (.inl (wr (x3 + 1))), some (.inl (wr (x4 + 1)))], [], s102) Q) ∧
        (¬ (x2 ≠ 0) →
          wpM m_Z_ofPage [.inr (.inr (40, k0, i0)), .inl x4, .inl 0] s102 (asI fun r103 s103 =>
          (((r103 = 1 : Prop) →
            wp m_Z_pagesOf (5, [some (.inr (.inr (40, k0, i0))), some (.inl x1), some (.inl x2), some (.inl (wr (x3 + 0))), some (.inl (wr (x4 + 1)))], [], s103) Q) ∧
          (¬ (r103 = 1) →
            wp m_Z_pagesOf (5, [some (.inr (.inr (40, k0, i0))), some (.inl x1), some (.inl x2), some (.inl (wr (x3 + 1))), some (.inl (wr (x4 + 1)))], [], s103) Q)))))))))))))) :
  wp m_Z_pagesOf (5, [some (.inr (.inr (40, k0, i0))), some (.inl x1), some (.inl x2), some (.inl x3), some (.inl x4)], [], σ) Q :=
 w_iload (p' := 7) f_224_5 rfl rfl
 (w_aload_n (p' := 8) f_224_7 rfl rfl
 (w_getfield (p' := 11) f_224_8 rfl (x := .inr (.inr (43, 0, 0))) rfl rfl
 (w_iconst (p' := 12) f_224_11 rfl
 (w_iaload (p' := 13) f_224_12 rfl (n := 4) rfl h.1 rfl
 (w_icmp (p' := 66) (q' := 16) f_224_13 rfl rfl
 (fun c108 => w_iload_n (p' := 67) f_224_66 rfl rfl
 (w_iret f_224_67 rk_224 (h.2.1 c108)))
 (fun c108 => w_iload_n (p' := 17) f_224_16 rfl rfl
 (w_aload_n (p' := 18) f_224_17 rfl rfl
 (w_iload (p' := 20) f_224_18 rfl rfl
 (w_iconst (p' := 21) f_224_20 rfl
 (w_callV (p' := 24) f_224_21 rfl rfl rfl rfl rfl (r := [.inl x3]) rfl rfl (kI (.inl rk_196) fun r101 s101 h101 =>
 w_if (p' := 57) (q' := 27) f_224_24 rfl rfl
 (fun c107 => w_iconst (p' := 58) f_224_57 rfl
 (w_iadd (p' := 59) f_224_58 rfl
 (w_istore_n (p' := 60) f_224_59 (L' := [some (.inr (.inr (40, k0, i0))), some (.inl x1), some (.inl x2), some (.inl (wr (x3 + 0))), some (.inl x4)]) rfl rfl
 (w_iinc (p' := 63) f_224_60 rfl (L' := [some (.inr (.inr (40, k0, i0))), some (.inl x1), some (.inl x2), some (.inl (wr (x3 + 0))), some (.inl (wr (x4 + 1)))]) rfl rfl
 (w_goto (p' := 5) f_224_63 rfl
 ((h101.1 c107)))))))
 (fun c107 => w_aload_n (p' := 28) f_224_27 rfl rfl
 (w_iload (p' := 30) f_224_28 rfl rfl
 (w_iconst (p' := 31) f_224_30 rfl
 (w_callV (p' := 34) f_224_31 rfl rfl rfl rfl rfl (r := [.inl x3]) rfl rfl (kI (.inl rk_196) fun r102 s102 h102 =>
 w_iload_n (p' := 35) f_224_34 rfl rfl
 (w_icmp (p' := 57) (q' := 38) f_224_35 rfl rfl
 (fun c106 => w_iconst (p' := 58) f_224_57 rfl
 (w_iadd (p' := 59) f_224_58 rfl
 (w_istore_n (p' := 60) f_224_59 (L' := [some (.inr (.inr (40, k0, i0))), some (.inl x1), some (.inl x2), some (.inl (wr (x3 + 0))), some (.inl x4)]) rfl rfl
 (w_iinc (p' := 63) f_224_60 rfl (L' := [some (.inr (.inr (40, k0, i0))), some (.inl x1), some (.inl x2), some (.inl (wr (x3 + 0))), some (.inl (wr (x4 + 1)))]) rfl rfl
 (w_goto (p' := 5) f_224_63 rfl
 ((h102.1 c106)))))))
 (fun c106 => w_iload_n (p' := 39) f_224_38 rfl rfl
 (w_if (p' := 53) (q' := 42) f_224_39 rfl rfl
 (fun c105 => w_iconst (p' := 54) f_224_53 rfl
 (w_goto (p' := 58) f_224_54 rfl
 (w_iadd (p' := 59) f_224_58 rfl
 (w_istore_n (p' := 60) f_224_59 (L' := [some (.inr (.inr (40, k0, i0))), some (.inl x1), some (.inl x2), some (.inl (wr (x3 + 1))), some (.inl x4)]) rfl rfl
 (w_iinc (p' := 63) f_224_60 rfl (L' := [some (.inr (.inr (40, k0, i0))), some (.inl x1), some (.inl x2), some (.inl (wr (x3 + 1))), some (.inl (wr (x4 + 1)))]) rfl rfl
 (w_goto (p' := 5) f_224_63 rfl
 (((h102.2 c106).1 c105))))))))
 (fun c105 => w_aload_n (p' := 43) f_224_42 rfl rfl
 (w_iload (p' := 45) f_224_43 rfl rfl
 (w_iconst (p' := 46) f_224_45 rfl
 (w_callV (p' := 49) f_224_46 rfl rfl rfl rfl rfl (r := [.inl x3]) rfl rfl (kI (.inl rk_196) fun r103 s103 h103 =>
 w_iconst (p' := 50) f_224_49 rfl
 (w_icmp (p' := 57) (q' := 53) f_224_50 rfl rfl
 (fun c104 => w_iconst (p' := 58) f_224_57 rfl
 (w_iadd (p' := 59) f_224_58 rfl
 (w_istore_n (p' := 60) f_224_59 (L' := [some (.inr (.inr (40, k0, i0))), some (.inl x1), some (.inl x2), some (.inl (wr (x3 + 0))), some (.inl x4)]) rfl rfl
 (w_iinc (p' := 63) f_224_60 rfl (L' := [some (.inr (.inr (40, k0, i0))), some (.inl x1), some (.inl x2), some (.inl (wr (x3 + 0))), some (.inl (wr (x4 + 1)))]) rfl rfl
 (w_goto (p' := 5) f_224_63 rfl
 ((h103.1 c104)))))))
 (fun c104 => w_iconst (p' := 54) f_224_53 rfl
 (w_goto (p' := 58) f_224_54 rfl
 (w_iadd (p' := 59) f_224_58 rfl
 (w_istore_n (p' := 60) f_224_59 (L' := [some (.inr (.inr (40, k0, i0))), some (.inl x1), some (.inl x2), some (.inl (wr (x3 + 1))), some (.inl x4)]) rfl rfl
 (w_iinc (p' := 63) f_224_60 rfl (L' := [some (.inr (.inr (40, k0, i0))), some (.inl x1), some (.inl x2), some (.inl (wr (x3 + 1))), some (.inl (wr (x4 + 1)))]) rfl rfl
 (w_goto (p' := 5) f_224_63 rfl
 ((h103.2 c104)))))))))) ((h102.2 c106).2 c105))))))))) (h101.2 c107)))))) (h.2.2 c108)))))))))))
/-! ClosedRoomsModel.canGo(I)Z -/
theorem f_225_0 : fnd 225 0 = some (0, .aload_n 0, 1, 0, 0, 0, 0) := ceB_eq (by decide +kernel)
theorem f_225_1 : fnd 225 1 = some (1, .iload_n 1, 1, 0, 0, 0, 0) := ceB_eq (by decide +kernel)
theorem f_225_2 : fnd 225 2 = some (2, .iconst 1, 1, 0, 0, 0, 0) := ceB_eq (by decide +kernel)
theorem f_225_3 : fnd 225 3 = some (3, .invokevirtual 206, 3, 196, 3, 10, 0) := ceB_eq (by decide +kernel)
theorem f_225_6 : fnd 225 6 = some (6, .istore_n 2, 1, 0, 0, 0, 0) := ceB_eq (by decide +kernel)
theorem f_225_7 : fnd 225 7 = some (7, .aload_n 0, 1, 0, 0, 0, 0) := ceB_eq (by decide +kernel)
theorem f_225_8 : fnd 225 8 = some (8, .iload_n 1, 1, 0, 0, 0, 0) := ceB_eq (by decide +kernel)
theorem f_225_9 : fnd 225 9 = some (9, .iconst 0, 1, 0, 0, 0, 0) := ceB_eq (by decide +kernel)
theorem f_225_10 : fnd 225 10 = some (10, .invokevirtual 206, 3, 196, 3, 10, 0) := ceB_eq (by decide +kernel)
theorem f_225_13 : fnd 225 13 = some (13, .iconst 1, 1, 0, 0, 0, 0) := ceB_eq (by decide +kernel)
theorem f_225_14 : fnd 225 14 = some (14, .if_icmp .ne 18, 3, 0, 0, 0, 0) := ceB_eq (by decide +kernel)
theorem f_225_17 : fnd 225 17 = some (17, .aload_n 0, 1, 0, 0, 0, 0) := ceB_eq (by decide +kernel)
theorem f_225_18 : fnd 225 18 = some (18, .iload_n 2, 1, 0, 0, 0, 0) := ceB_eq (by decide +kernel)
theorem f_225_19 : fnd 225 19 = some (19, .iconst 0, 1, 0, 0, 0, 0) := ceB_eq (by decide +kernel)
theorem f_225_20 : fnd 225 20 = some (20, .invokevirtual 285, 3, 224, 3, 10, 0) := ceB_eq (by decide +kernel)
theorem f_225_23 : fnd 225 23 = some (23, .ifCond .ne 7, 3, 0, 0, 0, 0) := ceB_eq (by decide +kernel)
theorem f_225_26 : fnd 225 26 = some (26, .iconst 1, 1, 0, 0, 0, 0) := ceB_eq (by decide +kernel)
theorem f_225_27 : fnd 225 27 = some (27, .goto 4, 3, 0, 0, 0, 0) := ceB_eq (by decide +kernel)
theorem f_225_30 : fnd 225 30 = some (30, .iconst 0, 1, 0, 0, 0, 0) := ceB_eq (by decide +kernel)
theorem f_225_31 : fnd 225 31 = some (31, .ireturn, 1, 0, 0, 0, 0) := ceB_eq (by decide +kernel)
theorem f_225_32 : fnd 225 32 = some (32, .aload_n 0, 1, 0, 0, 0, 0) := ceB_eq (by decide +kernel)
theorem f_225_33 : fnd 225 33 = some (33, .iload_n 1, 1, 0, 0, 0, 0) := ceB_eq (by decide +kernel)
theorem f_225_34 : fnd 225 34 = some (34, .invokevirtual 279, 3, 219, 2, 10, 0) := ceB_eq (by decide +kernel)
theorem f_225_37 : fnd 225 37 = some (37, .ifCond .eq 24, 3, 0, 0, 0, 0) := ceB_eq (by decide +kernel)
theorem f_225_40 : fnd 225 40 = some (40, .aload_n 0, 1, 0, 0, 0, 0) := ceB_eq (by decide +kernel)
theorem f_225_41 : fnd 225 41 = some (41, .iload_n 1, 1, 0, 0, 0, 0) := ceB_eq (by decide +kernel)
theorem f_225_42 : fnd 225 42 = some (42, .iconst 0, 1, 0, 0, 0, 0) := ceB_eq (by decide +kernel)
theorem f_225_43 : fnd 225 43 = some (43, .invokevirtual 206, 3, 196, 3, 10, 0) := ceB_eq (by decide +kernel)
theorem f_225_46 : fnd 225 46 = some (46, .iconst 3, 1, 0, 0, 0, 0) := ceB_eq (by decide +kernel)
theorem f_225_47 : fnd 225 47 = some (47, .if_icmp .ne 16, 3, 0, 0, 0, 0) := ceB_eq (by decide +kernel)
theorem f_225_50 : fnd 225 50 = some (50, .aload_n 0, 1, 0, 0, 0, 0) := ceB_eq (by decide +kernel)
theorem f_225_51 : fnd 225 51 = some (51, .iload_n 1, 1, 0, 0, 0, 0) := ceB_eq (by decide +kernel)
theorem f_225_52 : fnd 225 52 = some (52, .bipush 6, 2, 0, 0, 0, 0) := ceB_eq (by decide +kernel)
theorem f_225_54 : fnd 225 54 = some (54, .invokevirtual 206, 3, 196, 3, 10, 0) := ceB_eq (by decide +kernel)
theorem f_225_57 : fnd 225 57 = some (57, .iconst 1, 1, 0, 0, 0, 0) := ceB_eq (by decide +kernel)
theorem f_225_58 : fnd 225 58 = some (58, .if_icmp .ne 5, 3, 0, 0, 0, 0) := ceB_eq (by decide +kernel)
theorem f_225_61 : fnd 225 61 = some (61, .iconst 0, 1, 0, 0, 0, 0) := ceB_eq (by decide +kernel)
theorem f_225_62 : fnd 225 62 = some (62, .ireturn, 1, 0, 0, 0, 0) := ceB_eq (by decide +kernel)
theorem f_225_63 : fnd 225 63 = some (63, .aload_n 0, 1, 0, 0, 0, 0) := ceB_eq (by decide +kernel)
theorem f_225_64 : fnd 225 64 = some (64, .iload_n 1, 1, 0, 0, 0, 0) := ceB_eq (by decide +kernel)
theorem f_225_65 : fnd 225 65 = some (65, .iconst 5, 1, 0, 0, 0, 0) := ceB_eq (by decide +kernel)
theorem f_225_66 : fnd 225 66 = some (66, .invokevirtual 206, 3, 196, 3, 10, 0) := ceB_eq (by decide +kernel)
theorem f_225_69 : fnd 225 69 = some (69, .istore_n 3, 1, 0, 0, 0, 0) := ceB_eq (by decide +kernel)
theorem f_225_70 : fnd 225 70 = some (70, .iload_n 3, 1, 0, 0, 0, 0) := ceB_eq (by decide +kernel)
theorem f_225_71 : fnd 225 71 = some (71, .iconst (-1), 1, 0, 0, 0, 0) := ceB_eq (by decide +kernel)
theorem f_225_72 : fnd 225 72 = some (72, .if_icmp .eq 26, 3, 0, 0, 0, 0) := ceB_eq (by decide +kernel)
theorem f_225_75 : fnd 225 75 = some (75, .iload_n 3, 1, 0, 0, 0, 0) := ceB_eq (by decide +kernel)
theorem f_225_76 : fnd 225 76 = some (76, .aload_n 0, 1, 0, 0, 0, 0) := ceB_eq (by decide +kernel)
theorem f_225_77 : fnd 225 77 = some (77, .iload_n 2, 1, 0, 0, 0, 0) := ceB_eq (by decide +kernel)
theorem f_225_78 : fnd 225 78 = some (78, .iconst 5, 1, 0, 0, 0, 0) := ceB_eq (by decide +kernel)
theorem f_225_79 : fnd 225 79 = some (79, .invokevirtual 209, 3, 198, 3, 10, 0) := ceB_eq (by decide +kernel)
theorem f_225_82 : fnd 225 82 = some (82, .if_icmp .ge 16, 3, 0, 0, 0, 0) := ceB_eq (by decide +kernel)
theorem f_225_85 : fnd 225 85 = some (85, .aload_n 0, 1, 0, 0, 0, 0) := ceB_eq (by decide +kernel)
theorem f_225_86 : fnd 225 86 = some (86, .iload_n 2, 1, 0, 0, 0, 0) := ceB_eq (by decide +kernel)
theorem f_225_87 : fnd 225 87 = some (87, .iload_n 3, 1, 0, 0, 0, 0) := ceB_eq (by decide +kernel)
theorem f_225_88 : fnd 225 88 = some (88, .invokevirtual 282, 3, 221, 3, 10, 0) := ceB_eq (by decide +kernel)
theorem f_225_91 : fnd 225 91 = some (91, .ifCond .ne 7, 3, 0, 0, 0, 0) := ceB_eq (by decide +kernel)
theorem f_225_94 : fnd 225 94 = some (94, .iconst 1, 1, 0, 0, 0, 0) := ceB_eq (by decide +kernel)
theorem f_225_95 : fnd 225 95 = some (95, .goto 4, 3, 0, 0, 0, 0) := ceB_eq (by decide +kernel)
theorem f_225_98 : fnd 225 98 = some (98, .iconst 0, 1, 0, 0, 0, 0) := ceB_eq (by decide +kernel)
theorem f_225_99 : fnd 225 99 = some (99, .ireturn, 1, 0, 0, 0, 0) := ceB_eq (by decide +kernel)
theorem rk_225 : rkm 225 = 1 := by decide +kernel
theorem ml_225 : (mth 225).2.1 = 4 := by decide +kernel
set_option maxRecDepth 100000 in
theorem T_Z_canGo (k0 i0 x1 : Int) (σ : ST) (Q : Option AV → ST → Prop) (h :
  wpM m_Z_ofPage [.inr (.inr (40, k0, i0)), .inl x1, .inl 1] σ (asI fun r101 s101 =>
  wpM m_Z_ofPage [.inr (.inr (40, k0, i0)), .inl x1, .inl 0] s101 (asI fun r102 s102 =>
  (((r102 ≠ 1 : Prop) →
    wpM m_Z_isMoving [.inr (.inr (40, k0, i0)), .inl x1] s102 (asI fun r103 s103 =>
    (((r103 = 0 : Prop) →
      ((0 : Int) = 0 ∨ (0 : Int) = 1) ∧ Q (some (.inl 0)) s103) ∧
    (¬ (r103 = 0) →
      wpM m_Z_ofPage [.inr (.inr (40, k0, i0)), .inl x1, .inl 0] s103 (asI fun r104 s104 =>
      (((r104 ≠ 3 : Prop) →
        wp m_Z_canGo (63, [some (.inr (.inr (40, k0, i0))), some (.inl x1), some (.inl r101), none], [], s104) Q) ∧
      (¬ (r104 ≠ 3) →
        wpM m_Z_ofPage [.inr (.inr (40, k0, i0)), .inl x1, .inl 6] s104 (asI fun r105 s105 =>
        (((r105 ≠ 1 : Prop) →
          wp m_Z_canGo (63, [some (.inr (.inr (40, k0, i0))), some (.inl x1), some (.inl r101), none], [], s105) Q) ∧
        (¬ (r105 ≠ 1) →
          ((0 : Int) = 0 ∨ (0 : Int) = 1) ∧ Q (some (.inl 0)) s105)))))))))) ∧
  (¬ (r102 ≠ 1) →
    wpM m_Z_pagesOf [.inr (.inr (40, k0, i0)), .inl r101, .inl 0] s102 (asI fun r109 s109 =>
    (((r109 ≠ 0 : Prop) →
      ((0 : Int) = 0 ∨ (0 : Int) = 1) ∧ Q (some (.inl 0)) s109) ∧
    (¬ (r109 ≠ 0) →
      ((1 : Int) = 0 ∨ (1 : Int) = 1) ∧ Q (some (.inl 1)) s109)))))))) :
  wpM m_Z_canGo [.inr (.inr (40, k0, i0)), .inl x1] σ Q :=
 wpM_of ml_225 (L := [some (.inr (.inr (40, k0, i0))), some (.inl x1), none, none]) rfl
 (w_aload_n (p' := 1) f_225_0 rfl rfl
 (w_iload_n (p' := 2) f_225_1 rfl rfl
 (w_iconst (p' := 3) f_225_2 rfl
 (w_callV (p' := 6) f_225_3 rfl rfl rfl rfl rfl (r := []) rfl rfl (kI (.inl rk_196) fun r101 s101 h101 =>
 w_istore_n (p' := 7) f_225_6 (L' := [some (.inr (.inr (40, k0, i0))), some (.inl x1), some (.inl r101), none]) rfl rfl
 (w_aload_n (p' := 8) f_225_7 rfl rfl
 (w_iload_n (p' := 9) f_225_8 rfl rfl
 (w_iconst (p' := 10) f_225_9 rfl
 (w_callV (p' := 13) f_225_10 rfl rfl rfl rfl rfl (r := []) rfl rfl (kI (.inl rk_196) fun r102 s102 h102 =>
 w_iconst (p' := 14) f_225_13 rfl
 (w_icmp (p' := 32) (q' := 17) f_225_14 rfl rfl
 (fun c111 => w_aload_n (p' := 33) f_225_32 rfl rfl
 (w_iload_n (p' := 34) f_225_33 rfl rfl
 (w_callV (p' := 37) f_225_34 rfl rfl rfl rfl rfl (r := []) rfl rfl (kI (.inr rk_219) fun r103 s103 h103 =>
 w_if (p' := 61) (q' := 40) f_225_37 rfl rfl
 (fun c108 => w_iconst (p' := 62) f_225_61 rfl
 (w_zret f_225_62 rk_225 (h103.1 c108).1 (h103.1 c108).2))
 (fun c108 => w_aload_n (p' := 41) f_225_40 rfl rfl
 (w_iload_n (p' := 42) f_225_41 rfl rfl
 (w_iconst (p' := 43) f_225_42 rfl
 (w_callV (p' := 46) f_225_43 rfl rfl rfl rfl rfl (r := []) rfl rfl (kI (.inl rk_196) fun r104 s104 h104 =>
 w_iconst (p' := 47) f_225_46 rfl
 (w_icmp (p' := 63) (q' := 50) f_225_47 rfl rfl
 (fun c107 => (h104.1 c107))
 (fun c107 => w_aload_n (p' := 51) f_225_50 rfl rfl
 (w_iload_n (p' := 52) f_225_51 rfl rfl
 (w_bipush (p' := 54) f_225_52 rfl
 (w_callV (p' := 57) f_225_54 rfl rfl rfl rfl rfl (r := []) rfl rfl (kI (.inl rk_196) fun r105 s105 h105 =>
 w_iconst (p' := 58) f_225_57 rfl
 (w_icmp (p' := 63) (q' := 61) f_225_58 rfl rfl
 (fun c106 => (h105.1 c106))
 (fun c106 => w_iconst (p' := 62) f_225_61 rfl
 (w_zret f_225_62 rk_225 (h105.2 c106).1 (h105.2 c106).2)))) (h104.2 c107))))))) (h103.2 c108)))))) (h102.1 c111))))
 (fun c111 => w_aload_n (p' := 18) f_225_17 rfl rfl
 (w_iload_n (p' := 19) f_225_18 rfl rfl
 (w_iconst (p' := 20) f_225_19 rfl
 (w_callV (p' := 23) f_225_20 rfl rfl rfl rfl rfl (r := []) rfl rfl (kI (.inl rk_224) fun r109 s109 h109 =>
 w_if (p' := 30) (q' := 26) f_225_23 rfl rfl
 (fun c110 => w_iconst (p' := 31) f_225_30 rfl
 (w_zret f_225_31 rk_225 (h109.1 c110).1 (h109.1 c110).2))
 (fun c110 => w_iconst (p' := 27) f_225_26 rfl
 (w_goto (p' := 31) f_225_27 rfl
 (w_zret f_225_31 rk_225 (h109.2 c110).1 (h109.2 c110).2)))) (h102.2 c111))))))) h101))))) h))))
set_option maxRecDepth 100000 in
theorem T_Z_canGo_63 (k0 i0 x1 x2 : Int) (o3 : Option AV) (σ : ST) (Q : Option AV → ST → Prop) (h :
  wpM m_Z_ofPage [.inr (.inr (40, k0, i0)), .inl x1, .inl 5] σ (asI fun r101 s101 =>
  (((r101 = (-1) : Prop) →
    ((0 : Int) = 0 ∨ (0 : Int) = 1) ∧ Q (some (.inl 0)) s101) ∧
  (¬ (r101 = (-1)) →
    wpM m_Z_ofRoom [.inr (.inr (40, k0, i0)), .inl x2, .inl 5] s101 (asI fun r102 s102 =>
    (((r102 ≤ r101 : Prop) →
      ((0 : Int) = 0 ∨ (0 : Int) = 1) ∧ Q (some (.inl 0)) s102) ∧
    (¬ (r102 ≤ r101) →
      wpM m_Z_insideSince [.inr (.inr (40, k0, i0)), .inl x2, .inl r101] s102 (asI fun r103 s103 =>
      (((r103 ≠ 0 : Prop) →
        ((0 : Int) = 0 ∨ (0 : Int) = 1) ∧ Q (some (.inl 0)) s103) ∧
      (¬ (r103 ≠ 0) →
        ((1 : Int) = 0 ∨ (1 : Int) = 1) ∧ Q (some (.inl 1)) s103)))))))))) :
  wp m_Z_canGo (63, [some (.inr (.inr (40, k0, i0))), some (.inl x1), some (.inl x2), o3], [], σ) Q :=
 w_aload_n (p' := 64) f_225_63 rfl rfl
 (w_iload_n (p' := 65) f_225_64 rfl rfl
 (w_iconst (p' := 66) f_225_65 rfl
 (w_callV (p' := 69) f_225_66 rfl rfl rfl rfl rfl (r := []) rfl rfl (kI (.inl rk_196) fun r101 s101 h101 =>
 w_istore_n (p' := 70) f_225_69 (L' := [some (.inr (.inr (40, k0, i0))), some (.inl x1), some (.inl x2), some (.inl r101)]) rfl rfl
 (w_iload_n (p' := 71) f_225_70 rfl rfl
 (w_iconst (p' := 72) f_225_71 rfl
 (w_icmp (p' := 98) (q' := 75) f_225_72 rfl rfl
 (fun c106 => w_iconst (p' := 99) f_225_98 rfl
 (w_zret f_225_99 rk_225 (h101.1 c106).1 (h101.1 c106).2))
 (fun c106 => w_iload_n (p' := 76) f_225_75 rfl rfl
 (w_aload_n (p' := 77) f_225_76 rfl rfl
 (w_iload_n (p' := 78) f_225_77 rfl rfl
 (w_iconst (p' := 79) f_225_78 rfl
 (w_callV (p' := 82) f_225_79 rfl rfl rfl rfl rfl (r := [.inl r101]) rfl rfl (kI (.inl rk_198) fun r102 s102 h102 =>
 w_icmp (p' := 98) (q' := 85) f_225_82 rfl rfl
 (fun c105 => w_iconst (p' := 99) f_225_98 rfl
 (w_zret f_225_99 rk_225 (h102.1 c105).1 (h102.1 c105).2))
 (fun c105 => w_aload_n (p' := 86) f_225_85 rfl rfl
 (w_iload_n (p' := 87) f_225_86 rfl rfl
 (w_iload_n (p' := 88) f_225_87 rfl rfl
 (w_callV (p' := 91) f_225_88 rfl rfl rfl rfl rfl (r := []) rfl rfl (kI (.inl rk_221) fun r103 s103 h103 =>
 w_if (p' := 98) (q' := 94) f_225_91 rfl rfl
 (fun c104 => w_iconst (p' := 99) f_225_98 rfl
 (w_zret f_225_99 rk_225 (h103.1 c104).1 (h103.1 c104).2))
 (fun c104 => w_iconst (p' := 95) f_225_94 rfl
 (w_goto (p' := 99) f_225_95 rfl
 (w_zret f_225_99 rk_225 (h103.2 c104).1 (h103.2 c104).2)))) (h102.2 c105)))))) (h101.2 c106)))))))))) h)))
/-! ClosedRoomsModel.ofCopy(II)I -/
theorem f_226_0 : fnd 226 0 = some (0, .aload_n 0, 1, 0, 0, 0, 0) := ceB_eq (by decide +kernel)
theorem f_226_1 : fnd 226 1 = some (1, .getfield 25, 3, 10, 15, 15, 0) := ceB_eq (by decide +kernel)
theorem f_226_4 : fnd 226 4 = some (4, .sipush 235, 3, 0, 0, 0, 0) := ceB_eq (by decide +kernel)
theorem f_226_7 : fnd 226 7 = some (7, .bipush 9, 2, 0, 0, 0, 0) := ceB_eq (by decide +kernel)
theorem f_226_9 : fnd 226 9 = some (9, .iload_n 1, 1, 0, 0, 0, 0) := ceB_eq (by decide +kernel)
theorem f_226_10 : fnd 226 10 = some (10, .imul, 1, 0, 0, 0, 0) := ceB_eq (by decide +kernel)
theorem f_226_11 : fnd 226 11 = some (11, .iadd, 1, 0, 0, 0, 0) := ceB_eq (by decide +kernel)
theorem f_226_12 : fnd 226 12 = some (12, .iload_n 2, 1, 0, 0, 0, 0) := ceB_eq (by decide +kernel)
theorem f_226_13 : fnd 226 13 = some (13, .iadd, 1, 0, 0, 0, 0) := ceB_eq (by decide +kernel)
theorem f_226_14 : fnd 226 14 = some (14, .iaload, 1, 0, 0, 0, 0) := ceB_eq (by decide +kernel)
theorem f_226_15 : fnd 226 15 = some (15, .ireturn, 1, 0, 0, 0, 0) := ceB_eq (by decide +kernel)
theorem rk_226 : rkm 226 = 0 := by decide +kernel
theorem ml_226 : (mth 226).2.1 = 3 := by decide +kernel
set_option maxRecDepth 100000 in
theorem T_Z_ofCopy (k0 i0 x1 x2 : Int) (σ : ST) (Q : Option AV → ST → Prop) (h :
  ((0 : Int) ≤ (wr ((wr (235 + (wr (9 * x1)))) + x2)) ∧ ((wr ((wr (235 + (wr (9 * x1)))) + x2)) : Int) < 526) ∧
  Q (some (.inl (σ 46 0 0 (wr ((wr (235 + (wr (9 * x1)))) + x2))))) σ) :
  wpM m_Z_ofCopy [.inr (.inr (40, k0, i0)), .inl x1, .inl x2] σ Q :=
 wpM_of ml_226 (L := [some (.inr (.inr (40, k0, i0))), some (.inl x1), some (.inl x2)]) rfl
 (w_aload_n (p' := 1) f_226_0 rfl rfl
 (w_getfield (p' := 4) f_226_1 rfl (x := .inr (.inr (46, 0, 0))) rfl rfl
 (w_sipush (p' := 7) f_226_4 rfl
 (w_bipush (p' := 9) f_226_7 rfl
 (w_iload_n (p' := 10) f_226_9 rfl rfl
 (w_imul (p' := 11) f_226_10 rfl
 (w_iadd (p' := 12) f_226_11 rfl
 (w_iload_n (p' := 13) f_226_12 rfl rfl
 (w_iadd (p' := 14) f_226_13 rfl
 (w_iaload (p' := 15) f_226_14 rfl (n := 526) rfl h.1 rfl
 (w_iret f_226_15 rk_226 h.2)))))))))))
/-! ClosedRoomsModel.freePlace()I -/
theorem f_227_0 : fnd 227 0 = some (0, .iconst 0, 1, 0, 0, 0, 0) := ceB_eq (by decide +kernel)
theorem f_227_1 : fnd 227 1 = some (1, .istore_n 1, 1, 0, 0, 0, 0) := ceB_eq (by decide +kernel)
theorem f_227_2 : fnd 227 2 = some (2, .iload_n 1, 1, 0, 0, 0, 0) := ceB_eq (by decide +kernel)
theorem f_227_3 : fnd 227 3 = some (3, .bipush 12, 2, 0, 0, 0, 0) := ceB_eq (by decide +kernel)
theorem f_227_5 : fnd 227 5 = some (5, .if_icmp .ge 20, 3, 0, 0, 0, 0) := ceB_eq (by decide +kernel)
theorem f_227_8 : fnd 227 8 = some (8, .aload_n 0, 1, 0, 0, 0, 0) := ceB_eq (by decide +kernel)
theorem f_227_9 : fnd 227 9 = some (9, .iload_n 1, 1, 0, 0, 0, 0) := ceB_eq (by decide +kernel)
theorem f_227_10 : fnd 227 10 = some (10, .iconst 0, 1, 0, 0, 0, 0) := ceB_eq (by decide +kernel)
theorem f_227_11 : fnd 227 11 = some (11, .invokevirtual 215, 3, 226, 3, 10, 0) := ceB_eq (by decide +kernel)
theorem f_227_14 : fnd 227 14 = some (14, .ifCond .ne 5, 3, 0, 0, 0, 0) := ceB_eq (by decide +kernel)
theorem f_227_17 : fnd 227 17 = some (17, .iload_n 1, 1, 0, 0, 0, 0) := ceB_eq (by decide +kernel)
theorem f_227_18 : fnd 227 18 = some (18, .ireturn, 1, 0, 0, 0, 0) := ceB_eq (by decide +kernel)
theorem f_227_19 : fnd 227 19 = some (19, .iinc 1 1, 3, 0, 0, 0, 0) := ceB_eq (by decide +kernel)
theorem f_227_22 : fnd 227 22 = some (22, .goto (-20), 3, 0, 0, 0, 0) := ceB_eq (by decide +kernel)
theorem f_227_25 : fnd 227 25 = some (25, .iconst (-1), 1, 0, 0, 0, 0) := ceB_eq (by decide +kernel)
theorem f_227_26 : fnd 227 26 = some (26, .ireturn, 1, 0, 0, 0, 0) := ceB_eq (by decide +kernel)
theorem rk_227 : rkm 227 = 0 := by decide +kernel
theorem ml_227 : (mth 227).2.1 = 2 := by decide +kernel
set_option maxRecDepth 100000 in
theorem T_Z_freePlace (k0 i0 : Int) (σ : ST) (Q : Option AV → ST → Prop) (h :
  wp m_Z_freePlace (2, [some (.inr (.inr (40, k0, i0))), some (.inl 0)], [], σ) Q) :
  wpM m_Z_freePlace [.inr (.inr (40, k0, i0))] σ Q :=
 wpM_of ml_227 (L := [some (.inr (.inr (40, k0, i0))), none]) rfl
 (w_iconst (p' := 1) f_227_0 rfl
 (w_istore_n (p' := 2) f_227_1 (L' := [some (.inr (.inr (40, k0, i0))), some (.inl 0)]) rfl rfl
 (h)))
set_option maxRecDepth 100000 in
theorem T_Z_freePlace_2 (k0 i0 x1 : Int) (σ : ST) (Q : Option AV → ST → Prop) (h :
  (((12 ≤ x1 : Prop) →
    Q (some (.inl (-1))) σ) ∧
  (¬ (12 ≤ x1) →
    wpM m_Z_ofCopy [.inr (.inr (40, k0, i0)), .inl x1, .inl 0] σ (asI fun r101 s101 =>
    (((r101 ≠ 0 : Prop) →
      wp m_Z_freePlace (2, [some (.inr (.inr (40, k0, i0))), some (.inl (wr (x1 + 1)))], [], s101) Q) ∧
    (¬ (r101 ≠ 0) →
      Q (some (.inl x1)) s101)))))) :
  wp m_Z_freePlace (2, [some (.inr (.inr (40, k0, i0))), some (.inl x1)], [], σ) Q :=
 w_iload_n (p' := 3) f_227_2 rfl rfl
 (w_bipush (p' := 5) f_227_3 rfl
 (w_icmp (p' := 25) (q' := 8) f_227_5 rfl rfl
 (fun c103 => w_iconst (p' := 26) f_227_25 rfl
 (w_iret f_227_26 rk_227 (h.1 c103)))
 (fun c103 => w_aload_n (p' := 9) f_227_8 rfl rfl
 (w_iload_n (p' := 10) f_227_9 rfl rfl
 (w_iconst (p' := 11) f_227_10 rfl
 (w_callV (p' := 14) f_227_11 rfl rfl rfl rfl rfl (r := []) rfl rfl (kI (.inl rk_226) fun r101 s101 h101 =>
 w_if (p' := 19) (q' := 17) f_227_14 rfl rfl
 (fun c102 => w_iinc (p' := 22) f_227_19 rfl (L' := [some (.inr (.inr (40, k0, i0))), some (.inl (wr (x1 + 1)))]) rfl rfl
 (w_goto (p' := 2) f_227_22 rfl
 ((h101.1 c102))))
 (fun c102 => w_iload_n (p' := 18) f_227_17 rfl rfl
 (w_iret f_227_18 rk_227 (h101.2 c102)))) (h.2 c103)))))))
/-! ClosedRoomsModel.whyEvict(III)I -/
theorem f_228_0 : fnd 228 0 = some (0, .aload_n 0, 1, 0, 0, 0, 0) := ceB_eq (by decide +kernel)
theorem f_228_1 : fnd 228 1 = some (1, .iload_n 1, 1, 0, 0, 0, 0) := ceB_eq (by decide +kernel)
theorem f_228_2 : fnd 228 2 = some (2, .invokevirtual 276, 3, 218, 2, 10, 0) := ceB_eq (by decide +kernel)
theorem f_228_5 : fnd 228 5 = some (5, .ifCond .eq 11, 3, 0, 0, 0, 0) := ceB_eq (by decide +kernel)
theorem f_228_8 : fnd 228 8 = some (8, .aload_n 0, 1, 0, 0, 0, 0) := ceB_eq (by decide +kernel)
theorem f_228_9 : fnd 228 9 = some (9, .iload_n 2, 1, 0, 0, 0, 0) := ceB_eq (by decide +kernel)
theorem f_228_10 : fnd 228 10 = some (10, .invokevirtual 289, 3, 223, 2, 10, 0) := ceB_eq (by decide +kernel)
theorem f_228_13 : fnd 228 13 = some (13, .ifCond .ne 5, 3, 0, 0, 0, 0) := ceB_eq (by decide +kernel)
theorem f_228_16 : fnd 228 16 = some (16, .iconst 0, 1, 0, 0, 0, 0) := ceB_eq (by decide +kernel)
theorem f_228_17 : fnd 228 17 = some (17, .ireturn, 1, 0, 0, 0, 0) := ceB_eq (by decide +kernel)
theorem f_228_18 : fnd 228 18 = some (18, .iload_n 3, 1, 0, 0, 0, 0) := ceB_eq (by decide +kernel)
theorem f_228_19 : fnd 228 19 = some (19, .iconst 0, 1, 0, 0, 0, 0) := ceB_eq (by decide +kernel)
theorem f_228_20 : fnd 228 20 = some (20, .iconst 3, 1, 0, 0, 0, 0) := ceB_eq (by decide +kernel)
theorem f_228_21 : fnd 228 21 = some (21, .invokestatic 54, 3, 168, 3, 10, 0) := ceB_eq (by decide +kernel)
theorem f_228_24 : fnd 228 24 = some (24, .ifCond .ne 5, 3, 0, 0, 0, 0) := ceB_eq (by decide +kernel)
theorem f_228_27 : fnd 228 27 = some (27, .iconst 1, 1, 0, 0, 0, 0) := ceB_eq (by decide +kernel)
theorem f_228_28 : fnd 228 28 = some (28, .ireturn, 1, 0, 0, 0, 0) := ceB_eq (by decide +kernel)
theorem f_228_29 : fnd 228 29 = some (29, .aload_n 0, 1, 0, 0, 0, 0) := ceB_eq (by decide +kernel)
theorem f_228_30 : fnd 228 30 = some (30, .iload_n 1, 1, 0, 0, 0, 0) := ceB_eq (by decide +kernel)
theorem f_228_31 : fnd 228 31 = some (31, .invokevirtual 292, 3, 225, 2, 10, 0) := ceB_eq (by decide +kernel)
theorem f_228_34 : fnd 228 34 = some (34, .ifCond .eq 15, 3, 0, 0, 0, 0) := ceB_eq (by decide +kernel)
theorem f_228_37 : fnd 228 37 = some (37, .aload_n 0, 1, 0, 0, 0, 0) := ceB_eq (by decide +kernel)
theorem f_228_38 : fnd 228 38 = some (38, .iload_n 2, 1, 0, 0, 0, 0) := ceB_eq (by decide +kernel)
theorem f_228_39 : fnd 228 39 = some (39, .bipush 7, 2, 0, 0, 0, 0) := ceB_eq (by decide +kernel)
theorem f_228_41 : fnd 228 41 = some (41, .iload_n 3, 1, 0, 0, 0, 0) := ceB_eq (by decide +kernel)
theorem f_228_42 : fnd 228 42 = some (42, .iadd, 1, 0, 0, 0, 0) := ceB_eq (by decide +kernel)
theorem f_228_43 : fnd 228 43 = some (43, .invokevirtual 206, 3, 196, 3, 10, 0) := ceB_eq (by decide +kernel)
theorem f_228_46 : fnd 228 46 = some (46, .ifCond .eq 7, 3, 0, 0, 0, 0) := ceB_eq (by decide +kernel)
theorem f_228_49 : fnd 228 49 = some (49, .iconst 2, 1, 0, 0, 0, 0) := ceB_eq (by decide +kernel)
theorem f_228_50 : fnd 228 50 = some (50, .goto 16, 3, 0, 0, 0, 0) := ceB_eq (by decide +kernel)
theorem f_228_53 : fnd 228 53 = some (53, .aload_n 0, 1, 0, 0, 0, 0) := ceB_eq (by decide +kernel)
theorem f_228_54 : fnd 228 54 = some (54, .invokevirtual 295, 3, 227, 1, 10, 0) := ceB_eq (by decide +kernel)
theorem f_228_57 : fnd 228 57 = some (57, .iconst (-1), 1, 0, 0, 0, 0) := ceB_eq (by decide +kernel)
theorem f_228_58 : fnd 228 58 = some (58, .if_icmp .ne 7, 3, 0, 0, 0, 0) := ceB_eq (by decide +kernel)
theorem f_228_61 : fnd 228 61 = some (61, .iconst 3, 1, 0, 0, 0, 0) := ceB_eq (by decide +kernel)
theorem f_228_62 : fnd 228 62 = some (62, .goto 4, 3, 0, 0, 0, 0) := ceB_eq (by decide +kernel)
theorem f_228_65 : fnd 228 65 = some (65, .iconst (-1), 1, 0, 0, 0, 0) := ceB_eq (by decide +kernel)
theorem f_228_66 : fnd 228 66 = some (66, .ireturn, 1, 0, 0, 0, 0) := ceB_eq (by decide +kernel)
theorem rk_228 : rkm 228 = 0 := by decide +kernel
theorem ml_228 : (mth 228).2.1 = 4 := by decide +kernel
set_option maxRecDepth 100000 in
theorem T_Z_whyEvict (k0 i0 x1 x2 x3 : Int) (σ : ST) (Q : Option AV → ST → Prop) (h :
  wpM m_Z_isUsed [.inr (.inr (40, k0, i0)), .inl x1] σ (asI fun r101 s101 =>
  (((r101 = 0 : Prop) →
    Q (some (.inl 0)) s101) ∧
  (¬ (r101 = 0) →
    wpM m_Z_areSlots [.inr (.inr (40, k0, i0)), .inl x2] s101 (asI fun r102 s102 =>
    (((r102 ≠ 0 : Prop) →
      wpM m_Z_in [.inl x3, .inl 0, .inl 3] s102 (asI fun r103 s103 =>
      (((r103 ≠ 0 : Prop) →
        wpM m_Z_canGo [.inr (.inr (40, k0, i0)), .inl x1] s103 (asI fun r104 s104 =>
        (((r104 = 0 : Prop) →
          Q (some (.inl 2)) s104) ∧
        (¬ (r104 = 0) →
          wpM m_Z_ofPage [.inr (.inr (40, k0, i0)), .inl x2, .inl (wr (7 + x3))] s104 (asI fun r105 s105 =>
          (((r105 = 0 : Prop) →
            wpM m_Z_freePlace [.inr (.inr (40, k0, i0))] s105 (asI fun r106 s106 =>
            (((r106 ≠ (-1) : Prop) →
              Q (some (.inl (-1))) s106) ∧
            (¬ (r106 ≠ (-1)) →
              Q (some (.inl 3)) s106)))) ∧
          (¬ (r105 = 0) →
            Q (some (.inl 2)) s105))))))) ∧
      (¬ (r103 ≠ 0) →
        Q (some (.inl 1)) s103)))) ∧
    (¬ (r102 ≠ 0) →
      Q (some (.inl 0)) s102))))))) :
  wpM m_Z_whyEvict [.inr (.inr (40, k0, i0)), .inl x1, .inl x2, .inl x3] σ Q :=
 wpM_of ml_228 (L := [some (.inr (.inr (40, k0, i0))), some (.inl x1), some (.inl x2), some (.inl x3)]) rfl
 (w_aload_n (p' := 1) f_228_0 rfl rfl
 (w_iload_n (p' := 2) f_228_1 rfl rfl
 (w_callV (p' := 5) f_228_2 rfl rfl rfl rfl rfl (r := []) rfl rfl (kI (.inr rk_218) fun r101 s101 h101 =>
 w_if (p' := 16) (q' := 8) f_228_5 rfl rfl
 (fun c112 => w_iconst (p' := 17) f_228_16 rfl
 (w_iret f_228_17 rk_228 (h101.1 c112)))
 (fun c112 => w_aload_n (p' := 9) f_228_8 rfl rfl
 (w_iload_n (p' := 10) f_228_9 rfl rfl
 (w_callV (p' := 13) f_228_10 rfl rfl rfl rfl rfl (r := []) rfl rfl (kI (.inr rk_223) fun r102 s102 h102 =>
 w_if (p' := 18) (q' := 16) f_228_13 rfl rfl
 (fun c111 => w_iload_n (p' := 19) f_228_18 rfl rfl
 (w_iconst (p' := 20) f_228_19 rfl
 (w_iconst (p' := 21) f_228_20 rfl
 (w_callS (p' := 24) f_228_21 rfl rfl rfl (r := []) rfl rfl (kI (.inr rk_168) fun r103 s103 h103 =>
 w_if (p' := 29) (q' := 27) f_228_24 rfl rfl
 (fun c110 => w_aload_n (p' := 30) f_228_29 rfl rfl
 (w_iload_n (p' := 31) f_228_30 rfl rfl
 (w_callV (p' := 34) f_228_31 rfl rfl rfl rfl rfl (r := []) rfl rfl (kI (.inr rk_225) fun r104 s104 h104 =>
 w_if (p' := 49) (q' := 37) f_228_34 rfl rfl
 (fun c109 => w_iconst (p' := 50) f_228_49 rfl
 (w_goto (p' := 66) f_228_50 rfl
 (w_iret f_228_66 rk_228 (h104.1 c109))))
 (fun c109 => w_aload_n (p' := 38) f_228_37 rfl rfl
 (w_iload_n (p' := 39) f_228_38 rfl rfl
 (w_bipush (p' := 41) f_228_39 rfl
 (w_iload_n (p' := 42) f_228_41 rfl rfl
 (w_iadd (p' := 43) f_228_42 rfl
 (w_callV (p' := 46) f_228_43 rfl rfl rfl rfl rfl (r := []) rfl rfl (kI (.inl rk_196) fun r105 s105 h105 =>
 w_if (p' := 53) (q' := 49) f_228_46 rfl rfl
 (fun c108 => w_aload_n (p' := 54) f_228_53 rfl rfl
 (w_callV (p' := 57) f_228_54 rfl rfl rfl rfl rfl (r := []) rfl rfl (kI (.inl rk_227) fun r106 s106 h106 =>
 w_iconst (p' := 58) f_228_57 rfl
 (w_icmp (p' := 65) (q' := 61) f_228_58 rfl rfl
 (fun c107 => w_iconst (p' := 66) f_228_65 rfl
 (w_iret f_228_66 rk_228 (h106.1 c107)))
 (fun c107 => w_iconst (p' := 62) f_228_61 rfl
 (w_goto (p' := 66) f_228_62 rfl
 (w_iret f_228_66 rk_228 (h106.2 c107)))))) (h105.1 c108)))
 (fun c108 => w_iconst (p' := 50) f_228_49 rfl
 (w_goto (p' := 66) f_228_50 rfl
 (w_iret f_228_66 rk_228 (h105.2 c108))))) (h104.2 c109)))))))) (h103.1 c110))))
 (fun c110 => w_iconst (p' := 28) f_228_27 rfl
 (w_iret f_228_28 rk_228 (h103.2 c110)))) (h102.1 c111)))))
 (fun c111 => w_iconst (p' := 17) f_228_16 rfl
 (w_iret f_228_17 rk_228 (h102.2 c111)))) (h101.2 c112))))) h)))
/-! ClosedRoomsModel.isCopy(I)Z -/
theorem f_229_0 : fnd 229 0 = some (0, .aload_n 0, 1, 0, 0, 0, 0) := ceB_eq (by decide +kernel)
theorem f_229_1 : fnd 229 1 = some (1, .getfield 199, 3, 10, 11, 11, 0) := ceB_eq (by decide +kernel)
theorem f_229_4 : fnd 229 4 = some (4, .ifCond .eq 27, 3, 0, 0, 0, 0) := ceB_eq (by decide +kernel)
theorem f_229_7 : fnd 229 7 = some (7, .iload_n 1, 1, 0, 0, 0, 0) := ceB_eq (by decide +kernel)
theorem f_229_8 : fnd 229 8 = some (8, .iconst 0, 1, 0, 0, 0, 0) := ceB_eq (by decide +kernel)
theorem f_229_9 : fnd 229 9 = some (9, .bipush 11, 2, 0, 0, 0, 0) := ceB_eq (by decide +kernel)
theorem f_229_11 : fnd 229 11 = some (11, .invokestatic 54, 3, 168, 3, 10, 0) := ceB_eq (by decide +kernel)
theorem f_229_14 : fnd 229 14 = some (14, .ifCond .eq 17, 3, 0, 0, 0, 0) := ceB_eq (by decide +kernel)
theorem f_229_17 : fnd 229 17 = some (17, .aload_n 0, 1, 0, 0, 0, 0) := ceB_eq (by decide +kernel)
theorem f_229_18 : fnd 229 18 = some (18, .iload_n 1, 1, 0, 0, 0, 0) := ceB_eq (by decide +kernel)
theorem f_229_19 : fnd 229 19 = some (19, .iconst 0, 1, 0, 0, 0, 0) := ceB_eq (by decide +kernel)
theorem f_229_20 : fnd 229 20 = some (20, .invokevirtual 215, 3, 226, 3, 10, 0) := ceB_eq (by decide +kernel)
theorem f_229_23 : fnd 229 23 = some (23, .iconst 1, 1, 0, 0, 0, 0) := ceB_eq (by decide +kernel)
theorem f_229_24 : fnd 229 24 = some (24, .if_icmp .ne 7, 3, 0, 0, 0, 0) := ceB_eq (by decide +kernel)
theorem f_229_27 : fnd 229 27 = some (27, .iconst 1, 1, 0, 0, 0, 0) := ceB_eq (by decide +kernel)
theorem f_229_28 : fnd 229 28 = some (28, .goto 4, 3, 0, 0, 0, 0) := ceB_eq (by decide +kernel)
theorem f_229_31 : fnd 229 31 = some (31, .iconst 0, 1, 0, 0, 0, 0) := ceB_eq (by decide +kernel)
theorem f_229_32 : fnd 229 32 = some (32, .ireturn, 1, 0, 0, 0, 0) := ceB_eq (by decide +kernel)
theorem rk_229 : rkm 229 = 1 := by decide +kernel
theorem ml_229 : (mth 229).2.1 = 2 := by decide +kernel
set_option maxRecDepth 100000 in
theorem T_Z_isCopy (k0 i0 x1 : Int) (σ : ST) (Q : Option AV → ST → Prop) (h :
  ((((bz (σ 40 k0 i0 11)) = 0 : Prop) →
    ((0 : Int) = 0 ∨ (0 : Int) = 1) ∧ Q (some (.inl 0)) σ) ∧
  (¬ ((bz (σ 40 k0 i0 11)) = 0) →
    wpM m_Z_in [.inl x1, .inl 0, .inl 11] σ (asI fun r101 s101 =>
    (((r101 = 0 : Prop) →
      ((0 : Int) = 0 ∨ (0 : Int) = 1) ∧ Q (some (.inl 0)) s101) ∧
    (¬ (r101 = 0) →
      wpM m_Z_ofCopy [.inr (.inr (40, k0, i0)), .inl x1, .inl 0] s101 (asI fun r102 s102 =>
      (((r102 ≠ 1 : Prop) →
        ((0 : Int) = 0 ∨ (0 : Int) = 1) ∧ Q (some (.inl 0)) s102) ∧
      (¬ (r102 ≠ 1) →
        ((1 : Int) = 0 ∨ (1 : Int) = 1) ∧ Q (some (.inl 1)) s102))))))))) :
  wpM m_Z_isCopy [.inr (.inr (40, k0, i0)), .inl x1] σ Q :=
 wpM_of ml_229 (L := [some (.inr (.inr (40, k0, i0))), some (.inl x1)]) rfl
 (w_aload_n (p' := 1) f_229_0 rfl rfl
 (w_getfield (p' := 4) f_229_1 rfl (x := .inl (bz (σ 40 k0 i0 11))) rfl rfl
 (w_if (p' := 31) (q' := 7) f_229_4 rfl rfl
 (fun c105 => w_iconst (p' := 32) f_229_31 rfl
 (w_zret f_229_32 rk_229 (h.1 c105).1 (h.1 c105).2))
 (fun c105 => w_iload_n (p' := 8) f_229_7 rfl rfl
 (w_iconst (p' := 9) f_229_8 rfl
 (w_bipush (p' := 11) f_229_9 rfl
 (w_callS (p' := 14) f_229_11 rfl rfl rfl (r := []) rfl rfl (kI (.inr rk_168) fun r101 s101 h101 =>
 w_if (p' := 31) (q' := 17) f_229_14 rfl rfl
 (fun c104 => w_iconst (p' := 32) f_229_31 rfl
 (w_zret f_229_32 rk_229 (h101.1 c104).1 (h101.1 c104).2))
 (fun c104 => w_aload_n (p' := 18) f_229_17 rfl rfl
 (w_iload_n (p' := 19) f_229_18 rfl rfl
 (w_iconst (p' := 20) f_229_19 rfl
 (w_callV (p' := 23) f_229_20 rfl rfl rfl rfl rfl (r := []) rfl rfl (kI (.inl rk_226) fun r102 s102 h102 =>
 w_iconst (p' := 24) f_229_23 rfl
 (w_icmp (p' := 31) (q' := 27) f_229_24 rfl rfl
 (fun c103 => w_iconst (p' := 32) f_229_31 rfl
 (w_zret f_229_32 rk_229 (h102.1 c103).1 (h102.1 c103).2))
 (fun c103 => w_iconst (p' := 28) f_229_27 rfl
 (w_goto (p' := 32) f_229_28 rfl
 (w_zret f_229_32 rk_229 (h102.2 c103).1 (h102.2 c103).2))))) (h101.2 c104)))))) (h.2 c105))))))))
/-! ClosedRoomsModel.roomBy(I)I -/
theorem f_230_0 : fnd 230 0 = some (0, .iconst 0, 1, 0, 0, 0, 0) := ceB_eq (by decide +kernel)
theorem f_230_1 : fnd 230 1 = some (1, .istore_n 2, 1, 0, 0, 0, 0) := ceB_eq (by decide +kernel)
theorem f_230_2 : fnd 230 2 = some (2, .iload_n 2, 1, 0, 0, 0, 0) := ceB_eq (by decide +kernel)
theorem f_230_3 : fnd 230 3 = some (3, .iconst 4, 1, 0, 0, 0, 0) := ceB_eq (by decide +kernel)
theorem f_230_4 : fnd 230 4 = some (4, .if_icmp .ge 29, 3, 0, 0, 0, 0) := ceB_eq (by decide +kernel)
theorem f_230_7 : fnd 230 7 = some (7, .aload_n 0, 1, 0, 0, 0, 0) := ceB_eq (by decide +kernel)
theorem f_230_8 : fnd 230 8 = some (8, .iload_n 2, 1, 0, 0, 0, 0) := ceB_eq (by decide +kernel)
theorem f_230_9 : fnd 230 9 = some (9, .invokevirtual 252, 3, 201, 2, 10, 0) := ceB_eq (by decide +kernel)
theorem f_230_12 : fnd 230 12 = some (12, .ifCond .eq 15, 3, 0, 0, 0, 0) := ceB_eq (by decide +kernel)
theorem f_230_15 : fnd 230 15 = some (15, .aload_n 0, 1, 0, 0, 0, 0) := ceB_eq (by decide +kernel)
theorem f_230_16 : fnd 230 16 = some (16, .iload_n 2, 1, 0, 0, 0, 0) := ceB_eq (by decide +kernel)
theorem f_230_17 : fnd 230 17 = some (17, .iconst 1, 1, 0, 0, 0, 0) := ceB_eq (by decide +kernel)
theorem f_230_18 : fnd 230 18 = some (18, .invokevirtual 209, 3, 198, 3, 10, 0) := ceB_eq (by decide +kernel)
theorem f_230_21 : fnd 230 21 = some (21, .iload_n 1, 1, 0, 0, 0, 0) := ceB_eq (by decide +kernel)
theorem f_230_22 : fnd 230 22 = some (22, .if_icmp .ne 5, 3, 0, 0, 0, 0) := ceB_eq (by decide +kernel)
theorem f_230_25 : fnd 230 25 = some (25, .iload_n 2, 1, 0, 0, 0, 0) := ceB_eq (by decide +kernel)
theorem f_230_26 : fnd 230 26 = some (26, .ireturn, 1, 0, 0, 0, 0) := ceB_eq (by decide +kernel)
theorem f_230_27 : fnd 230 27 = some (27, .iinc 2 1, 3, 0, 0, 0, 0) := ceB_eq (by decide +kernel)
theorem f_230_30 : fnd 230 30 = some (30, .goto (-28), 3, 0, 0, 0, 0) := ceB_eq (by decide +kernel)
theorem f_230_33 : fnd 230 33 = some (33, .iconst (-1), 1, 0, 0, 0, 0) := ceB_eq (by decide +kernel)
theorem f_230_34 : fnd 230 34 = some (34, .ireturn, 1, 0, 0, 0, 0) := ceB_eq (by decide +kernel)
theorem rk_230 : rkm 230 = 0 := by decide +kernel
theorem ml_230 : (mth 230).2.1 = 3 := by decide +kernel
set_option maxRecDepth 100000 in
theorem T_Z_roomBy (k0 i0 x1 : Int) (σ : ST) (Q : Option AV → ST → Prop) (h :
  wp m_Z_roomBy (2, [some (.inr (.inr (40, k0, i0))), some (.inl x1), some (.inl 0)], [], σ) Q) :
  wpM m_Z_roomBy [.inr (.inr (40, k0, i0)), .inl x1] σ Q :=
 wpM_of ml_230 (L := [some (.inr (.inr (40, k0, i0))), some (.inl x1), none]) rfl
 (w_iconst (p' := 1) f_230_0 rfl
 (w_istore_n (p' := 2) f_230_1 (L' := [some (.inr (.inr (40, k0, i0))), some (.inl x1), some (.inl 0)]) rfl rfl
 (h)))
set_option maxRecDepth 100000 in
theorem T_Z_roomBy_2 (k0 i0 x1 x2 : Int) (σ : ST) (Q : Option AV → ST → Prop) (h :
  (((4 ≤ x2 : Prop) →
    Q (some (.inl (-1))) σ) ∧
  (¬ (4 ≤ x2) →
    wpM m_Z_isRoom [.inr (.inr (40, k0, i0)), .inl x2] σ (asI fun r101 s101 =>
    (((r101 = 0 : Prop) →
      wp m_Z_roomBy (2, [some (.inr (.inr (40, k0, i0))), some (.inl x1), some (.inl (wr (x2 + 1)))], [], s101) Q) ∧
    (¬ (r101 = 0) →
      wpM m_Z_ofRoom [.inr (.inr (40, k0, i0)), .inl x2, .inl 1] s101 (asI fun r102 s102 =>
      (((r102 ≠ x1 : Prop) →
        wp m_Z_roomBy (2, [some (.inr (.inr (40, k0, i0))), some (.inl x1), some (.inl (wr (x2 + 1)))], [], s102) Q) ∧
      (¬ (r102 ≠ x1) →
        Q (some (.inl x2)) s102))))))))) :
  wp m_Z_roomBy (2, [some (.inr (.inr (40, k0, i0))), some (.inl x1), some (.inl x2)], [], σ) Q :=
 w_iload_n (p' := 3) f_230_2 rfl rfl
 (w_iconst (p' := 4) f_230_3 rfl
 (w_icmp (p' := 33) (q' := 7) f_230_4 rfl rfl
 (fun c105 => w_iconst (p' := 34) f_230_33 rfl
 (w_iret f_230_34 rk_230 (h.1 c105)))
 (fun c105 => w_aload_n (p' := 8) f_230_7 rfl rfl
 (w_iload_n (p' := 9) f_230_8 rfl rfl
 (w_callV (p' := 12) f_230_9 rfl rfl rfl rfl rfl (r := []) rfl rfl (kI (.inr rk_201) fun r101 s101 h101 =>
 w_if (p' := 27) (q' := 15) f_230_12 rfl rfl
 (fun c104 => w_iinc (p' := 30) f_230_27 rfl (L' := [some (.inr (.inr (40, k0, i0))), some (.inl x1), some (.inl (wr (x2 + 1)))]) rfl rfl
 (w_goto (p' := 2) f_230_30 rfl
 ((h101.1 c104))))
 (fun c104 => w_aload_n (p' := 16) f_230_15 rfl rfl
 (w_iload_n (p' := 17) f_230_16 rfl rfl
 (w_iconst (p' := 18) f_230_17 rfl
 (w_callV (p' := 21) f_230_18 rfl rfl rfl rfl rfl (r := []) rfl rfl (kI (.inl rk_198) fun r102 s102 h102 =>
 w_iload_n (p' := 22) f_230_21 rfl rfl
 (w_icmp (p' := 27) (q' := 25) f_230_22 rfl rfl
 (fun c103 => w_iinc (p' := 30) f_230_27 rfl (L' := [some (.inr (.inr (40, k0, i0))), some (.inl x1), some (.inl (wr (x2 + 1)))]) rfl rfl
 (w_goto (p' := 2) f_230_30 rfl
 ((h102.1 c103))))
 (fun c103 => w_iload_n (p' := 26) f_230_25 rfl rfl
 (w_iret f_230_26 rk_230 (h102.2 c103))))) (h101.2 c104)))))) (h.2 c105))))))
/-! ClosedRoomsModel.isTrue(III)Z -/
theorem f_231_0 : fnd 231 0 = some (0, .aload_n 0, 1, 0, 0, 0, 0) := ceB_eq (by decide +kernel)
theorem f_231_1 : fnd 231 1 = some (1, .aload_n 0, 1, 0, 0, 0, 0) := ceB_eq (by decide +kernel)
theorem f_231_2 : fnd 231 2 = some (2, .iload_n 1, 1, 0, 0, 0, 0) := ceB_eq (by decide +kernel)
theorem f_231_3 : fnd 231 3 = some (3, .iconst 1, 1, 0, 0, 0, 0) := ceB_eq (by decide +kernel)
theorem f_231_4 : fnd 231 4 = some (4, .invokevirtual 215, 3, 226, 3, 10, 0) := ceB_eq (by decide +kernel)
theorem f_231_7 : fnd 231 7 = some (7, .invokevirtual 298, 3, 230, 2, 10, 0) := ceB_eq (by decide +kernel)
theorem f_231_10 : fnd 231 10 = some (10, .istore 4, 2, 0, 0, 0, 0) := ceB_eq (by decide +kernel)
theorem f_231_12 : fnd 231 12 = some (12, .aload_n 0, 1, 0, 0, 0, 0) := ceB_eq (by decide +kernel)
theorem f_231_13 : fnd 231 13 = some (13, .iload_n 1, 1, 0, 0, 0, 0) := ceB_eq (by decide +kernel)
theorem f_231_14 : fnd 231 14 = some (14, .bipush 8, 2, 0, 0, 0, 0) := ceB_eq (by decide +kernel)
theorem f_231_16 : fnd 231 16 = some (16, .invokevirtual 215, 3, 226, 3, 10, 0) := ceB_eq (by decide +kernel)
theorem f_231_19 : fnd 231 19 = some (19, .ifCond .ne 32, 3, 0, 0, 0, 0) := ceB_eq (by decide +kernel)
theorem f_231_22 : fnd 231 22 = some (22, .aload_n 0, 1, 0, 0, 0, 0) := ceB_eq (by decide +kernel)
theorem f_231_23 : fnd 231 23 = some (23, .iload_n 1, 1, 0, 0, 0, 0) := ceB_eq (by decide +kernel)
theorem f_231_24 : fnd 231 24 = some (24, .bipush 7, 2, 0, 0, 0, 0) := ceB_eq (by decide +kernel)
theorem f_231_26 : fnd 231 26 = some (26, .invokevirtual 215, 3, 226, 3, 10, 0) := ceB_eq (by decide +kernel)
theorem f_231_29 : fnd 231 29 = some (29, .aload_n 0, 1, 0, 0, 0, 0) := ceB_eq (by decide +kernel)
theorem f_231_30 : fnd 231 30 = some (30, .iload_n 2, 1, 0, 0, 0, 0) := ceB_eq (by decide +kernel)
theorem f_231_31 : fnd 231 31 = some (31, .bipush 7, 2, 0, 0, 0, 0) := ceB_eq (by decide +kernel)
theorem f_231_33 : fnd 231 33 = some (33, .iload_n 3, 1, 0, 0, 0, 0) := ceB_eq (by decide +kernel)
theorem f_231_34 : fnd 231 34 = some (34, .iadd, 1, 0, 0, 0, 0) := ceB_eq (by decide +kernel)
theorem f_231_35 : fnd 231 35 = some (35, .invokevirtual 206, 3, 196, 3, 10, 0) := ceB_eq (by decide +kernel)
theorem f_231_38 : fnd 231 38 = some (38, .if_icmp .ne 13, 3, 0, 0, 0, 0) := ceB_eq (by decide +kernel)
theorem f_231_41 : fnd 231 41 = some (41, .iload 4, 2, 0, 0, 0, 0) := ceB_eq (by decide +kernel)
theorem f_231_43 : fnd 231 43 = some (43, .iconst (-1), 1, 0, 0, 0, 0) := ceB_eq (by decide +kernel)
theorem f_231_44 : fnd 231 44 = some (44, .if_icmp .eq 7, 3, 0, 0, 0, 0) := ceB_eq (by decide +kernel)
theorem f_231_47 : fnd 231 47 = some (47, .iconst 1, 1, 0, 0, 0, 0) := ceB_eq (by decide +kernel)
theorem f_231_48 : fnd 231 48 = some (48, .goto 4, 3, 0, 0, 0, 0) := ceB_eq (by decide +kernel)
theorem f_231_51 : fnd 231 51 = some (51, .iconst 0, 1, 0, 0, 0, 0) := ceB_eq (by decide +kernel)
theorem f_231_52 : fnd 231 52 = some (52, .istore 5, 2, 0, 0, 0, 0) := ceB_eq (by decide +kernel)
theorem f_231_54 : fnd 231 54 = some (54, .iload 5, 2, 0, 0, 0, 0) := ceB_eq (by decide +kernel)
theorem f_231_56 : fnd 231 56 = some (56, .ifCond .eq 26, 3, 0, 0, 0, 0) := ceB_eq (by decide +kernel)
theorem f_231_59 : fnd 231 59 = some (59, .aload_n 0, 1, 0, 0, 0, 0) := ceB_eq (by decide +kernel)
theorem f_231_60 : fnd 231 60 = some (60, .iload_n 1, 1, 0, 0, 0, 0) := ceB_eq (by decide +kernel)
theorem f_231_61 : fnd 231 61 = some (61, .iconst 3, 1, 0, 0, 0, 0) := ceB_eq (by decide +kernel)
theorem f_231_62 : fnd 231 62 = some (62, .invokevirtual 215, 3, 226, 3, 10, 0) := ceB_eq (by decide +kernel)
theorem f_231_65 : fnd 231 65 = some (65, .iconst 1, 1, 0, 0, 0, 0) := ceB_eq (by decide +kernel)
theorem f_231_66 : fnd 231 66 = some (66, .if_icmp .eq 12, 3, 0, 0, 0, 0) := ceB_eq (by decide +kernel)
theorem f_231_69 : fnd 231 69 = some (69, .aload_n 0, 1, 0, 0, 0, 0) := ceB_eq (by decide +kernel)
theorem f_231_70 : fnd 231 70 = some (70, .iload 4, 2, 0, 0, 0, 0) := ceB_eq (by decide +kernel)
theorem f_231_72 : fnd 231 72 = some (72, .invokevirtual 258, 3, 203, 2, 10, 0) := ceB_eq (by decide +kernel)
theorem f_231_75 : fnd 231 75 = some (75, .ifCond .ne 7, 3, 0, 0, 0, 0) := ceB_eq (by decide +kernel)
theorem f_231_78 : fnd 231 78 = some (78, .iconst 1, 1, 0, 0, 0, 0) := ceB_eq (by decide +kernel)
theorem f_231_79 : fnd 231 79 = some (79, .goto 4, 3, 0, 0, 0, 0) := ceB_eq (by decide +kernel)
theorem f_231_82 : fnd 231 82 = some (82, .iconst 0, 1, 0, 0, 0, 0) := ceB_eq (by decide +kernel)
theorem f_231_83 : fnd 231 83 = some (83, .ireturn, 1, 0, 0, 0, 0) := ceB_eq (by decide +kernel)
theorem rk_231 : rkm 231 = 1 := by decide +kernel
theorem ml_231 : (mth 231).2.1 = 6 := by decide +kernel
set_option maxRecDepth 100000 in
theorem T_Z_isTrue (k0 i0 x1 x2 x3 : Int) (σ : ST) (Q : Option AV → ST → Prop) (h :
  wpM m_Z_ofCopy [.inr (.inr (40, k0, i0)), .inl x1, .inl 1] σ (asI fun r101 s101 =>
  wpM m_Z_roomBy [.inr (.inr (40, k0, i0)), .inl r101] s101 (asI fun r102 s102 =>
  wpM m_Z_ofCopy [.inr (.inr (40, k0, i0)), .inl x1, .inl 8] s102 (asI fun r103 s103 =>
  (((r103 ≠ 0 : Prop) →
    wp m_Z_isTrue (52, [some (.inr (.inr (40, k0, i0))), some (.inl x1), some (.inl x2), some (.inl x3), some (.inl r102), none], [.inl 0], s103) Q) ∧
  (¬ (r103 ≠ 0) →
    wpM m_Z_ofCopy [.inr (.inr (40, k0, i0)), .inl x1, .inl 7] s103 (asI fun r104 s104 =>
    wpM m_Z_ofPage [.inr (.inr (40, k0, i0)), .inl x2, .inl (wr (7 + x3))] s104 (asI fun r105 s105 =>
    (((r104 ≠ r105 : Prop) →
      wp m_Z_isTrue (52, [some (.inr (.inr (40, k0, i0))), some (.inl x1), some (.inl x2), some (.inl x3), some (.inl r102), none], [.inl 0], s105) Q) ∧
    (¬ (r104 ≠ r105) →
      (((r102 = (-1) : Prop) →
        wp m_Z_isTrue (52, [some (.inr (.inr (40, k0, i0))), some (.inl x1), some (.inl x2), some (.inl x3), some (.inl r102), none], [.inl 0], s105) Q) ∧
      (¬ (r102 = (-1)) →
        wp m_Z_isTrue (52, [some (.inr (.inr (40, k0, i0))), some (.inl x1), some (.inl x2), some (.inl x3), some (.inl r102), none], [.inl 1], s105) Q)))))))))))) :
  wpM m_Z_isTrue [.inr (.inr (40, k0, i0)), .inl x1, .inl x2, .inl x3] σ Q :=
 wpM_of ml_231 (L := [some (.inr (.inr (40, k0, i0))), some (.inl x1), some (.inl x2), some (.inl x3), none, none]) rfl
 (w_aload_n (p' := 1) f_231_0 rfl rfl
 (w_aload_n (p' := 2) f_231_1 rfl rfl
 (w_iload_n (p' := 3) f_231_2 rfl rfl
 (w_iconst (p' := 4) f_231_3 rfl
 (w_callV (p' := 7) f_231_4 rfl rfl rfl rfl rfl (r := [.inr (.inr (40, k0, i0))]) rfl rfl (kI (.inl rk_226) fun r101 s101 h101 =>
 w_callV (p' := 10) f_231_7 rfl rfl rfl rfl rfl (r := []) rfl rfl (kI (.inl rk_230) fun r102 s102 h102 =>
 w_istore (p' := 12) f_231_10 (L' := [some (.inr (.inr (40, k0, i0))), some (.inl x1), some (.inl x2), some (.inl x3), some (.inl r102), none]) rfl rfl
 (w_aload_n (p' := 13) f_231_12 rfl rfl
 (w_iload_n (p' := 14) f_231_13 rfl rfl
 (w_bipush (p' := 16) f_231_14 rfl
 (w_callV (p' := 19) f_231_16 rfl rfl rfl rfl rfl (r := []) rfl rfl (kI (.inl rk_226) fun r103 s103 h103 =>
 w_if (p' := 51) (q' := 22) f_231_19 rfl rfl
 (fun c108 => w_iconst (p' := 52) f_231_51 rfl
 ((h103.1 c108)))
 (fun c108 => w_aload_n (p' := 23) f_231_22 rfl rfl
 (w_iload_n (p' := 24) f_231_23 rfl rfl
 (w_bipush (p' := 26) f_231_24 rfl
 (w_callV (p' := 29) f_231_26 rfl rfl rfl rfl rfl (r := []) rfl rfl (kI (.inl rk_226) fun r104 s104 h104 =>
 w_aload_n (p' := 30) f_231_29 rfl rfl
 (w_iload_n (p' := 31) f_231_30 rfl rfl
 (w_bipush (p' := 33) f_231_31 rfl
 (w_iload_n (p' := 34) f_231_33 rfl rfl
 (w_iadd (p' := 35) f_231_34 rfl
 (w_callV (p' := 38) f_231_35 rfl rfl rfl rfl rfl (r := [.inl r104]) rfl rfl (kI (.inl rk_196) fun r105 s105 h105 =>
 w_icmp (p' := 51) (q' := 41) f_231_38 rfl rfl
 (fun c107 => w_iconst (p' := 52) f_231_51 rfl
 ((h105.1 c107)))
 (fun c107 => w_iload (p' := 43) f_231_41 rfl rfl
 (w_iconst (p' := 44) f_231_43 rfl
 (w_icmp (p' := 51) (q' := 47) f_231_44 rfl rfl
 (fun c106 => w_iconst (p' := 52) f_231_51 rfl
 (((h105.2 c107).1 c106)))
 (fun c106 => w_iconst (p' := 48) f_231_47 rfl
 (w_goto (p' := 52) f_231_48 rfl
 (((h105.2 c107).2 c106)))))))) h104)))))) (h103.2 c108)))))) h102))))) h101) h)))))
set_option maxRecDepth 100000 in
theorem T_Z_isTrue_52 (k0 i0 x1 x4 t0 : Int) (o2 o3 o5 : Option AV) (σ : ST) (Q : Option AV → ST → Prop) (h :
  (((t0 = 0 : Prop) →
    ((0 : Int) = 0 ∨ (0 : Int) = 1) ∧ Q (some (.inl 0)) σ) ∧
  (¬ (t0 = 0) →
    wpM m_Z_ofCopy [.inr (.inr (40, k0, i0)), .inl x1, .inl 3] σ (asI fun r101 s101 =>
    (((r101 = 1 : Prop) →
      ((1 : Int) = 0 ∨ (1 : Int) = 1) ∧ Q (some (.inl 1)) s101) ∧
    (¬ (r101 = 1) →
      wpM m_Z_isAway [.inr (.inr (40, k0, i0)), .inl x4] s101 (asI fun r102 s102 =>
      (((r102 ≠ 0 : Prop) →
        ((0 : Int) = 0 ∨ (0 : Int) = 1) ∧ Q (some (.inl 0)) s102) ∧
      (¬ (r102 ≠ 0) →
        ((1 : Int) = 0 ∨ (1 : Int) = 1) ∧ Q (some (.inl 1)) s102))))))))) :
  wp m_Z_isTrue (52, [some (.inr (.inr (40, k0, i0))), some (.inl x1), o2, o3, some (.inl x4), o5], [.inl t0], σ) Q :=
 w_istore (p' := 54) f_231_52 (L' := [some (.inr (.inr (40, k0, i0))), some (.inl x1), o2, o3, some (.inl x4), some (.inl t0)]) rfl rfl
 (w_iload (p' := 56) f_231_54 rfl rfl
 (w_if (p' := 82) (q' := 59) f_231_56 rfl rfl
 (fun c105 => w_iconst (p' := 83) f_231_82 rfl
 (w_zret f_231_83 rk_231 (h.1 c105).1 (h.1 c105).2))
 (fun c105 => w_aload_n (p' := 60) f_231_59 rfl rfl
 (w_iload_n (p' := 61) f_231_60 rfl rfl
 (w_iconst (p' := 62) f_231_61 rfl
 (w_callV (p' := 65) f_231_62 rfl rfl rfl rfl rfl (r := []) rfl rfl (kI (.inl rk_226) fun r101 s101 h101 =>
 w_iconst (p' := 66) f_231_65 rfl
 (w_icmp (p' := 78) (q' := 69) f_231_66 rfl rfl
 (fun c104 => w_iconst (p' := 79) f_231_78 rfl
 (w_goto (p' := 83) f_231_79 rfl
 (w_zret f_231_83 rk_231 (h101.1 c104).1 (h101.1 c104).2)))
 (fun c104 => w_aload_n (p' := 70) f_231_69 rfl rfl
 (w_iload (p' := 72) f_231_70 rfl rfl
 (w_callV (p' := 75) f_231_72 rfl rfl rfl rfl rfl (r := []) rfl rfl (kI (.inr rk_203) fun r102 s102 h102 =>
 w_if (p' := 82) (q' := 78) f_231_75 rfl rfl
 (fun c103 => w_iconst (p' := 83) f_231_82 rfl
 (w_zret f_231_83 rk_231 (h102.1 c103).1 (h102.1 c103).2))
 (fun c103 => w_iconst (p' := 79) f_231_78 rfl
 (w_goto (p' := 83) f_231_79 rfl
 (w_zret f_231_83 rk_231 (h102.2 c103).1 (h102.2 c103).2)))) (h101.2 c104)))))) (h.2 c105)))))))
/-! ClosedRoomsModel.whyLoad(III)I -/
theorem f_232_0 : fnd 232 0 = some (0, .aload_n 0, 1, 0, 0, 0, 0) := ceB_eq (by decide +kernel)
theorem f_232_1 : fnd 232 1 = some (1, .iload_n 1, 1, 0, 0, 0, 0) := ceB_eq (by decide +kernel)
theorem f_232_2 : fnd 232 2 = some (2, .invokevirtual 301, 3, 229, 2, 10, 0) := ceB_eq (by decide +kernel)
theorem f_232_5 : fnd 232 5 = some (5, .ifCond .eq 11, 3, 0, 0, 0, 0) := ceB_eq (by decide +kernel)
theorem f_232_8 : fnd 232 8 = some (8, .aload_n 0, 1, 0, 0, 0, 0) := ceB_eq (by decide +kernel)
theorem f_232_9 : fnd 232 9 = some (9, .iload_n 2, 1, 0, 0, 0, 0) := ceB_eq (by decide +kernel)
theorem f_232_10 : fnd 232 10 = some (10, .invokevirtual 289, 3, 223, 2, 10, 0) := ceB_eq (by decide +kernel)
theorem f_232_13 : fnd 232 13 = some (13, .ifCond .ne 5, 3, 0, 0, 0, 0) := ceB_eq (by decide +kernel)
theorem f_232_16 : fnd 232 16 = some (16, .iconst 0, 1, 0, 0, 0, 0) := ceB_eq (by decide +kernel)
theorem f_232_17 : fnd 232 17 = some (17, .ireturn, 1, 0, 0, 0, 0) := ceB_eq (by decide +kernel)
theorem f_232_18 : fnd 232 18 = some (18, .iload_n 3, 1, 0, 0, 0, 0) := ceB_eq (by decide +kernel)
theorem f_232_19 : fnd 232 19 = some (19, .iconst 0, 1, 0, 0, 0, 0) := ceB_eq (by decide +kernel)
theorem f_232_20 : fnd 232 20 = some (20, .iconst 3, 1, 0, 0, 0, 0) := ceB_eq (by decide +kernel)
theorem f_232_21 : fnd 232 21 = some (21, .invokestatic 54, 3, 168, 3, 10, 0) := ceB_eq (by decide +kernel)
theorem f_232_24 : fnd 232 24 = some (24, .ifCond .ne 7, 3, 0, 0, 0, 0) := ceB_eq (by decide +kernel)
theorem f_232_27 : fnd 232 27 = some (27, .iconst 1, 1, 0, 0, 0, 0) := ceB_eq (by decide +kernel)
theorem f_232_28 : fnd 232 28 = some (28, .goto 30, 3, 0, 0, 0, 0) := ceB_eq (by decide +kernel)
theorem f_232_31 : fnd 232 31 = some (31, .aload_n 0, 1, 0, 0, 0, 0) := ceB_eq (by decide +kernel)
theorem f_232_32 : fnd 232 32 = some (32, .invokevirtual 246, 3, 197, 1, 10, 0) := ceB_eq (by decide +kernel)
theorem f_232_35 : fnd 232 35 = some (35, .iconst (-1), 1, 0, 0, 0, 0) := ceB_eq (by decide +kernel)
theorem f_232_36 : fnd 232 36 = some (36, .if_icmp .ne 7, 3, 0, 0, 0, 0) := ceB_eq (by decide +kernel)
theorem f_232_39 : fnd 232 39 = some (39, .iconst 3, 1, 0, 0, 0, 0) := ceB_eq (by decide +kernel)
theorem f_232_40 : fnd 232 40 = some (40, .goto 18, 3, 0, 0, 0, 0) := ceB_eq (by decide +kernel)
theorem f_232_43 : fnd 232 43 = some (43, .aload_n 0, 1, 0, 0, 0, 0) := ceB_eq (by decide +kernel)
theorem f_232_44 : fnd 232 44 = some (44, .iload_n 1, 1, 0, 0, 0, 0) := ceB_eq (by decide +kernel)
theorem f_232_45 : fnd 232 45 = some (45, .iload_n 2, 1, 0, 0, 0, 0) := ceB_eq (by decide +kernel)
theorem f_232_46 : fnd 232 46 = some (46, .iload_n 3, 1, 0, 0, 0, 0) := ceB_eq (by decide +kernel)
theorem f_232_47 : fnd 232 47 = some (47, .invokevirtual 304, 3, 231, 4, 10, 0) := ceB_eq (by decide +kernel)
theorem f_232_50 : fnd 232 50 = some (50, .ifCond .ne 7, 3, 0, 0, 0, 0) := ceB_eq (by decide +kernel)
theorem f_232_53 : fnd 232 53 = some (53, .iconst 4, 1, 0, 0, 0, 0) := ceB_eq (by decide +kernel)
theorem f_232_54 : fnd 232 54 = some (54, .goto 4, 3, 0, 0, 0, 0) := ceB_eq (by decide +kernel)
theorem f_232_57 : fnd 232 57 = some (57, .iconst (-1), 1, 0, 0, 0, 0) := ceB_eq (by decide +kernel)
theorem f_232_58 : fnd 232 58 = some (58, .ireturn, 1, 0, 0, 0, 0) := ceB_eq (by decide +kernel)
theorem rk_232 : rkm 232 = 0 := by decide +kernel
theorem ml_232 : (mth 232).2.1 = 4 := by decide +kernel
set_option maxRecDepth 100000 in
theorem T_Z_whyLoad (k0 i0 x1 x2 x3 : Int) (σ : ST) (Q : Option AV → ST → Prop) (h :
  wpM m_Z_isCopy [.inr (.inr (40, k0, i0)), .inl x1] σ (asI fun r101 s101 =>
  (((r101 = 0 : Prop) →
    Q (some (.inl 0)) s101) ∧
  (¬ (r101 = 0) →
    wpM m_Z_areSlots [.inr (.inr (40, k0, i0)), .inl x2] s101 (asI fun r102 s102 =>
    (((r102 ≠ 0 : Prop) →
      wpM m_Z_in [.inl x3, .inl 0, .inl 3] s102 (asI fun r103 s103 =>
      (((r103 ≠ 0 : Prop) →
        wpM m_Z_freePage [.inr (.inr (40, k0, i0))] s103 (asI fun r104 s104 =>
        (((r104 ≠ (-1) : Prop) →
          wpM m_Z_isTrue [.inr (.inr (40, k0, i0)), .inl x1, .inl x2, .inl x3] s104 (asI fun r105 s105 =>
          (((r105 ≠ 0 : Prop) →
            Q (some (.inl (-1))) s105) ∧
          (¬ (r105 ≠ 0) →
            Q (some (.inl 4)) s105)))) ∧
        (¬ (r104 ≠ (-1)) →
          Q (some (.inl 3)) s104)))) ∧
      (¬ (r103 ≠ 0) →
        Q (some (.inl 1)) s103)))) ∧
    (¬ (r102 ≠ 0) →
      Q (some (.inl 0)) s102))))))) :
  wpM m_Z_whyLoad [.inr (.inr (40, k0, i0)), .inl x1, .inl x2, .inl x3] σ Q :=
 wpM_of ml_232 (L := [some (.inr (.inr (40, k0, i0))), some (.inl x1), some (.inl x2), some (.inl x3)]) rfl
 (w_aload_n (p' := 1) f_232_0 rfl rfl
 (w_iload_n (p' := 2) f_232_1 rfl rfl
 (w_callV (p' := 5) f_232_2 rfl rfl rfl rfl rfl (r := []) rfl rfl (kI (.inr rk_229) fun r101 s101 h101 =>
 w_if (p' := 16) (q' := 8) f_232_5 rfl rfl
 (fun c110 => w_iconst (p' := 17) f_232_16 rfl
 (w_iret f_232_17 rk_232 (h101.1 c110)))
 (fun c110 => w_aload_n (p' := 9) f_232_8 rfl rfl
 (w_iload_n (p' := 10) f_232_9 rfl rfl
 (w_callV (p' := 13) f_232_10 rfl rfl rfl rfl rfl (r := []) rfl rfl (kI (.inr rk_223) fun r102 s102 h102 =>
 w_if (p' := 18) (q' := 16) f_232_13 rfl rfl
 (fun c109 => w_iload_n (p' := 19) f_232_18 rfl rfl
 (w_iconst (p' := 20) f_232_19 rfl
 (w_iconst (p' := 21) f_232_20 rfl
 (w_callS (p' := 24) f_232_21 rfl rfl rfl (r := []) rfl rfl (kI (.inr rk_168) fun r103 s103 h103 =>
 w_if (p' := 31) (q' := 27) f_232_24 rfl rfl
 (fun c108 => w_aload_n (p' := 32) f_232_31 rfl rfl
 (w_callV (p' := 35) f_232_32 rfl rfl rfl rfl rfl (r := []) rfl rfl (kI (.inl rk_197) fun r104 s104 h104 =>
 w_iconst (p' := 36) f_232_35 rfl
 (w_icmp (p' := 43) (q' := 39) f_232_36 rfl rfl
 (fun c107 => w_aload_n (p' := 44) f_232_43 rfl rfl
 (w_iload_n (p' := 45) f_232_44 rfl rfl
 (w_iload_n (p' := 46) f_232_45 rfl rfl
 (w_iload_n (p' := 47) f_232_46 rfl rfl
 (w_callV (p' := 50) f_232_47 rfl rfl rfl rfl rfl (r := []) rfl rfl (kI (.inr rk_231) fun r105 s105 h105 =>
 w_if (p' := 57) (q' := 53) f_232_50 rfl rfl
 (fun c106 => w_iconst (p' := 58) f_232_57 rfl
 (w_iret f_232_58 rk_232 (h105.1 c106)))
 (fun c106 => w_iconst (p' := 54) f_232_53 rfl
 (w_goto (p' := 58) f_232_54 rfl
 (w_iret f_232_58 rk_232 (h105.2 c106))))) (h104.1 c107))))))
 (fun c107 => w_iconst (p' := 40) f_232_39 rfl
 (w_goto (p' := 58) f_232_40 rfl
 (w_iret f_232_58 rk_232 (h104.2 c107)))))) (h103.1 c108)))
 (fun c108 => w_iconst (p' := 28) f_232_27 rfl
 (w_goto (p' := 58) f_232_28 rfl
 (w_iret f_232_58 rk_232 (h103.2 c108))))) (h102.1 c109)))))
 (fun c109 => w_iconst (p' := 17) f_232_16 rfl
 (w_iret f_232_17 rk_232 (h102.2 c109)))) (h101.2 c110))))) h)))
/-! ClosedRoomsModel.emptySlots(I)I -/
theorem f_233_0 : fnd 233 0 = some (0, .iconst 0, 1, 0, 0, 0, 0) := ceB_eq (by decide +kernel)
theorem f_233_1 : fnd 233 1 = some (1, .istore_n 2, 1, 0, 0, 0, 0) := ceB_eq (by decide +kernel)
theorem f_233_2 : fnd 233 2 = some (2, .iconst 0, 1, 0, 0, 0, 0) := ceB_eq (by decide +kernel)
theorem f_233_3 : fnd 233 3 = some (3, .istore_n 3, 1, 0, 0, 0, 0) := ceB_eq (by decide +kernel)
theorem f_233_4 : fnd 233 4 = some (4, .iload_n 3, 1, 0, 0, 0, 0) := ceB_eq (by decide +kernel)
theorem f_233_5 : fnd 233 5 = some (5, .iconst 4, 1, 0, 0, 0, 0) := ceB_eq (by decide +kernel)
theorem f_233_6 : fnd 233 6 = some (6, .if_icmp .ge 29, 3, 0, 0, 0, 0) := ceB_eq (by decide +kernel)
theorem f_233_9 : fnd 233 9 = some (9, .iload_n 2, 1, 0, 0, 0, 0) := ceB_eq (by decide +kernel)
theorem f_233_10 : fnd 233 10 = some (10, .aload_n 0, 1, 0, 0, 0, 0) := ceB_eq (by decide +kernel)
theorem f_233_11 : fnd 233 11 = some (11, .iload_n 1, 1, 0, 0, 0, 0) := ceB_eq (by decide +kernel)
theorem f_233_12 : fnd 233 12 = some (12, .bipush 7, 2, 0, 0, 0, 0) := ceB_eq (by decide +kernel)
theorem f_233_14 : fnd 233 14 = some (14, .iload_n 3, 1, 0, 0, 0, 0) := ceB_eq (by decide +kernel)
theorem f_233_15 : fnd 233 15 = some (15, .iadd, 1, 0, 0, 0, 0) := ceB_eq (by decide +kernel)
theorem f_233_16 : fnd 233 16 = some (16, .invokevirtual 206, 3, 196, 3, 10, 0) := ceB_eq (by decide +kernel)
theorem f_233_19 : fnd 233 19 = some (19, .ifCond .ne 7, 3, 0, 0, 0, 0) := ceB_eq (by decide +kernel)
theorem f_233_22 : fnd 233 22 = some (22, .iconst 1, 1, 0, 0, 0, 0) := ceB_eq (by decide +kernel)
theorem f_233_23 : fnd 233 23 = some (23, .goto 4, 3, 0, 0, 0, 0) := ceB_eq (by decide +kernel)
theorem f_233_26 : fnd 233 26 = some (26, .iconst 0, 1, 0, 0, 0, 0) := ceB_eq (by decide +kernel)
theorem f_233_27 : fnd 233 27 = some (27, .iadd, 1, 0, 0, 0, 0) := ceB_eq (by decide +kernel)
theorem f_233_28 : fnd 233 28 = some (28, .istore_n 2, 1, 0, 0, 0, 0) := ceB_eq (by decide +kernel)
theorem f_233_29 : fnd 233 29 = some (29, .iinc 3 1, 3, 0, 0, 0, 0) := ceB_eq (by decide +kernel)
theorem f_233_32 : fnd 233 32 = some (32, .goto (-28), 3, 0, 0, 0, 0) := ceB_eq (by decide +kernel)
theorem f_233_35 : fnd 233 35 = some (35, .iload_n 2, 1, 0, 0, 0, 0) := ceB_eq (by decide +kernel)
theorem f_233_36 : fnd 233 36 = some (36, .ireturn, 1, 0, 0, 0, 0) := ceB_eq (by decide +kernel)
theorem rk_233 : rkm 233 = 0 := by decide +kernel
theorem ml_233 : (mth 233).2.1 = 4 := by decide +kernel
set_option maxRecDepth 100000 in
theorem T_Z_emptySlots (k0 i0 x1 : Int) (σ : ST) (Q : Option AV → ST → Prop) (h :
  wp m_Z_emptySlots (4, [some (.inr (.inr (40, k0, i0))), some (.inl x1), some (.inl 0), some (.inl 0)], [], σ) Q) :
  wpM m_Z_emptySlots [.inr (.inr (40, k0, i0)), .inl x1] σ Q :=
 wpM_of ml_233 (L := [some (.inr (.inr (40, k0, i0))), some (.inl x1), none, none]) rfl
 (w_iconst (p' := 1) f_233_0 rfl
 (w_istore_n (p' := 2) f_233_1 (L' := [some (.inr (.inr (40, k0, i0))), some (.inl x1), some (.inl 0), none]) rfl rfl
 (w_iconst (p' := 3) f_233_2 rfl
 (w_istore_n (p' := 4) f_233_3 (L' := [some (.inr (.inr (40, k0, i0))), some (.inl x1), some (.inl 0), some (.inl 0)]) rfl rfl
 (h)))))
set_option maxRecDepth 100000 in
theorem T_Z_emptySlots_4 (k0 i0 x1 x2 x3 : Int) (σ : ST) (Q : Option AV → ST → Prop) (h :
  (((4 ≤ x3 : Prop) →
    Q (some (.inl x2)) σ) ∧
  (¬ (4 ≤ x3) →
    wpM m_Z_ofPage [.inr (.inr (40, k0, i0)), .inl x1, .inl (wr (7 + x3))] σ (asI fun r101 s101 =>
    (((r101 ≠ 0 : Prop) →
      wp m_Z_emptySlots (4, [some (.inr (.inr (40, k0, i0))), some (.inl x1), some (.inl (wr (x2 + 0))), some (.inl (wr (x3 + 1)))], [], s101) Q) ∧
    (¬ (r101 ≠ 0) →
      wp m_Z_emptySlots (4, [some (.inr (.inr (40, k0, i0))), some (.inl x1), some (.inl (wr (x2 + 1))), some (.inl (wr (x3 + 1)))], [], s101) Q)))))) :
  wp m_Z_emptySlots (4, [some (.inr (.inr (40, k0, i0))), some (.inl x1), some (.inl x2), some (.inl x3)], [], σ) Q :=
 w_iload_n (p' := 5) f_233_4 rfl rfl
 (w_iconst (p' := 6) f_233_5 rfl
 (w_icmp (p' := 35) (q' := 9) f_233_6 rfl rfl
 (fun c103 => w_iload_n (p' := 36) f_233_35 rfl rfl
 (w_iret f_233_36 rk_233 (h.1 c103)))
 (fun c103 => w_iload_n (p' := 10) f_233_9 rfl rfl
 (w_aload_n (p' := 11) f_233_10 rfl rfl
 (w_iload_n (p' := 12) f_233_11 rfl rfl
 (w_bipush (p' := 14) f_233_12 rfl
 (w_iload_n (p' := 15) f_233_14 rfl rfl
 (w_iadd (p' := 16) f_233_15 rfl
 (w_callV (p' := 19) f_233_16 rfl rfl rfl rfl rfl (r := [.inl x2]) rfl rfl (kI (.inl rk_196) fun r101 s101 h101 =>
 w_if (p' := 26) (q' := 22) f_233_19 rfl rfl
 (fun c102 => w_iconst (p' := 27) f_233_26 rfl
 (w_iadd (p' := 28) f_233_27 rfl
 (w_istore_n (p' := 29) f_233_28 (L' := [some (.inr (.inr (40, k0, i0))), some (.inl x1), some (.inl (wr (x2 + 0))), some (.inl x3)]) rfl rfl
 (w_iinc (p' := 32) f_233_29 rfl (L' := [some (.inr (.inr (40, k0, i0))), some (.inl x1), some (.inl (wr (x2 + 0))), some (.inl (wr (x3 + 1)))]) rfl rfl
 (w_goto (p' := 4) f_233_32 rfl
 ((h101.1 c102)))))))
 (fun c102 => w_iconst (p' := 23) f_233_22 rfl
 (w_goto (p' := 27) f_233_23 rfl
 (w_iadd (p' := 28) f_233_27 rfl
 (w_istore_n (p' := 29) f_233_28 (L' := [some (.inr (.inr (40, k0, i0))), some (.inl x1), some (.inl (wr (x2 + 1))), some (.inl x3)]) rfl rfl
 (w_iinc (p' := 32) f_233_29 rfl (L' := [some (.inr (.inr (40, k0, i0))), some (.inl x1), some (.inl (wr (x2 + 1))), some (.inl (wr (x3 + 1)))]) rfl rfl
 (w_goto (p' := 4) f_233_32 rfl
 ((h101.2 c102))))))))) (h.2 c103))))))))))
/-! ClosedRoomsModel.insideOf(I)I -/
theorem f_234_0 : fnd 234 0 = some (0, .iconst 0, 1, 0, 0, 0, 0) := ceB_eq (by decide +kernel)
theorem f_234_1 : fnd 234 1 = some (1, .istore_n 2, 1, 0, 0, 0, 0) := ceB_eq (by decide +kernel)
theorem f_234_2 : fnd 234 2 = some (2, .iconst 0, 1, 0, 0, 0, 0) := ceB_eq (by decide +kernel)
theorem f_234_3 : fnd 234 3 = some (3, .istore_n 3, 1, 0, 0, 0, 0) := ceB_eq (by decide +kernel)
theorem f_234_4 : fnd 234 4 = some (4, .iload_n 3, 1, 0, 0, 0, 0) := ceB_eq (by decide +kernel)
theorem f_234_5 : fnd 234 5 = some (5, .aload_n 0, 1, 0, 0, 0, 0) := ceB_eq (by decide +kernel)
theorem f_234_6 : fnd 234 6 = some (6, .getfield 16, 3, 10, 10, 10, 0) := ceB_eq (by decide +kernel)
theorem f_234_9 : fnd 234 9 = some (9, .iconst 1, 1, 0, 0, 0, 0) := ceB_eq (by decide +kernel)
theorem f_234_10 : fnd 234 10 = some (10, .iaload, 1, 0, 0, 0, 0) := ceB_eq (by decide +kernel)
theorem f_234_11 : fnd 234 11 = some (11, .if_icmp .ge 29, 3, 0, 0, 0, 0) := ceB_eq (by decide +kernel)
theorem f_234_14 : fnd 234 14 = some (14, .iload_n 2, 1, 0, 0, 0, 0) := ceB_eq (by decide +kernel)
theorem f_234_15 : fnd 234 15 = some (15, .aload_n 0, 1, 0, 0, 0, 0) := ceB_eq (by decide +kernel)
theorem f_234_16 : fnd 234 16 = some (16, .iload_n 3, 1, 0, 0, 0, 0) := ceB_eq (by decide +kernel)
theorem f_234_17 : fnd 234 17 = some (17, .iconst 1, 1, 0, 0, 0, 0) := ceB_eq (by decide +kernel)
theorem f_234_18 : fnd 234 18 = some (18, .invokevirtual 212, 3, 208, 3, 10, 0) := ceB_eq (by decide +kernel)
theorem f_234_21 : fnd 234 21 = some (21, .iload_n 1, 1, 0, 0, 0, 0) := ceB_eq (by decide +kernel)
theorem f_234_22 : fnd 234 22 = some (22, .if_icmp .ne 9, 3, 0, 0, 0, 0) := ceB_eq (by decide +kernel)
theorem f_234_25 : fnd 234 25 = some (25, .iconst 1, 1, 0, 0, 0, 0) := ceB_eq (by decide +kernel)
theorem f_234_26 : fnd 234 26 = some (26, .iload_n 3, 1, 0, 0, 0, 0) := ceB_eq (by decide +kernel)
theorem f_234_27 : fnd 234 27 = some (27, .ishl, 1, 0, 0, 0, 0) := ceB_eq (by decide +kernel)
theorem f_234_28 : fnd 234 28 = some (28, .goto 4, 3, 0, 0, 0, 0) := ceB_eq (by decide +kernel)
theorem f_234_31 : fnd 234 31 = some (31, .iconst 0, 1, 0, 0, 0, 0) := ceB_eq (by decide +kernel)
theorem f_234_32 : fnd 234 32 = some (32, .ior, 1, 0, 0, 0, 0) := ceB_eq (by decide +kernel)
theorem f_234_33 : fnd 234 33 = some (33, .istore_n 2, 1, 0, 0, 0, 0) := ceB_eq (by decide +kernel)
theorem f_234_34 : fnd 234 34 = some (34, .iinc 3 1, 3, 0, 0, 0, 0) := ceB_eq (by decide +kernel)
theorem f_234_37 : fnd 234 37 = some (37, .goto (-33), 3, 0, 0, 0, 0) := ceB_eq (by decide +kernel)
theorem f_234_40 : fnd 234 40 = some (40, .iload_n 2, 1, 0, 0, 0, 0) := ceB_eq (by decide +kernel)
theorem f_234_41 : fnd 234 41 = some (41, .ireturn, 1, 0, 0, 0, 0) := ceB_eq (by decide +kernel)
theorem rk_234 : rkm 234 = 0 := by decide +kernel
theorem ml_234 : (mth 234).2.1 = 4 := by decide +kernel
set_option maxRecDepth 100000 in
theorem T_Z_insideOf (k0 i0 x1 : Int) (σ : ST) (Q : Option AV → ST → Prop) (h :
  wp m_Z_insideOf (4, [some (.inr (.inr (40, k0, i0))), some (.inl x1), some (.inl 0), some (.inl 0)], [], σ) Q) :
  wpM m_Z_insideOf [.inr (.inr (40, k0, i0)), .inl x1] σ Q :=
 wpM_of ml_234 (L := [some (.inr (.inr (40, k0, i0))), some (.inl x1), none, none]) rfl
 (w_iconst (p' := 1) f_234_0 rfl
 (w_istore_n (p' := 2) f_234_1 (L' := [some (.inr (.inr (40, k0, i0))), some (.inl x1), some (.inl 0), none]) rfl rfl
 (w_iconst (p' := 3) f_234_2 rfl
 (w_istore_n (p' := 4) f_234_3 (L' := [some (.inr (.inr (40, k0, i0))), some (.inl x1), some (.inl 0), some (.inl 0)]) rfl rfl
 (h)))))
set_option maxRecDepth 100000 in
theorem T_Z_insideOf_4 (k0 i0 x1 x2 x3 : Int) (σ : ST) (Q : Option AV → ST → Prop) (h :
  ((0 : Int) ≤ 1 ∧ (1 : Int) < 4) ∧
  ((((σ 43 0 0 1) ≤ x3 : Prop) →
    Q (some (.inl x2)) σ) ∧
  (¬ ((σ 43 0 0 1) ≤ x3) →
    wpM m_Z_ofCore [.inr (.inr (40, k0, i0)), .inl x3, .inl 1] σ (asI fun r101 s101 =>
    (((r101 ≠ x1 : Prop) →
      wp m_Z_insideOf (4, [some (.inr (.inr (40, k0, i0))), some (.inl x1), some (.inl (i_or x2 0)), some (.inl (wr (x3 + 1)))], [], s101) Q) ∧
    (¬ (r101 ≠ x1) →
      wp m_Z_insideOf (4, [some (.inr (.inr (40, k0, i0))), some (.inl x1), some (.inl (i_or x2 (i_shl 1 x3))), some (.inl (wr (x3 + 1)))], [], s101) Q)))))) :
  wp m_Z_insideOf (4, [some (.inr (.inr (40, k0, i0))), some (.inl x1), some (.inl x2), some (.inl x3)], [], σ) Q :=
 w_iload_n (p' := 5) f_234_4 rfl rfl
 (w_aload_n (p' := 6) f_234_5 rfl rfl
 (w_getfield (p' := 9) f_234_6 rfl (x := .inr (.inr (43, 0, 0))) rfl rfl
 (w_iconst (p' := 10) f_234_9 rfl
 (w_iaload (p' := 11) f_234_10 rfl (n := 4) rfl h.1 rfl
 (w_icmp (p' := 40) (q' := 14) f_234_11 rfl rfl
 (fun c103 => w_iload_n (p' := 41) f_234_40 rfl rfl
 (w_iret f_234_41 rk_234 (h.2.1 c103)))
 (fun c103 => w_iload_n (p' := 15) f_234_14 rfl rfl
 (w_aload_n (p' := 16) f_234_15 rfl rfl
 (w_iload_n (p' := 17) f_234_16 rfl rfl
 (w_iconst (p' := 18) f_234_17 rfl
 (w_callV (p' := 21) f_234_18 rfl rfl rfl rfl rfl (r := [.inl x2]) rfl rfl (kI (.inl rk_208) fun r101 s101 h101 =>
 w_iload_n (p' := 22) f_234_21 rfl rfl
 (w_icmp (p' := 31) (q' := 25) f_234_22 rfl rfl
 (fun c102 => w_iconst (p' := 32) f_234_31 rfl
 (w_ior (p' := 33) f_234_32 rfl
 (w_istore_n (p' := 34) f_234_33 (L' := [some (.inr (.inr (40, k0, i0))), some (.inl x1), some (.inl (i_or x2 0)), some (.inl x3)]) rfl rfl
 (w_iinc (p' := 37) f_234_34 rfl (L' := [some (.inr (.inr (40, k0, i0))), some (.inl x1), some (.inl (i_or x2 0)), some (.inl (wr (x3 + 1)))]) rfl rfl
 (w_goto (p' := 4) f_234_37 rfl
 ((h101.1 c102)))))))
 (fun c102 => w_iconst (p' := 26) f_234_25 rfl
 (w_iload_n (p' := 27) f_234_26 rfl rfl
 (w_ishl (p' := 28) f_234_27 rfl
 (w_goto (p' := 32) f_234_28 rfl
 (w_ior (p' := 33) f_234_32 rfl
 (w_istore_n (p' := 34) f_234_33 (L' := [some (.inr (.inr (40, k0, i0))), some (.inl x1), some (.inl (i_or x2 (i_shl 1 x3))), some (.inl x3)]) rfl rfl
 (w_iinc (p' := 37) f_234_34 rfl (L' := [some (.inr (.inr (40, k0, i0))), some (.inl x1), some (.inl (i_or x2 (i_shl 1 x3))), some (.inl (wr (x3 + 1)))]) rfl rfl
 (w_goto (p' := 4) f_234_37 rfl
 ((h101.2 c102)))))))))))) (h.2.2 c103)))))))))))
/-! ClosedRoomsModel.whyRemove(I)I -/
theorem f_235_0 : fnd 235 0 = some (0, .aload_n 0, 1, 0, 0, 0, 0) := ceB_eq (by decide +kernel)
theorem f_235_1 : fnd 235 1 = some (1, .iload_n 1, 1, 0, 0, 0, 0) := ceB_eq (by decide +kernel)
theorem f_235_2 : fnd 235 2 = some (2, .invokevirtual 276, 3, 218, 2, 10, 0) := ceB_eq (by decide +kernel)
theorem f_235_5 : fnd 235 5 = some (5, .ifCond .ne 5, 3, 0, 0, 0, 0) := ceB_eq (by decide +kernel)
theorem f_235_8 : fnd 235 8 = some (8, .iconst 0, 1, 0, 0, 0, 0) := ceB_eq (by decide +kernel)
theorem f_235_9 : fnd 235 9 = some (9, .ireturn, 1, 0, 0, 0, 0) := ceB_eq (by decide +kernel)
theorem f_235_10 : fnd 235 10 = some (10, .aload_n 0, 1, 0, 0, 0, 0) := ceB_eq (by decide +kernel)
theorem f_235_11 : fnd 235 11 = some (11, .iload_n 1, 1, 0, 0, 0, 0) := ceB_eq (by decide +kernel)
theorem f_235_12 : fnd 235 12 = some (12, .iconst 0, 1, 0, 0, 0, 0) := ceB_eq (by decide +kernel)
theorem f_235_13 : fnd 235 13 = some (13, .invokevirtual 206, 3, 196, 3, 10, 0) := ceB_eq (by decide +kernel)
theorem f_235_16 : fnd 235 16 = some (16, .istore_n 2, 1, 0, 0, 0, 0) := ceB_eq (by decide +kernel)
theorem f_235_17 : fnd 235 17 = some (17, .iload_n 2, 1, 0, 0, 0, 0) := ceB_eq (by decide +kernel)
theorem f_235_18 : fnd 235 18 = some (18, .iconst 4, 1, 0, 0, 0, 0) := ceB_eq (by decide +kernel)
theorem f_235_19 : fnd 235 19 = some (19, .if_icmp .ne 18, 3, 0, 0, 0, 0) := ceB_eq (by decide +kernel)
theorem f_235_22 : fnd 235 22 = some (22, .aload_n 0, 1, 0, 0, 0, 0) := ceB_eq (by decide +kernel)
theorem f_235_23 : fnd 235 23 = some (23, .iload_n 1, 1, 0, 0, 0, 0) := ceB_eq (by decide +kernel)
theorem f_235_24 : fnd 235 24 = some (24, .invokevirtual 307, 3, 233, 2, 10, 0) := ceB_eq (by decide +kernel)
theorem f_235_27 : fnd 235 27 = some (27, .iconst 4, 1, 0, 0, 0, 0) := ceB_eq (by decide +kernel)
theorem f_235_28 : fnd 235 28 = some (28, .if_icmp .ge 7, 3, 0, 0, 0, 0) := ceB_eq (by decide +kernel)
theorem f_235_31 : fnd 235 31 = some (31, .iconst 2, 1, 0, 0, 0, 0) := ceB_eq (by decide +kernel)
theorem f_235_32 : fnd 235 32 = some (32, .goto 4, 3, 0, 0, 0, 0) := ceB_eq (by decide +kernel)
theorem f_235_35 : fnd 235 35 = some (35, .iconst (-1), 1, 0, 0, 0, 0) := ceB_eq (by decide +kernel)
theorem f_235_36 : fnd 235 36 = some (36, .ireturn, 1, 0, 0, 0, 0) := ceB_eq (by decide +kernel)
theorem f_235_37 : fnd 235 37 = some (37, .aload_n 0, 1, 0, 0, 0, 0) := ceB_eq (by decide +kernel)
theorem f_235_38 : fnd 235 38 = some (38, .aload_n 0, 1, 0, 0, 0, 0) := ceB_eq (by decide +kernel)
theorem f_235_39 : fnd 235 39 = some (39, .iload_n 1, 1, 0, 0, 0, 0) := ceB_eq (by decide +kernel)
theorem f_235_40 : fnd 235 40 = some (40, .iconst 1, 1, 0, 0, 0, 0) := ceB_eq (by decide +kernel)
theorem f_235_41 : fnd 235 41 = some (41, .invokevirtual 206, 3, 196, 3, 10, 0) := ceB_eq (by decide +kernel)
theorem f_235_44 : fnd 235 44 = some (44, .invokevirtual 310, 3, 234, 2, 10, 0) := ceB_eq (by decide +kernel)
theorem f_235_47 : fnd 235 47 = some (47, .ifCond .ne 22, 3, 0, 0, 0, 0) := ceB_eq (by decide +kernel)
theorem f_235_50 : fnd 235 50 = some (50, .iload_n 2, 1, 0, 0, 0, 0) := ceB_eq (by decide +kernel)
theorem f_235_51 : fnd 235 51 = some (51, .iconst 1, 1, 0, 0, 0, 0) := ceB_eq (by decide +kernel)
theorem f_235_52 : fnd 235 52 = some (52, .if_icmp .ne 21, 3, 0, 0, 0, 0) := ceB_eq (by decide +kernel)
theorem f_235_55 : fnd 235 55 = some (55, .aload_n 0, 1, 0, 0, 0, 0) := ceB_eq (by decide +kernel)
theorem f_235_56 : fnd 235 56 = some (56, .aload_n 0, 1, 0, 0, 0, 0) := ceB_eq (by decide +kernel)
theorem f_235_57 : fnd 235 57 = some (57, .iload_n 1, 1, 0, 0, 0, 0) := ceB_eq (by decide +kernel)
theorem f_235_58 : fnd 235 58 = some (58, .iconst 1, 1, 0, 0, 0, 0) := ceB_eq (by decide +kernel)
theorem f_235_59 : fnd 235 59 = some (59, .invokevirtual 206, 3, 196, 3, 10, 0) := ceB_eq (by decide +kernel)
theorem f_235_62 : fnd 235 62 = some (62, .iconst 0, 1, 0, 0, 0, 0) := ceB_eq (by decide +kernel)
theorem f_235_63 : fnd 235 63 = some (63, .invokevirtual 285, 3, 224, 3, 10, 0) := ceB_eq (by decide +kernel)
theorem f_235_66 : fnd 235 66 = some (66, .ifCond .le 7, 3, 0, 0, 0, 0) := ceB_eq (by decide +kernel)
theorem f_235_69 : fnd 235 69 = some (69, .iconst 2, 1, 0, 0, 0, 0) := ceB_eq (by decide +kernel)
theorem f_235_70 : fnd 235 70 = some (70, .goto 4, 3, 0, 0, 0, 0) := ceB_eq (by decide +kernel)
theorem f_235_73 : fnd 235 73 = some (73, .iconst (-1), 1, 0, 0, 0, 0) := ceB_eq (by decide +kernel)
theorem f_235_74 : fnd 235 74 = some (74, .ireturn, 1, 0, 0, 0, 0) := ceB_eq (by decide +kernel)
theorem rk_235 : rkm 235 = 0 := by decide +kernel
theorem ml_235 : (mth 235).2.1 = 3 := by decide +kernel
set_option maxRecDepth 100000 in
theorem T_Z_whyRemove (k0 i0 x1 : Int) (σ : ST) (Q : Option AV → ST → Prop) (h :
  wpM m_Z_isUsed [.inr (.inr (40, k0, i0)), .inl x1] σ (asI fun r101 s101 =>
  (((r101 ≠ 0 : Prop) →
    wpM m_Z_ofPage [.inr (.inr (40, k0, i0)), .inl x1, .inl 0] s101 (asI fun r102 s102 =>
    (((r102 ≠ 4 : Prop) →
      wpM m_Z_ofPage [.inr (.inr (40, k0, i0)), .inl x1, .inl 1] s102 (asI fun r103 s103 =>
      wpM m_Z_insideOf [.inr (.inr (40, k0, i0)), .inl r103] s103 (asI fun r104 s104 =>
      (((r104 ≠ 0 : Prop) →
        Q (some (.inl 2)) s104) ∧
      (¬ (r104 ≠ 0) →
        (((r102 ≠ 1 : Prop) →
          Q (some (.inl (-1))) s104) ∧
        (¬ (r102 ≠ 1) →
          wpM m_Z_ofPage [.inr (.inr (40, k0, i0)), .inl x1, .inl 1] s104 (asI fun r105 s105 =>
          wpM m_Z_pagesOf [.inr (.inr (40, k0, i0)), .inl r105, .inl 0] s105 (asI fun r106 s106 =>
          (((r106 ≤ 0 : Prop) →
            Q (some (.inl (-1))) s106) ∧
          (¬ (r106 ≤ 0) →
            Q (some (.inl 2)) s106))))))))))) ∧
    (¬ (r102 ≠ 4) →
      wpM m_Z_emptySlots [.inr (.inr (40, k0, i0)), .inl x1] s102 (asI fun r110 s110 =>
      (((4 ≤ r110 : Prop) →
        Q (some (.inl (-1))) s110) ∧
      (¬ (4 ≤ r110) →
        Q (some (.inl 2)) s110))))))) ∧
  (¬ (r101 ≠ 0) →
    Q (some (.inl 0)) s101)))) :
  wpM m_Z_whyRemove [.inr (.inr (40, k0, i0)), .inl x1] σ Q :=
 wpM_of ml_235 (L := [some (.inr (.inr (40, k0, i0))), some (.inl x1), none]) rfl
 (w_aload_n (p' := 1) f_235_0 rfl rfl
 (w_iload_n (p' := 2) f_235_1 rfl rfl
 (w_callV (p' := 5) f_235_2 rfl rfl rfl rfl rfl (r := []) rfl rfl (kI (.inr rk_218) fun r101 s101 h101 =>
 w_if (p' := 10) (q' := 8) f_235_5 rfl rfl
 (fun c113 => w_aload_n (p' := 11) f_235_10 rfl rfl
 (w_iload_n (p' := 12) f_235_11 rfl rfl
 (w_iconst (p' := 13) f_235_12 rfl
 (w_callV (p' := 16) f_235_13 rfl rfl rfl rfl rfl (r := []) rfl rfl (kI (.inl rk_196) fun r102 s102 h102 =>
 w_istore_n (p' := 17) f_235_16 (L' := [some (.inr (.inr (40, k0, i0))), some (.inl x1), some (.inl r102)]) rfl rfl
 (w_iload_n (p' := 18) f_235_17 rfl rfl
 (w_iconst (p' := 19) f_235_18 rfl
 (w_icmp (p' := 37) (q' := 22) f_235_19 rfl rfl
 (fun c112 => w_aload_n (p' := 38) f_235_37 rfl rfl
 (w_aload_n (p' := 39) f_235_38 rfl rfl
 (w_iload_n (p' := 40) f_235_39 rfl rfl
 (w_iconst (p' := 41) f_235_40 rfl
 (w_callV (p' := 44) f_235_41 rfl rfl rfl rfl rfl (r := [.inr (.inr (40, k0, i0))]) rfl rfl (kI (.inl rk_196) fun r103 s103 h103 =>
 w_callV (p' := 47) f_235_44 rfl rfl rfl rfl rfl (r := []) rfl rfl (kI (.inl rk_234) fun r104 s104 h104 =>
 w_if (p' := 69) (q' := 50) f_235_47 rfl rfl
 (fun c109 => w_iconst (p' := 70) f_235_69 rfl
 (w_goto (p' := 74) f_235_70 rfl
 (w_iret f_235_74 rk_235 (h104.1 c109))))
 (fun c109 => w_iload_n (p' := 51) f_235_50 rfl rfl
 (w_iconst (p' := 52) f_235_51 rfl
 (w_icmp (p' := 73) (q' := 55) f_235_52 rfl rfl
 (fun c108 => w_iconst (p' := 74) f_235_73 rfl
 (w_iret f_235_74 rk_235 ((h104.2 c109).1 c108)))
 (fun c108 => w_aload_n (p' := 56) f_235_55 rfl rfl
 (w_aload_n (p' := 57) f_235_56 rfl rfl
 (w_iload_n (p' := 58) f_235_57 rfl rfl
 (w_iconst (p' := 59) f_235_58 rfl
 (w_callV (p' := 62) f_235_59 rfl rfl rfl rfl rfl (r := [.inr (.inr (40, k0, i0))]) rfl rfl (kI (.inl rk_196) fun r105 s105 h105 =>
 w_iconst (p' := 63) f_235_62 rfl
 (w_callV (p' := 66) f_235_63 rfl rfl rfl rfl rfl (r := []) rfl rfl (kI (.inl rk_224) fun r106 s106 h106 =>
 w_if (p' := 73) (q' := 69) f_235_66 rfl rfl
 (fun c107 => w_iconst (p' := 74) f_235_73 rfl
 (w_iret f_235_74 rk_235 (h106.1 c107)))
 (fun c107 => w_iconst (p' := 70) f_235_69 rfl
 (w_goto (p' := 74) f_235_70 rfl
 (w_iret f_235_74 rk_235 (h106.2 c107))))) h105)) ((h104.2 c109).2 c108)))))))))) h103) (h102.1 c112))))))
 (fun c112 => w_aload_n (p' := 23) f_235_22 rfl rfl
 (w_iload_n (p' := 24) f_235_23 rfl rfl
 (w_callV (p' := 27) f_235_24 rfl rfl rfl rfl rfl (r := []) rfl rfl (kI (.inl rk_233) fun r110 s110 h110 =>
 w_iconst (p' := 28) f_235_27 rfl
 (w_icmp (p' := 35) (q' := 31) f_235_28 rfl rfl
 (fun c111 => w_iconst (p' := 36) f_235_35 rfl
 (w_iret f_235_36 rk_235 (h110.1 c111)))
 (fun c111 => w_iconst (p' := 32) f_235_31 rfl
 (w_goto (p' := 36) f_235_32 rfl
 (w_iret f_235_36 rk_235 (h110.2 c111)))))) (h102.2 c112)))))))) (h101.1 c113)))))
 (fun c113 => w_iconst (p' := 9) f_235_8 rfl
 (w_iret f_235_9 rk_235 (h101.2 c113)))) h)))
/-! ClosedRoomsModel.whyMap(III)I -/
theorem f_236_0 : fnd 236 0 = some (0, .aload_n 0, 1, 0, 0, 0, 0) := ceB_eq (by decide +kernel)
theorem f_236_1 : fnd 236 1 = some (1, .iload_n 1, 1, 0, 0, 0, 0) := ceB_eq (by decide +kernel)
theorem f_236_2 : fnd 236 2 = some (2, .invokevirtual 252, 3, 201, 2, 10, 0) := ceB_eq (by decide +kernel)
theorem f_236_5 : fnd 236 5 = some (5, .ifCond .ne 7, 3, 0, 0, 0, 0) := ceB_eq (by decide +kernel)
theorem f_236_8 : fnd 236 8 = some (8, .iconst 0, 1, 0, 0, 0, 0) := ceB_eq (by decide +kernel)
theorem f_236_9 : fnd 236 9 = some (9, .goto 44, 3, 0, 0, 0, 0) := ceB_eq (by decide +kernel)
theorem f_236_12 : fnd 236 12 = some (12, .aload_n 0, 1, 0, 0, 0, 0) := ceB_eq (by decide +kernel)
theorem f_236_13 : fnd 236 13 = some (13, .iload_n 1, 1, 0, 0, 0, 0) := ceB_eq (by decide +kernel)
theorem f_236_14 : fnd 236 14 = some (14, .iload_n 2, 1, 0, 0, 0, 0) := ceB_eq (by decide +kernel)
theorem f_236_15 : fnd 236 15 = some (15, .invokevirtual 255, 3, 202, 3, 10, 0) := ceB_eq (by decide +kernel)
theorem f_236_18 : fnd 236 18 = some (18, .ifCond .eq 16, 3, 0, 0, 0, 0) := ceB_eq (by decide +kernel)
theorem f_236_21 : fnd 236 21 = some (21, .iload_n 3, 1, 0, 0, 0, 0) := ceB_eq (by decide +kernel)
theorem f_236_22 : fnd 236 22 = some (22, .iconst (-1), 1, 0, 0, 0, 0) := ceB_eq (by decide +kernel)
theorem f_236_23 : fnd 236 23 = some (23, .if_icmp .eq 15, 3, 0, 0, 0, 0) := ceB_eq (by decide +kernel)
theorem f_236_26 : fnd 236 26 = some (26, .aload_n 0, 1, 0, 0, 0, 0) := ceB_eq (by decide +kernel)
theorem f_236_27 : fnd 236 27 = some (27, .iload_n 3, 1, 0, 0, 0, 0) := ceB_eq (by decide +kernel)
theorem f_236_28 : fnd 236 28 = some (28, .invokevirtual 203, 3, 211, 2, 10, 0) := ceB_eq (by decide +kernel)
theorem f_236_31 : fnd 236 31 = some (31, .ifCond .ne 7, 3, 0, 0, 0, 0) := ceB_eq (by decide +kernel)
theorem f_236_34 : fnd 236 34 = some (34, .iconst 1, 1, 0, 0, 0, 0) := ceB_eq (by decide +kernel)
theorem f_236_35 : fnd 236 35 = some (35, .goto 18, 3, 0, 0, 0, 0) := ceB_eq (by decide +kernel)
theorem f_236_38 : fnd 236 38 = some (38, .aload_n 0, 1, 0, 0, 0, 0) := ceB_eq (by decide +kernel)
theorem f_236_39 : fnd 236 39 = some (39, .iload_n 1, 1, 0, 0, 0, 0) := ceB_eq (by decide +kernel)
theorem f_236_40 : fnd 236 40 = some (40, .iload_n 2, 1, 0, 0, 0, 0) := ceB_eq (by decide +kernel)
theorem f_236_41 : fnd 236 41 = some (41, .invokevirtual 267, 3, 210, 3, 10, 0) := ceB_eq (by decide +kernel)
theorem f_236_44 : fnd 236 44 = some (44, .iload_n 3, 1, 0, 0, 0, 0) := ceB_eq (by decide +kernel)
theorem f_236_45 : fnd 236 45 = some (45, .if_icmp .ne 7, 3, 0, 0, 0, 0) := ceB_eq (by decide +kernel)
theorem f_236_48 : fnd 236 48 = some (48, .iconst 2, 1, 0, 0, 0, 0) := ceB_eq (by decide +kernel)
theorem f_236_49 : fnd 236 49 = some (49, .goto 4, 3, 0, 0, 0, 0) := ceB_eq (by decide +kernel)
theorem f_236_52 : fnd 236 52 = some (52, .iconst (-1), 1, 0, 0, 0, 0) := ceB_eq (by decide +kernel)
theorem f_236_53 : fnd 236 53 = some (53, .ireturn, 1, 0, 0, 0, 0) := ceB_eq (by decide +kernel)
theorem rk_236 : rkm 236 = 0 := by decide +kernel
theorem ml_236 : (mth 236).2.1 = 4 := by decide +kernel
set_option maxRecDepth 100000 in
theorem T_Z_whyMap (k0 i0 x1 x2 x3 : Int) (σ : ST) (Q : Option AV → ST → Prop) (h :
  wpM m_Z_isRoom [.inr (.inr (40, k0, i0)), .inl x1] σ (asI fun r101 s101 =>
  (((r101 ≠ 0 : Prop) →
    wpM m_Z_isAddress [.inr (.inr (40, k0, i0)), .inl x1, .inl x2] s101 (asI fun r102 s102 =>
    (((r102 = 0 : Prop) →
      Q (some (.inl 1)) s102) ∧
    (¬ (r102 = 0) →
      (((x3 = (-1) : Prop) →
        wp m_Z_whyMap (38, [some (.inr (.inr (40, k0, i0))), some (.inl x1), some (.inl x2), some (.inl x3)], [], s102) Q) ∧
      (¬ (x3 = (-1)) →
        wpM m_Z_isPage [.inr (.inr (40, k0, i0)), .inl x3] s102 (asI fun r103 s103 =>
        (((r103 ≠ 0 : Prop) →
          wp m_Z_whyMap (38, [some (.inr (.inr (40, k0, i0))), some (.inl x1), some (.inl x2), some (.inl x3)], [], s103) Q) ∧
        (¬ (r103 ≠ 0) →
          Q (some (.inl 1)) s103))))))))) ∧
  (¬ (r101 ≠ 0) →
    Q (some (.inl 0)) s101)))) :
  wpM m_Z_whyMap [.inr (.inr (40, k0, i0)), .inl x1, .inl x2, .inl x3] σ Q :=
 wpM_of ml_236 (L := [some (.inr (.inr (40, k0, i0))), some (.inl x1), some (.inl x2), some (.inl x3)]) rfl
 (w_aload_n (p' := 1) f_236_0 rfl rfl
 (w_iload_n (p' := 2) f_236_1 rfl rfl
 (w_callV (p' := 5) f_236_2 rfl rfl rfl rfl rfl (r := []) rfl rfl (kI (.inr rk_201) fun r101 s101 h101 =>
 w_if (p' := 12) (q' := 8) f_236_5 rfl rfl
 (fun c107 => w_aload_n (p' := 13) f_236_12 rfl rfl
 (w_iload_n (p' := 14) f_236_13 rfl rfl
 (w_iload_n (p' := 15) f_236_14 rfl rfl
 (w_callV (p' := 18) f_236_15 rfl rfl rfl rfl rfl (r := []) rfl rfl (kI (.inr rk_202) fun r102 s102 h102 =>
 w_if (p' := 34) (q' := 21) f_236_18 rfl rfl
 (fun c106 => w_iconst (p' := 35) f_236_34 rfl
 (w_goto (p' := 53) f_236_35 rfl
 (w_iret f_236_53 rk_236 (h102.1 c106))))
 (fun c106 => w_iload_n (p' := 22) f_236_21 rfl rfl
 (w_iconst (p' := 23) f_236_22 rfl
 (w_icmp (p' := 38) (q' := 26) f_236_23 rfl rfl
 (fun c105 => ((h102.2 c106).1 c105))
 (fun c105 => w_aload_n (p' := 27) f_236_26 rfl rfl
 (w_iload_n (p' := 28) f_236_27 rfl rfl
 (w_callV (p' := 31) f_236_28 rfl rfl rfl rfl rfl (r := []) rfl rfl (kI (.inr rk_211) fun r103 s103 h103 =>
 w_if (p' := 38) (q' := 34) f_236_31 rfl rfl
 (fun c104 => (h103.1 c104))
 (fun c104 => w_iconst (p' := 35) f_236_34 rfl
 (w_goto (p' := 53) f_236_35 rfl
 (w_iret f_236_53 rk_236 (h103.2 c104))))) ((h102.2 c106).2 c105)))))))) (h101.1 c107)))))
 (fun c107 => w_iconst (p' := 9) f_236_8 rfl
 (w_goto (p' := 53) f_236_9 rfl
 (w_iret f_236_53 rk_236 (h101.2 c107))))) h)))
set_option maxRecDepth 100000 in
theorem T_Z_whyMap_38 (k0 i0 x1 x2 x3 : Int) (σ : ST) (Q : Option AV → ST → Prop) (h :
  wpM m_Z_mapOf [.inr (.inr (40, k0, i0)), .inl x1, .inl x2] σ (asI fun r101 s101 =>
  (((r101 ≠ x3 : Prop) →
    Q (some (.inl (-1))) s101) ∧
  (¬ (r101 ≠ x3) →
    Q (some (.inl 2)) s101)))) :
  wp m_Z_whyMap (38, [some (.inr (.inr (40, k0, i0))), some (.inl x1), some (.inl x2), some (.inl x3)], [], σ) Q :=
 w_aload_n (p' := 39) f_236_38 rfl rfl
 (w_iload_n (p' := 40) f_236_39 rfl rfl
 (w_iload_n (p' := 41) f_236_40 rfl rfl
 (w_callV (p' := 44) f_236_41 rfl rfl rfl rfl rfl (r := []) rfl rfl (kI (.inl rk_210) fun r101 s101 h101 =>
 w_iload_n (p' := 45) f_236_44 rfl rfl
 (w_icmp (p' := 52) (q' := 48) f_236_45 rfl rfl
 (fun c102 => w_iconst (p' := 53) f_236_52 rfl
 (w_iret f_236_53 rk_236 (h101.1 c102)))
 (fun c102 => w_iconst (p' := 49) f_236_48 rfl
 (w_goto (p' := 53) f_236_49 rfl
 (w_iret f_236_53 rk_236 (h101.2 c102)))))) h)))
/-! ClosedRoomsModel.whyChange(II)I -/
theorem f_237_0 : fnd 237 0 = some (0, .aload_n 0, 1, 0, 0, 0, 0) := ceB_eq (by decide +kernel)
theorem f_237_1 : fnd 237 1 = some (1, .iload_n 1, 1, 0, 0, 0, 0) := ceB_eq (by decide +kernel)
theorem f_237_2 : fnd 237 2 = some (2, .invokevirtual 301, 3, 229, 2, 10, 0) := ceB_eq (by decide +kernel)
theorem f_237_5 : fnd 237 5 = some (5, .ifCond .ne 7, 3, 0, 0, 0, 0) := ceB_eq (by decide +kernel)
theorem f_237_8 : fnd 237 8 = some (8, .iconst 0, 1, 0, 0, 0, 0) := ceB_eq (by decide +kernel)
theorem f_237_9 : fnd 237 9 = some (9, .goto 33, 3, 0, 0, 0, 0) := ceB_eq (by decide +kernel)
theorem f_237_12 : fnd 237 12 = some (12, .iload_n 2, 1, 0, 0, 0, 0) := ceB_eq (by decide +kernel)
theorem f_237_13 : fnd 237 13 = some (13, .iconst 0, 1, 0, 0, 0, 0) := ceB_eq (by decide +kernel)
theorem f_237_14 : fnd 237 14 = some (14, .sipush 999, 3, 0, 0, 0, 0) := ceB_eq (by decide +kernel)
theorem f_237_17 : fnd 237 17 = some (17, .invokestatic 54, 3, 168, 3, 10, 0) := ceB_eq (by decide +kernel)
theorem f_237_20 : fnd 237 20 = some (20, .ifCond .ne 7, 3, 0, 0, 0, 0) := ceB_eq (by decide +kernel)
theorem f_237_23 : fnd 237 23 = some (23, .iconst 1, 1, 0, 0, 0, 0) := ceB_eq (by decide +kernel)
theorem f_237_24 : fnd 237 24 = some (24, .goto 18, 3, 0, 0, 0, 0) := ceB_eq (by decide +kernel)
theorem f_237_27 : fnd 237 27 = some (27, .aload_n 0, 1, 0, 0, 0, 0) := ceB_eq (by decide +kernel)
theorem f_237_28 : fnd 237 28 = some (28, .iload_n 1, 1, 0, 0, 0, 0) := ceB_eq (by decide +kernel)
theorem f_237_29 : fnd 237 29 = some (29, .iconst 5, 1, 0, 0, 0, 0) := ceB_eq (by decide +kernel)
theorem f_237_30 : fnd 237 30 = some (30, .invokevirtual 215, 3, 226, 3, 10, 0) := ceB_eq (by decide +kernel)
theorem f_237_33 : fnd 237 33 = some (33, .iload_n 2, 1, 0, 0, 0, 0) := ceB_eq (by decide +kernel)
theorem f_237_34 : fnd 237 34 = some (34, .if_icmp .ne 7, 3, 0, 0, 0, 0) := ceB_eq (by decide +kernel)
theorem f_237_37 : fnd 237 37 = some (37, .iconst 2, 1, 0, 0, 0, 0) := ceB_eq (by decide +kernel)
theorem f_237_38 : fnd 237 38 = some (38, .goto 4, 3, 0, 0, 0, 0) := ceB_eq (by decide +kernel)
theorem f_237_41 : fnd 237 41 = some (41, .iconst (-1), 1, 0, 0, 0, 0) := ceB_eq (by decide +kernel)
theorem f_237_42 : fnd 237 42 = some (42, .ireturn, 1, 0, 0, 0, 0) := ceB_eq (by decide +kernel)
theorem rk_237 : rkm 237 = 0 := by decide +kernel
theorem ml_237 : (mth 237).2.1 = 3 := by decide +kernel
set_option maxRecDepth 100000 in
theorem T_Z_whyChange (k0 i0 x1 x2 : Int) (σ : ST) (Q : Option AV → ST → Prop) (h :
  wpM m_Z_isCopy [.inr (.inr (40, k0, i0)), .inl x1] σ (asI fun r101 s101 =>
  (((r101 ≠ 0 : Prop) →
    wpM m_Z_in [.inl x2, .inl 0, .inl 999] s101 (asI fun r102 s102 =>
    (((r102 ≠ 0 : Prop) →
      wpM m_Z_ofCopy [.inr (.inr (40, k0, i0)), .inl x1, .inl 5] s102 (asI fun r103 s103 =>
      (((r103 ≠ x2 : Prop) →
        Q (some (.inl (-1))) s103) ∧
      (¬ (r103 ≠ x2) →
        Q (some (.inl 2)) s103)))) ∧
    (¬ (r102 ≠ 0) →
      Q (some (.inl 1)) s102)))) ∧
  (¬ (r101 ≠ 0) →
    Q (some (.inl 0)) s101)))) :
  wpM m_Z_whyChange [.inr (.inr (40, k0, i0)), .inl x1, .inl x2] σ Q :=
 wpM_of ml_237 (L := [some (.inr (.inr (40, k0, i0))), some (.inl x1), some (.inl x2)]) rfl
 (w_aload_n (p' := 1) f_237_0 rfl rfl
 (w_iload_n (p' := 2) f_237_1 rfl rfl
 (w_callV (p' := 5) f_237_2 rfl rfl rfl rfl rfl (r := []) rfl rfl (kI (.inr rk_229) fun r101 s101 h101 =>
 w_if (p' := 12) (q' := 8) f_237_5 rfl rfl
 (fun c106 => w_iload_n (p' := 13) f_237_12 rfl rfl
 (w_iconst (p' := 14) f_237_13 rfl
 (w_sipush (p' := 17) f_237_14 rfl
 (w_callS (p' := 20) f_237_17 rfl rfl rfl (r := []) rfl rfl (kI (.inr rk_168) fun r102 s102 h102 =>
 w_if (p' := 27) (q' := 23) f_237_20 rfl rfl
 (fun c105 => w_aload_n (p' := 28) f_237_27 rfl rfl
 (w_iload_n (p' := 29) f_237_28 rfl rfl
 (w_iconst (p' := 30) f_237_29 rfl
 (w_callV (p' := 33) f_237_30 rfl rfl rfl rfl rfl (r := []) rfl rfl (kI (.inl rk_226) fun r103 s103 h103 =>
 w_iload_n (p' := 34) f_237_33 rfl rfl
 (w_icmp (p' := 41) (q' := 37) f_237_34 rfl rfl
 (fun c104 => w_iconst (p' := 42) f_237_41 rfl
 (w_iret f_237_42 rk_237 (h103.1 c104)))
 (fun c104 => w_iconst (p' := 38) f_237_37 rfl
 (w_goto (p' := 42) f_237_38 rfl
 (w_iret f_237_42 rk_237 (h103.2 c104)))))) (h102.1 c105)))))
 (fun c105 => w_iconst (p' := 24) f_237_23 rfl
 (w_goto (p' := 42) f_237_24 rfl
 (w_iret f_237_42 rk_237 (h102.2 c105))))) (h101.1 c106)))))
 (fun c106 => w_iconst (p' := 9) f_237_8 rfl
 (w_goto (p' := 42) f_237_9 rfl
 (w_iret f_237_42 rk_237 (h101.2 c106))))) h)))
/-! ClosedRoomsModel.whyTell(II)I -/
theorem f_238_0 : fnd 238 0 = some (0, .aload_n 0, 1, 0, 0, 0, 0) := ceB_eq (by decide +kernel)
theorem f_238_1 : fnd 238 1 = some (1, .iload_n 1, 1, 0, 0, 0, 0) := ceB_eq (by decide +kernel)
theorem f_238_2 : fnd 238 2 = some (2, .invokevirtual 261, 3, 207, 2, 10, 0) := ceB_eq (by decide +kernel)
theorem f_238_5 : fnd 238 5 = some (5, .ifCond .ne 7, 3, 0, 0, 0, 0) := ceB_eq (by decide +kernel)
theorem f_238_8 : fnd 238 8 = some (8, .iconst 0, 1, 0, 0, 0, 0) := ceB_eq (by decide +kernel)
theorem f_238_9 : fnd 238 9 = some (9, .goto 41, 3, 0, 0, 0, 0) := ceB_eq (by decide +kernel)
theorem f_238_12 : fnd 238 12 = some (12, .iload_n 2, 1, 0, 0, 0, 0) := ceB_eq (by decide +kernel)
theorem f_238_13 : fnd 238 13 = some (13, .iconst 0, 1, 0, 0, 0, 0) := ceB_eq (by decide +kernel)
theorem f_238_14 : fnd 238 14 = some (14, .sipush 999, 3, 0, 0, 0, 0) := ceB_eq (by decide +kernel)
theorem f_238_17 : fnd 238 17 = some (17, .invokestatic 54, 3, 168, 3, 10, 0) := ceB_eq (by decide +kernel)
theorem f_238_20 : fnd 238 20 = some (20, .ifCond .ne 7, 3, 0, 0, 0, 0) := ceB_eq (by decide +kernel)
theorem f_238_23 : fnd 238 23 = some (23, .iconst 1, 1, 0, 0, 0, 0) := ceB_eq (by decide +kernel)
theorem f_238_24 : fnd 238 24 = some (24, .goto 26, 3, 0, 0, 0, 0) := ceB_eq (by decide +kernel)
theorem f_238_27 : fnd 238 27 = some (27, .aload_n 0, 1, 0, 0, 0, 0) := ceB_eq (by decide +kernel)
theorem f_238_28 : fnd 238 28 = some (28, .iload_n 1, 1, 0, 0, 0, 0) := ceB_eq (by decide +kernel)
theorem f_238_29 : fnd 238 29 = some (29, .invokevirtual 264, 3, 209, 2, 10, 0) := ceB_eq (by decide +kernel)
theorem f_238_32 : fnd 238 32 = some (32, .ifCond .ne 13, 3, 0, 0, 0, 0) := ceB_eq (by decide +kernel)
theorem f_238_35 : fnd 238 35 = some (35, .aload_n 0, 1, 0, 0, 0, 0) := ceB_eq (by decide +kernel)
theorem f_238_36 : fnd 238 36 = some (36, .iload_n 1, 1, 0, 0, 0, 0) := ceB_eq (by decide +kernel)
theorem f_238_37 : fnd 238 37 = some (37, .iconst 0, 1, 0, 0, 0, 0) := ceB_eq (by decide +kernel)
theorem f_238_38 : fnd 238 38 = some (38, .invokevirtual 212, 3, 208, 3, 10, 0) := ceB_eq (by decide +kernel)
theorem f_238_41 : fnd 238 41 = some (41, .iload_n 2, 1, 0, 0, 0, 0) := ceB_eq (by decide +kernel)
theorem f_238_42 : fnd 238 42 = some (42, .if_icmp .ne 7, 3, 0, 0, 0, 0) := ceB_eq (by decide +kernel)
theorem f_238_45 : fnd 238 45 = some (45, .iconst 2, 1, 0, 0, 0, 0) := ceB_eq (by decide +kernel)
theorem f_238_46 : fnd 238 46 = some (46, .goto 4, 3, 0, 0, 0, 0) := ceB_eq (by decide +kernel)
theorem f_238_49 : fnd 238 49 = some (49, .iconst (-1), 1, 0, 0, 0, 0) := ceB_eq (by decide +kernel)
theorem f_238_50 : fnd 238 50 = some (50, .ireturn, 1, 0, 0, 0, 0) := ceB_eq (by decide +kernel)
theorem rk_238 : rkm 238 = 0 := by decide +kernel
theorem ml_238 : (mth 238).2.1 = 3 := by decide +kernel
set_option maxRecDepth 100000 in
theorem T_Z_whyTell (k0 i0 x1 x2 : Int) (σ : ST) (Q : Option AV → ST → Prop) (h :
  wpM m_Z_isCore [.inr (.inr (40, k0, i0)), .inl x1] σ (asI fun r101 s101 =>
  (((r101 ≠ 0 : Prop) →
    wpM m_Z_in [.inl x2, .inl 0, .inl 999] s101 (asI fun r102 s102 =>
    (((r102 ≠ 0 : Prop) →
      wpM m_Z_isInside [.inr (.inr (40, k0, i0)), .inl x1] s102 (asI fun r103 s103 =>
      (((r103 ≠ 0 : Prop) →
        Q (some (.inl 2)) s103) ∧
      (¬ (r103 ≠ 0) →
        wpM m_Z_ofCore [.inr (.inr (40, k0, i0)), .inl x1, .inl 0] s103 (asI fun r104 s104 =>
        (((r104 ≠ x2 : Prop) →
          Q (some (.inl (-1))) s104) ∧
        (¬ (r104 ≠ x2) →
          Q (some (.inl 2)) s104))))))) ∧
    (¬ (r102 ≠ 0) →
      Q (some (.inl 1)) s102)))) ∧
  (¬ (r101 ≠ 0) →
    Q (some (.inl 0)) s101)))) :
  wpM m_Z_whyTell [.inr (.inr (40, k0, i0)), .inl x1, .inl x2] σ Q :=
 wpM_of ml_238 (L := [some (.inr (.inr (40, k0, i0))), some (.inl x1), some (.inl x2)]) rfl
 (w_aload_n (p' := 1) f_238_0 rfl rfl
 (w_iload_n (p' := 2) f_238_1 rfl rfl
 (w_callV (p' := 5) f_238_2 rfl rfl rfl rfl rfl (r := []) rfl rfl (kI (.inr rk_207) fun r101 s101 h101 =>
 w_if (p' := 12) (q' := 8) f_238_5 rfl rfl
 (fun c108 => w_iload_n (p' := 13) f_238_12 rfl rfl
 (w_iconst (p' := 14) f_238_13 rfl
 (w_sipush (p' := 17) f_238_14 rfl
 (w_callS (p' := 20) f_238_17 rfl rfl rfl (r := []) rfl rfl (kI (.inr rk_168) fun r102 s102 h102 =>
 w_if (p' := 27) (q' := 23) f_238_20 rfl rfl
 (fun c107 => w_aload_n (p' := 28) f_238_27 rfl rfl
 (w_iload_n (p' := 29) f_238_28 rfl rfl
 (w_callV (p' := 32) f_238_29 rfl rfl rfl rfl rfl (r := []) rfl rfl (kI (.inr rk_209) fun r103 s103 h103 =>
 w_if (p' := 45) (q' := 35) f_238_32 rfl rfl
 (fun c106 => w_iconst (p' := 46) f_238_45 rfl
 (w_goto (p' := 50) f_238_46 rfl
 (w_iret f_238_50 rk_238 (h103.1 c106))))
 (fun c106 => w_aload_n (p' := 36) f_238_35 rfl rfl
 (w_iload_n (p' := 37) f_238_36 rfl rfl
 (w_iconst (p' := 38) f_238_37 rfl
 (w_callV (p' := 41) f_238_38 rfl rfl rfl rfl rfl (r := []) rfl rfl (kI (.inl rk_208) fun r104 s104 h104 =>
 w_iload_n (p' := 42) f_238_41 rfl rfl
 (w_icmp (p' := 49) (q' := 45) f_238_42 rfl rfl
 (fun c105 => w_iconst (p' := 50) f_238_49 rfl
 (w_iret f_238_50 rk_238 (h104.1 c105)))
 (fun c105 => w_iconst (p' := 46) f_238_45 rfl
 (w_goto (p' := 50) f_238_46 rfl
 (w_iret f_238_50 rk_238 (h104.2 c105)))))) (h103.2 c106)))))) (h102.1 c107))))
 (fun c107 => w_iconst (p' := 24) f_238_23 rfl
 (w_goto (p' := 50) f_238_24 rfl
 (w_iret f_238_50 rk_238 (h102.2 c107))))) (h101.1 c108)))))
 (fun c108 => w_iconst (p' := 9) f_238_8 rfl
 (w_goto (p' := 50) f_238_9 rfl
 (w_iret f_238_50 rk_238 (h101.2 c108))))) h)))
/-! ClosedRoomsModel.whyNot(IIIIII)I -/
theorem f_239_0 : fnd 239 0 = some (0, .iload_n 1, 1, 0, 0, 0, 0) := ceB_eq (by decide +kernel)
theorem f_239_1 : fnd 239 1 = some (1, .tableswitch 276 0 18 #[91, 97, 122, 135, 142, 149, 159, 159, 165, 175, 184, 190, 196, 205, 214, 220, 229, 255, 262], 91, 0, 0, 0, 0) := ceB_eq (by decide +kernel)
theorem f_239_92 : fnd 239 92 = some (92, .aload_n 0, 1, 0, 0, 0, 0) := ceB_eq (by decide +kernel)
theorem f_239_93 : fnd 239 93 = some (93, .iload_n 2, 1, 0, 0, 0, 0) := ceB_eq (by decide +kernel)
theorem f_239_94 : fnd 239 94 = some (94, .invokevirtual 313, 3, 200, 2, 10, 0) := ceB_eq (by decide +kernel)
theorem f_239_97 : fnd 239 97 = some (97, .ireturn, 1, 0, 0, 0, 0) := ceB_eq (by decide +kernel)
theorem f_239_98 : fnd 239 98 = some (98, .aload_n 0, 1, 0, 0, 0, 0) := ceB_eq (by decide +kernel)
theorem f_239_99 : fnd 239 99 = some (99, .getfield 199, 3, 10, 11, 11, 0) := ceB_eq (by decide +kernel)
theorem f_239_102 : fnd 239 102 = some (102, .ifCond .ne 7, 3, 0, 0, 0, 0) := ceB_eq (by decide +kernel)
theorem f_239_105 : fnd 239 105 = some (105, .iconst 0, 1, 0, 0, 0, 0) := ceB_eq (by decide +kernel)
theorem f_239_106 : fnd 239 106 = some (106, .goto 16, 3, 0, 0, 0, 0) := ceB_eq (by decide +kernel)
theorem f_239_109 : fnd 239 109 = some (109, .aload_n 0, 1, 0, 0, 0, 0) := ceB_eq (by decide +kernel)
theorem f_239_110 : fnd 239 110 = some (110, .invokevirtual 246, 3, 197, 1, 10, 0) := ceB_eq (by decide +kernel)
theorem f_239_113 : fnd 239 113 = some (113, .iconst (-1), 1, 0, 0, 0, 0) := ceB_eq (by decide +kernel)
theorem f_239_114 : fnd 239 114 = some (114, .if_icmp .ne 7, 3, 0, 0, 0, 0) := ceB_eq (by decide +kernel)
theorem f_239_117 : fnd 239 117 = some (117, .iconst 3, 1, 0, 0, 0, 0) := ceB_eq (by decide +kernel)
theorem f_239_118 : fnd 239 118 = some (118, .goto 4, 3, 0, 0, 0, 0) := ceB_eq (by decide +kernel)
theorem f_239_121 : fnd 239 121 = some (121, .iconst (-1), 1, 0, 0, 0, 0) := ceB_eq (by decide +kernel)
theorem f_239_122 : fnd 239 122 = some (122, .ireturn, 1, 0, 0, 0, 0) := ceB_eq (by decide +kernel)
theorem f_239_123 : fnd 239 123 = some (123, .aload_n 0, 1, 0, 0, 0, 0) := ceB_eq (by decide +kernel)
theorem f_239_124 : fnd 239 124 = some (124, .iload_n 2, 1, 0, 0, 0, 0) := ceB_eq (by decide +kernel)
theorem f_239_125 : fnd 239 125 = some (125, .iload_n 3, 1, 0, 0, 0, 0) := ceB_eq (by decide +kernel)
theorem f_239_126 : fnd 239 126 = some (126, .iload 4, 2, 0, 0, 0, 0) := ceB_eq (by decide +kernel)
theorem f_239_128 : fnd 239 128 = some (128, .iload 5, 2, 0, 0, 0, 0) := ceB_eq (by decide +kernel)
theorem f_239_130 : fnd 239 130 = some (130, .iload 6, 2, 0, 0, 0, 0) := ceB_eq (by decide +kernel)
theorem f_239_132 : fnd 239 132 = some (132, .invokevirtual 316, 3, 204, 6, 10, 0) := ceB_eq (by decide +kernel)
theorem f_239_135 : fnd 239 135 = some (135, .ireturn, 1, 0, 0, 0, 0) := ceB_eq (by decide +kernel)
theorem f_239_136 : fnd 239 136 = some (136, .aload_n 0, 1, 0, 0, 0, 0) := ceB_eq (by decide +kernel)
theorem f_239_137 : fnd 239 137 = some (137, .iload_n 2, 1, 0, 0, 0, 0) := ceB_eq (by decide +kernel)
theorem f_239_138 : fnd 239 138 = some (138, .iload_n 3, 1, 0, 0, 0, 0) := ceB_eq (by decide +kernel)
theorem f_239_139 : fnd 239 139 = some (139, .invokevirtual 320, 3, 205, 3, 10, 0) := ceB_eq (by decide +kernel)
theorem f_239_142 : fnd 239 142 = some (142, .ireturn, 1, 0, 0, 0, 0) := ceB_eq (by decide +kernel)
theorem f_239_143 : fnd 239 143 = some (143, .aload_n 0, 1, 0, 0, 0, 0) := ceB_eq (by decide +kernel)
theorem f_239_144 : fnd 239 144 = some (144, .iload_n 2, 1, 0, 0, 0, 0) := ceB_eq (by decide +kernel)
theorem f_239_145 : fnd 239 145 = some (145, .iload_n 3, 1, 0, 0, 0, 0) := ceB_eq (by decide +kernel)
theorem f_239_146 : fnd 239 146 = some (146, .invokevirtual 323, 3, 206, 3, 10, 0) := ceB_eq (by decide +kernel)
theorem f_239_149 : fnd 239 149 = some (149, .ireturn, 1, 0, 0, 0, 0) := ceB_eq (by decide +kernel)
theorem f_239_150 : fnd 239 150 = some (150, .aload_n 0, 1, 0, 0, 0, 0) := ceB_eq (by decide +kernel)
theorem f_239_151 : fnd 239 151 = some (151, .iload_n 2, 1, 0, 0, 0, 0) := ceB_eq (by decide +kernel)
theorem f_239_152 : fnd 239 152 = some (152, .iload_n 3, 1, 0, 0, 0, 0) := ceB_eq (by decide +kernel)
theorem f_239_153 : fnd 239 153 = some (153, .iload 4, 2, 0, 0, 0, 0) := ceB_eq (by decide +kernel)
theorem f_239_155 : fnd 239 155 = some (155, .iconst 0, 1, 0, 0, 0, 0) := ceB_eq (by decide +kernel)
theorem f_239_156 : fnd 239 156 = some (156, .invokevirtual 326, 3, 213, 5, 10, 0) := ceB_eq (by decide +kernel)
theorem f_239_159 : fnd 239 159 = some (159, .ireturn, 1, 0, 0, 0, 0) := ceB_eq (by decide +kernel)
theorem f_239_160 : fnd 239 160 = some (160, .aload_n 0, 1, 0, 0, 0, 0) := ceB_eq (by decide +kernel)
theorem f_239_161 : fnd 239 161 = some (161, .iload_n 2, 1, 0, 0, 0, 0) := ceB_eq (by decide +kernel)
theorem f_239_162 : fnd 239 162 = some (162, .invokevirtual 330, 3, 214, 2, 10, 0) := ceB_eq (by decide +kernel)
theorem f_239_165 : fnd 239 165 = some (165, .ireturn, 1, 0, 0, 0, 0) := ceB_eq (by decide +kernel)
theorem f_239_166 : fnd 239 166 = some (166, .aload_n 0, 1, 0, 0, 0, 0) := ceB_eq (by decide +kernel)
theorem f_239_167 : fnd 239 167 = some (167, .iload_n 2, 1, 0, 0, 0, 0) := ceB_eq (by decide +kernel)
theorem f_239_168 : fnd 239 168 = some (168, .iload_n 3, 1, 0, 0, 0, 0) := ceB_eq (by decide +kernel)
theorem f_239_169 : fnd 239 169 = some (169, .iload 4, 2, 0, 0, 0, 0) := ceB_eq (by decide +kernel)
theorem f_239_171 : fnd 239 171 = some (171, .iconst 2, 1, 0, 0, 0, 0) := ceB_eq (by decide +kernel)
theorem f_239_172 : fnd 239 172 = some (172, .invokevirtual 326, 3, 213, 5, 10, 0) := ceB_eq (by decide +kernel)
theorem f_239_175 : fnd 239 175 = some (175, .ireturn, 1, 0, 0, 0, 0) := ceB_eq (by decide +kernel)
theorem f_239_176 : fnd 239 176 = some (176, .aload_n 0, 1, 0, 0, 0, 0) := ceB_eq (by decide +kernel)
theorem f_239_177 : fnd 239 177 = some (177, .iload_n 2, 1, 0, 0, 0, 0) := ceB_eq (by decide +kernel)
theorem f_239_178 : fnd 239 178 = some (178, .iload_n 3, 1, 0, 0, 0, 0) := ceB_eq (by decide +kernel)
theorem f_239_179 : fnd 239 179 = some (179, .iload 4, 2, 0, 0, 0, 0) := ceB_eq (by decide +kernel)
theorem f_239_181 : fnd 239 181 = some (181, .invokevirtual 333, 3, 217, 4, 10, 0) := ceB_eq (by decide +kernel)
theorem f_239_184 : fnd 239 184 = some (184, .ireturn, 1, 0, 0, 0, 0) := ceB_eq (by decide +kernel)
theorem f_239_185 : fnd 239 185 = some (185, .aload_n 0, 1, 0, 0, 0, 0) := ceB_eq (by decide +kernel)
theorem f_239_186 : fnd 239 186 = some (186, .iload_n 2, 1, 0, 0, 0, 0) := ceB_eq (by decide +kernel)
theorem f_239_187 : fnd 239 187 = some (187, .invokevirtual 337, 3, 220, 2, 10, 0) := ceB_eq (by decide +kernel)
theorem f_239_190 : fnd 239 190 = some (190, .ireturn, 1, 0, 0, 0, 0) := ceB_eq (by decide +kernel)
theorem f_239_191 : fnd 239 191 = some (191, .aload_n 0, 1, 0, 0, 0, 0) := ceB_eq (by decide +kernel)
theorem f_239_192 : fnd 239 192 = some (192, .iload_n 2, 1, 0, 0, 0, 0) := ceB_eq (by decide +kernel)
theorem f_239_193 : fnd 239 193 = some (193, .invokevirtual 340, 3, 222, 2, 10, 0) := ceB_eq (by decide +kernel)
theorem f_239_196 : fnd 239 196 = some (196, .ireturn, 1, 0, 0, 0, 0) := ceB_eq (by decide +kernel)
theorem f_239_197 : fnd 239 197 = some (197, .aload_n 0, 1, 0, 0, 0, 0) := ceB_eq (by decide +kernel)
theorem f_239_198 : fnd 239 198 = some (198, .iload_n 2, 1, 0, 0, 0, 0) := ceB_eq (by decide +kernel)
theorem f_239_199 : fnd 239 199 = some (199, .iload_n 3, 1, 0, 0, 0, 0) := ceB_eq (by decide +kernel)
theorem f_239_200 : fnd 239 200 = some (200, .iload 4, 2, 0, 0, 0, 0) := ceB_eq (by decide +kernel)
theorem f_239_202 : fnd 239 202 = some (202, .invokevirtual 343, 3, 228, 4, 10, 0) := ceB_eq (by decide +kernel)
theorem f_239_205 : fnd 239 205 = some (205, .ireturn, 1, 0, 0, 0, 0) := ceB_eq (by decide +kernel)
theorem f_239_206 : fnd 239 206 = some (206, .aload_n 0, 1, 0, 0, 0, 0) := ceB_eq (by decide +kernel)
theorem f_239_207 : fnd 239 207 = some (207, .iload_n 2, 1, 0, 0, 0, 0) := ceB_eq (by decide +kernel)
theorem f_239_208 : fnd 239 208 = some (208, .iload_n 3, 1, 0, 0, 0, 0) := ceB_eq (by decide +kernel)
theorem f_239_209 : fnd 239 209 = some (209, .iload 4, 2, 0, 0, 0, 0) := ceB_eq (by decide +kernel)
theorem f_239_211 : fnd 239 211 = some (211, .invokevirtual 346, 3, 232, 4, 10, 0) := ceB_eq (by decide +kernel)
theorem f_239_214 : fnd 239 214 = some (214, .ireturn, 1, 0, 0, 0, 0) := ceB_eq (by decide +kernel)
theorem f_239_215 : fnd 239 215 = some (215, .aload_n 0, 1, 0, 0, 0, 0) := ceB_eq (by decide +kernel)
theorem f_239_216 : fnd 239 216 = some (216, .iload_n 2, 1, 0, 0, 0, 0) := ceB_eq (by decide +kernel)
theorem f_239_217 : fnd 239 217 = some (217, .invokevirtual 349, 3, 235, 2, 10, 0) := ceB_eq (by decide +kernel)
theorem f_239_220 : fnd 239 220 = some (220, .ireturn, 1, 0, 0, 0, 0) := ceB_eq (by decide +kernel)
theorem f_239_221 : fnd 239 221 = some (221, .aload_n 0, 1, 0, 0, 0, 0) := ceB_eq (by decide +kernel)
theorem f_239_222 : fnd 239 222 = some (222, .iload_n 2, 1, 0, 0, 0, 0) := ceB_eq (by decide +kernel)
theorem f_239_223 : fnd 239 223 = some (223, .iload_n 3, 1, 0, 0, 0, 0) := ceB_eq (by decide +kernel)
theorem f_239_224 : fnd 239 224 = some (224, .iload 4, 2, 0, 0, 0, 0) := ceB_eq (by decide +kernel)
theorem f_239_226 : fnd 239 226 = some (226, .invokevirtual 352, 3, 236, 4, 10, 0) := ceB_eq (by decide +kernel)
theorem f_239_229 : fnd 239 229 = some (229, .ireturn, 1, 0, 0, 0, 0) := ceB_eq (by decide +kernel)
theorem f_239_230 : fnd 239 230 = some (230, .aload_n 0, 1, 0, 0, 0, 0) := ceB_eq (by decide +kernel)
theorem f_239_231 : fnd 239 231 = some (231, .iload_n 2, 1, 0, 0, 0, 0) := ceB_eq (by decide +kernel)
theorem f_239_232 : fnd 239 232 = some (232, .invokevirtual 301, 3, 229, 2, 10, 0) := ceB_eq (by decide +kernel)
theorem f_239_235 : fnd 239 235 = some (235, .ifCond .ne 7, 3, 0, 0, 0, 0) := ceB_eq (by decide +kernel)
theorem f_239_238 : fnd 239 238 = some (238, .iconst 0, 1, 0, 0, 0, 0) := ceB_eq (by decide +kernel)
theorem f_239_239 : fnd 239 239 = some (239, .goto 16, 3, 0, 0, 0, 0) := ceB_eq (by decide +kernel)
theorem f_239_242 : fnd 239 242 = some (242, .aload_n 0, 1, 0, 0, 0, 0) := ceB_eq (by decide +kernel)
theorem f_239_243 : fnd 239 243 = some (243, .invokevirtual 295, 3, 227, 1, 10, 0) := ceB_eq (by decide +kernel)
theorem f_239_246 : fnd 239 246 = some (246, .iconst (-1), 1, 0, 0, 0, 0) := ceB_eq (by decide +kernel)
theorem f_239_247 : fnd 239 247 = some (247, .if_icmp .ne 7, 3, 0, 0, 0, 0) := ceB_eq (by decide +kernel)
theorem f_239_250 : fnd 239 250 = some (250, .iconst 3, 1, 0, 0, 0, 0) := ceB_eq (by decide +kernel)
theorem f_239_251 : fnd 239 251 = some (251, .goto 4, 3, 0, 0, 0, 0) := ceB_eq (by decide +kernel)
theorem f_239_254 : fnd 239 254 = some (254, .iconst (-1), 1, 0, 0, 0, 0) := ceB_eq (by decide +kernel)
theorem f_239_255 : fnd 239 255 = some (255, .ireturn, 1, 0, 0, 0, 0) := ceB_eq (by decide +kernel)
theorem f_239_256 : fnd 239 256 = some (256, .aload_n 0, 1, 0, 0, 0, 0) := ceB_eq (by decide +kernel)
theorem f_239_257 : fnd 239 257 = some (257, .iload_n 2, 1, 0, 0, 0, 0) := ceB_eq (by decide +kernel)
theorem f_239_258 : fnd 239 258 = some (258, .iload_n 3, 1, 0, 0, 0, 0) := ceB_eq (by decide +kernel)
theorem f_239_259 : fnd 239 259 = some (259, .invokevirtual 355, 3, 237, 3, 10, 0) := ceB_eq (by decide +kernel)
theorem f_239_262 : fnd 239 262 = some (262, .ireturn, 1, 0, 0, 0, 0) := ceB_eq (by decide +kernel)
theorem f_239_263 : fnd 239 263 = some (263, .aload_n 0, 1, 0, 0, 0, 0) := ceB_eq (by decide +kernel)
theorem f_239_264 : fnd 239 264 = some (264, .iload_n 2, 1, 0, 0, 0, 0) := ceB_eq (by decide +kernel)
theorem f_239_265 : fnd 239 265 = some (265, .invokevirtual 301, 3, 229, 2, 10, 0) := ceB_eq (by decide +kernel)
theorem f_239_268 : fnd 239 268 = some (268, .ifCond .ne 7, 3, 0, 0, 0, 0) := ceB_eq (by decide +kernel)
theorem f_239_271 : fnd 239 271 = some (271, .iconst 0, 1, 0, 0, 0, 0) := ceB_eq (by decide +kernel)
theorem f_239_272 : fnd 239 272 = some (272, .goto 4, 3, 0, 0, 0, 0) := ceB_eq (by decide +kernel)
theorem f_239_275 : fnd 239 275 = some (275, .iconst (-1), 1, 0, 0, 0, 0) := ceB_eq (by decide +kernel)
theorem f_239_276 : fnd 239 276 = some (276, .ireturn, 1, 0, 0, 0, 0) := ceB_eq (by decide +kernel)
theorem f_239_277 : fnd 239 277 = some (277, .aload_n 0, 1, 0, 0, 0, 0) := ceB_eq (by decide +kernel)
theorem f_239_278 : fnd 239 278 = some (278, .iload_n 2, 1, 0, 0, 0, 0) := ceB_eq (by decide +kernel)
theorem f_239_279 : fnd 239 279 = some (279, .iload_n 3, 1, 0, 0, 0, 0) := ceB_eq (by decide +kernel)
theorem f_239_280 : fnd 239 280 = some (280, .invokevirtual 358, 3, 238, 3, 10, 0) := ceB_eq (by decide +kernel)
theorem f_239_283 : fnd 239 283 = some (283, .ireturn, 1, 0, 0, 0, 0) := ceB_eq (by decide +kernel)
theorem rk_239 : rkm 239 = 0 := by decide +kernel
theorem ml_239 : (mth 239).2.1 = 7 := by decide +kernel
set_option maxRecDepth 100000 in
theorem T_Z_whyNot (k0 i0 x1 x2 x3 x4 x5 x6 : Int) (σ : ST) (Q : Option AV → ST → Prop) (h :
  ((x1 = 0 →
    wpM m_Z_whyCreate [.inr (.inr (40, k0, i0)), .inl x2] σ (asI fun r101 s101 =>
    Q (some (.inl r101)) s101)) ∧ (x1 ≠ 0 →
  ((x1 = 1 →
    ((((bz (σ 40 k0 i0 11)) ≠ 0 : Prop) →
      wpM m_Z_freePage [.inr (.inr (40, k0, i0))] σ (asI fun r102 s102 =>
      (((r102 ≠ (-1) : Prop) →
        Q (some (.inl (-1))) s102) ∧
      (¬ (r102 ≠ (-1)) →
        Q (some (.inl 3)) s102)))) ∧
    (¬ ((bz (σ 40 k0 i0 11)) ≠ 0) →
      Q (some (.inl 0)) σ))) ∧ (x1 ≠ 1 →
  ((x1 = 2 →
    wpM m_Z_whyAdd [.inr (.inr (40, k0, i0)), .inl x2, .inl x3, .inl x4, .inl x5, .inl x6] σ (asI fun r105 s105 =>
    Q (some (.inl r105)) s105)) ∧ (x1 ≠ 2 →
  ((x1 = 3 →
    wpM m_Z_whyExtend [.inr (.inr (40, k0, i0)), .inl x2, .inl x3] σ (asI fun r106 s106 =>
    Q (some (.inl r106)) s106)) ∧ (x1 ≠ 3 →
  ((x1 = 4 →
    wpM m_Z_whySeal [.inr (.inr (40, k0, i0)), .inl x2, .inl x3] σ (asI fun r107 s107 =>
    Q (some (.inl r107)) s107)) ∧ (x1 ≠ 4 →
  ((x1 = 5 →
    wpM m_Z_whyEnter [.inr (.inr (40, k0, i0)), .inl x2, .inl x3, .inl x4, .inl 0] σ (asI fun r108 s108 =>
    Q (some (.inl r108)) s108)) ∧ (x1 ≠ 5 →
  ((x1 = 6 →
    wpM m_Z_whyLeave [.inr (.inr (40, k0, i0)), .inl x2] σ (asI fun r109 s109 =>
    Q (some (.inl r109)) s109)) ∧ (x1 ≠ 6 →
  ((x1 = 7 →
    wpM m_Z_whyLeave [.inr (.inr (40, k0, i0)), .inl x2] σ (asI fun r110 s110 =>
    Q (some (.inl r110)) s110)) ∧ (x1 ≠ 7 →
  ((x1 = 8 →
    wpM m_Z_whyEnter [.inr (.inr (40, k0, i0)), .inl x2, .inl x3, .inl x4, .inl 2] σ (asI fun r111 s111 =>
    Q (some (.inl r111)) s111)) ∧ (x1 ≠ 8 →
  ((x1 = 9 →
    wpM m_Z_whyTouch [.inr (.inr (40, k0, i0)), .inl x2, .inl x3, .inl x4] σ (asI fun r112 s112 =>
    Q (some (.inl r112)) s112)) ∧ (x1 ≠ 9 →
  ((x1 = 10 →
    wpM m_Z_whyBlock [.inr (.inr (40, k0, i0)), .inl x2] σ (asI fun r113 s113 =>
    Q (some (.inl r113)) s113)) ∧ (x1 ≠ 10 →
  ((x1 = 11 →
    wpM m_Z_whyTrack [.inr (.inr (40, k0, i0)), .inl x2] σ (asI fun r114 s114 =>
    Q (some (.inl r114)) s114)) ∧ (x1 ≠ 11 →
  ((x1 = 12 →
    wpM m_Z_whyEvict [.inr (.inr (40, k0, i0)), .inl x2, .inl x3, .inl x4] σ (asI fun r115 s115 =>
    Q (some (.inl r115)) s115)) ∧ (x1 ≠ 12 →
  ((x1 = 13 →
    wpM m_Z_whyLoad [.inr (.inr (40, k0, i0)), .inl x2, .inl x3, .inl x4] σ (asI fun r116 s116 =>
    Q (some (.inl r116)) s116)) ∧ (x1 ≠ 13 →
  ((x1 = 14 →
    wpM m_Z_whyRemove [.inr (.inr (40, k0, i0)), .inl x2] σ (asI fun r117 s117 =>
    Q (some (.inl r117)) s117)) ∧ (x1 ≠ 14 →
  ((x1 = 15 →
    wpM m_Z_whyMap [.inr (.inr (40, k0, i0)), .inl x2, .inl x3, .inl x4] σ (asI fun r118 s118 =>
    Q (some (.inl r118)) s118)) ∧ (x1 ≠ 15 →
  ((x1 = 16 →
    wpM m_Z_isCopy [.inr (.inr (40, k0, i0)), .inl x2] σ (asI fun r119 s119 =>
    (((r119 ≠ 0 : Prop) →
      wpM m_Z_freePlace [.inr (.inr (40, k0, i0))] s119 (asI fun r120 s120 =>
      (((r120 ≠ (-1) : Prop) →
        Q (some (.inl (-1))) s120) ∧
      (¬ (r120 ≠ (-1)) →
        Q (some (.inl 3)) s120)))) ∧
    (¬ (r119 ≠ 0) →
      Q (some (.inl 0)) s119)))) ∧ (x1 ≠ 16 →
  ((x1 = 17 →
    wpM m_Z_whyChange [.inr (.inr (40, k0, i0)), .inl x2, .inl x3] σ (asI fun r123 s123 =>
    Q (some (.inl r123)) s123)) ∧ (x1 ≠ 17 →
  ((x1 = 18 →
    wpM m_Z_isCopy [.inr (.inr (40, k0, i0)), .inl x2] σ (asI fun r124 s124 =>
    (((r124 ≠ 0 : Prop) →
      Q (some (.inl (-1))) s124) ∧
    (¬ (r124 ≠ 0) →
      Q (some (.inl 0)) s124)))) ∧ (x1 ≠ 18 →
    wpM m_Z_whyTell [.inr (.inr (40, k0, i0)), .inl x2, .inl x3] σ (asI fun r126 s126 =>
    Q (some (.inl r126)) s126)))))))))))))))))))))))))))))))))))))))) :
  wpM m_Z_whyNot [.inr (.inr (40, k0, i0)), .inl x1, .inl x2, .inl x3, .inl x4, .inl x5, .inl x6] σ Q :=
 wpM_of ml_239 (L := [some (.inr (.inr (40, k0, i0))), some (.inl x1), some (.inl x2), some (.inl x3), some (.inl x4), some (.inl x5), some (.inl x6)]) rfl
 (w_iload_n (p' := 1) f_239_0 rfl rfl
 (w_switch f_239_1 (cs := [(0, 92), (1, 98), (2, 123), (3, 136), (4, 143), (5, 150), (6, 160), (7, 160), (8, 166), (9, 176), (10, 185), (11, 191), (12, 197), (13, 206), (14, 215), (15, 221), (16, 230), (17, 256), (18, 263)]) rfl (d' := 277) rfl
 (⟨fun c127 => w_aload_n (p' := 93) f_239_92 rfl rfl
 (w_iload_n (p' := 94) f_239_93 rfl rfl
 (w_callV (p' := 97) f_239_94 rfl rfl rfl rfl rfl (r := []) rfl rfl (kI (.inl rk_200) fun r101 s101 h101 =>
 w_iret f_239_97 rk_239 h101) (h.1 c127))), fun c127_0 =>
 ⟨fun c127 => w_aload_n (p' := 99) f_239_98 rfl rfl
 (w_getfield (p' := 102) f_239_99 rfl (x := .inl (bz (σ 40 k0 i0 11))) rfl rfl
 (w_if (p' := 109) (q' := 105) f_239_102 rfl rfl
 (fun c104 => w_aload_n (p' := 110) f_239_109 rfl rfl
 (w_callV (p' := 113) f_239_110 rfl rfl rfl rfl rfl (r := []) rfl rfl (kI (.inl rk_197) fun r102 s102 h102 =>
 w_iconst (p' := 114) f_239_113 rfl
 (w_icmp (p' := 121) (q' := 117) f_239_114 rfl rfl
 (fun c103 => w_iconst (p' := 122) f_239_121 rfl
 (w_iret f_239_122 rk_239 (h102.1 c103)))
 (fun c103 => w_iconst (p' := 118) f_239_117 rfl
 (w_goto (p' := 122) f_239_118 rfl
 (w_iret f_239_122 rk_239 (h102.2 c103)))))) (((h.2 c127_0).1 c127).1 c104)))
 (fun c104 => w_iconst (p' := 106) f_239_105 rfl
 (w_goto (p' := 122) f_239_106 rfl
 (w_iret f_239_122 rk_239 (((h.2 c127_0).1 c127).2 c104)))))), fun c127_1 =>
 ⟨fun c127 => w_aload_n (p' := 124) f_239_123 rfl rfl
 (w_iload_n (p' := 125) f_239_124 rfl rfl
 (w_iload_n (p' := 126) f_239_125 rfl rfl
 (w_iload (p' := 128) f_239_126 rfl rfl
 (w_iload (p' := 130) f_239_128 rfl rfl
 (w_iload (p' := 132) f_239_130 rfl rfl
 (w_callV (p' := 135) f_239_132 rfl rfl rfl rfl rfl (r := []) rfl rfl (kI (.inl rk_204) fun r105 s105 h105 =>
 w_iret f_239_135 rk_239 h105) (((h.2 c127_0).2 c127_1).1 c127))))))), fun c127_2 =>
 ⟨fun c127 => w_aload_n (p' := 137) f_239_136 rfl rfl
 (w_iload_n (p' := 138) f_239_137 rfl rfl
 (w_iload_n (p' := 139) f_239_138 rfl rfl
 (w_callV (p' := 142) f_239_139 rfl rfl rfl rfl rfl (r := []) rfl rfl (kI (.inl rk_205) fun r106 s106 h106 =>
 w_iret f_239_142 rk_239 h106) ((((h.2 c127_0).2 c127_1).2 c127_2).1 c127)))), fun c127_3 =>
 ⟨fun c127 => w_aload_n (p' := 144) f_239_143 rfl rfl
 (w_iload_n (p' := 145) f_239_144 rfl rfl
 (w_iload_n (p' := 146) f_239_145 rfl rfl
 (w_callV (p' := 149) f_239_146 rfl rfl rfl rfl rfl (r := []) rfl rfl (kI (.inl rk_206) fun r107 s107 h107 =>
 w_iret f_239_149 rk_239 h107) (((((h.2 c127_0).2 c127_1).2 c127_2).2 c127_3).1 c127)))), fun c127_4 =>
 ⟨fun c127 => w_aload_n (p' := 151) f_239_150 rfl rfl
 (w_iload_n (p' := 152) f_239_151 rfl rfl
 (w_iload_n (p' := 153) f_239_152 rfl rfl
 (w_iload (p' := 155) f_239_153 rfl rfl
 (w_iconst (p' := 156) f_239_155 rfl
 (w_callV (p' := 159) f_239_156 rfl rfl rfl rfl rfl (r := []) rfl rfl (kI (.inl rk_213) fun r108 s108 h108 =>
 w_iret f_239_159 rk_239 h108) ((((((h.2 c127_0).2 c127_1).2 c127_2).2 c127_3).2 c127_4).1 c127)))))), fun c127_5 =>
 ⟨fun c127 => w_aload_n (p' := 161) f_239_160 rfl rfl
 (w_iload_n (p' := 162) f_239_161 rfl rfl
 (w_callV (p' := 165) f_239_162 rfl rfl rfl rfl rfl (r := []) rfl rfl (kI (.inl rk_214) fun r109 s109 h109 =>
 w_iret f_239_165 rk_239 h109) (((((((h.2 c127_0).2 c127_1).2 c127_2).2 c127_3).2 c127_4).2 c127_5).1 c127))), fun c127_6 =>
 ⟨fun c127 => w_aload_n (p' := 161) f_239_160 rfl rfl
 (w_iload_n (p' := 162) f_239_161 rfl rfl
 (w_callV (p' := 165) f_239_162 rfl rfl rfl rfl rfl (r := []) rfl rfl (kI (.inl rk_214) fun r110 s110 h110 =>
 w_iret f_239_165 rk_239 h110) ((((((((h.2 c127_0).2 c127_1).2 c127_2).2 c127_3).2 c127_4).2 c127_5).2 c127_6).1 c127))), fun c127_7 =>
 ⟨fun c127 => w_aload_n (p' := 167) f_239_166 rfl rfl
 (w_iload_n (p' := 168) f_239_167 rfl rfl
 (w_iload_n (p' := 169) f_239_168 rfl rfl
 (w_iload (p' := 171) f_239_169 rfl rfl
 (w_iconst (p' := 172) f_239_171 rfl
 (w_callV (p' := 175) f_239_172 rfl rfl rfl rfl rfl (r := []) rfl rfl (kI (.inl rk_213) fun r111 s111 h111 =>
 w_iret f_239_175 rk_239 h111) (((((((((h.2 c127_0).2 c127_1).2 c127_2).2 c127_3).2 c127_4).2 c127_5).2 c127_6).2 c127_7).1 c127)))))), fun c127_8 =>
 ⟨fun c127 => w_aload_n (p' := 177) f_239_176 rfl rfl
 (w_iload_n (p' := 178) f_239_177 rfl rfl
 (w_iload_n (p' := 179) f_239_178 rfl rfl
 (w_iload (p' := 181) f_239_179 rfl rfl
 (w_callV (p' := 184) f_239_181 rfl rfl rfl rfl rfl (r := []) rfl rfl (kI (.inl rk_217) fun r112 s112 h112 =>
 w_iret f_239_184 rk_239 h112) ((((((((((h.2 c127_0).2 c127_1).2 c127_2).2 c127_3).2 c127_4).2 c127_5).2 c127_6).2 c127_7).2 c127_8).1 c127))))), fun c127_9 =>
 ⟨fun c127 => w_aload_n (p' := 186) f_239_185 rfl rfl
 (w_iload_n (p' := 187) f_239_186 rfl rfl
 (w_callV (p' := 190) f_239_187 rfl rfl rfl rfl rfl (r := []) rfl rfl (kI (.inl rk_220) fun r113 s113 h113 =>
 w_iret f_239_190 rk_239 h113) (((((((((((h.2 c127_0).2 c127_1).2 c127_2).2 c127_3).2 c127_4).2 c127_5).2 c127_6).2 c127_7).2 c127_8).2 c127_9).1 c127))), fun c127_10 =>
 ⟨fun c127 => w_aload_n (p' := 192) f_239_191 rfl rfl
 (w_iload_n (p' := 193) f_239_192 rfl rfl
 (w_callV (p' := 196) f_239_193 rfl rfl rfl rfl rfl (r := []) rfl rfl (kI (.inl rk_222) fun r114 s114 h114 =>
 w_iret f_239_196 rk_239 h114) ((((((((((((h.2 c127_0).2 c127_1).2 c127_2).2 c127_3).2 c127_4).2 c127_5).2 c127_6).2 c127_7).2 c127_8).2 c127_9).2 c127_10).1 c127))), fun c127_11 =>
 ⟨fun c127 => w_aload_n (p' := 198) f_239_197 rfl rfl
 (w_iload_n (p' := 199) f_239_198 rfl rfl
 (w_iload_n (p' := 200) f_239_199 rfl rfl
 (w_iload (p' := 202) f_239_200 rfl rfl
 (w_callV (p' := 205) f_239_202 rfl rfl rfl rfl rfl (r := []) rfl rfl (kI (.inl rk_228) fun r115 s115 h115 =>
 w_iret f_239_205 rk_239 h115) (((((((((((((h.2 c127_0).2 c127_1).2 c127_2).2 c127_3).2 c127_4).2 c127_5).2 c127_6).2 c127_7).2 c127_8).2 c127_9).2 c127_10).2 c127_11).1 c127))))), fun c127_12 =>
 ⟨fun c127 => w_aload_n (p' := 207) f_239_206 rfl rfl
 (w_iload_n (p' := 208) f_239_207 rfl rfl
 (w_iload_n (p' := 209) f_239_208 rfl rfl
 (w_iload (p' := 211) f_239_209 rfl rfl
 (w_callV (p' := 214) f_239_211 rfl rfl rfl rfl rfl (r := []) rfl rfl (kI (.inl rk_232) fun r116 s116 h116 =>
 w_iret f_239_214 rk_239 h116) ((((((((((((((h.2 c127_0).2 c127_1).2 c127_2).2 c127_3).2 c127_4).2 c127_5).2 c127_6).2 c127_7).2 c127_8).2 c127_9).2 c127_10).2 c127_11).2 c127_12).1 c127))))), fun c127_13 =>
 ⟨fun c127 => w_aload_n (p' := 216) f_239_215 rfl rfl
 (w_iload_n (p' := 217) f_239_216 rfl rfl
 (w_callV (p' := 220) f_239_217 rfl rfl rfl rfl rfl (r := []) rfl rfl (kI (.inl rk_235) fun r117 s117 h117 =>
 w_iret f_239_220 rk_239 h117) (((((((((((((((h.2 c127_0).2 c127_1).2 c127_2).2 c127_3).2 c127_4).2 c127_5).2 c127_6).2 c127_7).2 c127_8).2 c127_9).2 c127_10).2 c127_11).2 c127_12).2 c127_13).1 c127))), fun c127_14 =>
 ⟨fun c127 => w_aload_n (p' := 222) f_239_221 rfl rfl
 (w_iload_n (p' := 223) f_239_222 rfl rfl
 (w_iload_n (p' := 224) f_239_223 rfl rfl
 (w_iload (p' := 226) f_239_224 rfl rfl
 (w_callV (p' := 229) f_239_226 rfl rfl rfl rfl rfl (r := []) rfl rfl (kI (.inl rk_236) fun r118 s118 h118 =>
 w_iret f_239_229 rk_239 h118) ((((((((((((((((h.2 c127_0).2 c127_1).2 c127_2).2 c127_3).2 c127_4).2 c127_5).2 c127_6).2 c127_7).2 c127_8).2 c127_9).2 c127_10).2 c127_11).2 c127_12).2 c127_13).2 c127_14).1 c127))))), fun c127_15 =>
 ⟨fun c127 => w_aload_n (p' := 231) f_239_230 rfl rfl
 (w_iload_n (p' := 232) f_239_231 rfl rfl
 (w_callV (p' := 235) f_239_232 rfl rfl rfl rfl rfl (r := []) rfl rfl (kI (.inr rk_229) fun r119 s119 h119 =>
 w_if (p' := 242) (q' := 238) f_239_235 rfl rfl
 (fun c122 => w_aload_n (p' := 243) f_239_242 rfl rfl
 (w_callV (p' := 246) f_239_243 rfl rfl rfl rfl rfl (r := []) rfl rfl (kI (.inl rk_227) fun r120 s120 h120 =>
 w_iconst (p' := 247) f_239_246 rfl
 (w_icmp (p' := 254) (q' := 250) f_239_247 rfl rfl
 (fun c121 => w_iconst (p' := 255) f_239_254 rfl
 (w_iret f_239_255 rk_239 (h120.1 c121)))
 (fun c121 => w_iconst (p' := 251) f_239_250 rfl
 (w_goto (p' := 255) f_239_251 rfl
 (w_iret f_239_255 rk_239 (h120.2 c121)))))) (h119.1 c122)))
 (fun c122 => w_iconst (p' := 239) f_239_238 rfl
 (w_goto (p' := 255) f_239_239 rfl
 (w_iret f_239_255 rk_239 (h119.2 c122))))) (((((((((((((((((h.2 c127_0).2 c127_1).2 c127_2).2 c127_3).2 c127_4).2 c127_5).2 c127_6).2 c127_7).2 c127_8).2 c127_9).2 c127_10).2 c127_11).2 c127_12).2 c127_13).2 c127_14).2 c127_15).1 c127))), fun c127_16 =>
 ⟨fun c127 => w_aload_n (p' := 257) f_239_256 rfl rfl
 (w_iload_n (p' := 258) f_239_257 rfl rfl
 (w_iload_n (p' := 259) f_239_258 rfl rfl
 (w_callV (p' := 262) f_239_259 rfl rfl rfl rfl rfl (r := []) rfl rfl (kI (.inl rk_237) fun r123 s123 h123 =>
 w_iret f_239_262 rk_239 h123) ((((((((((((((((((h.2 c127_0).2 c127_1).2 c127_2).2 c127_3).2 c127_4).2 c127_5).2 c127_6).2 c127_7).2 c127_8).2 c127_9).2 c127_10).2 c127_11).2 c127_12).2 c127_13).2 c127_14).2 c127_15).2 c127_16).1 c127)))), fun c127_17 =>
 ⟨fun c127 => w_aload_n (p' := 264) f_239_263 rfl rfl
 (w_iload_n (p' := 265) f_239_264 rfl rfl
 (w_callV (p' := 268) f_239_265 rfl rfl rfl rfl rfl (r := []) rfl rfl (kI (.inr rk_229) fun r124 s124 h124 =>
 w_if (p' := 275) (q' := 271) f_239_268 rfl rfl
 (fun c125 => w_iconst (p' := 276) f_239_275 rfl
 (w_iret f_239_276 rk_239 (h124.1 c125)))
 (fun c125 => w_iconst (p' := 272) f_239_271 rfl
 (w_goto (p' := 276) f_239_272 rfl
 (w_iret f_239_276 rk_239 (h124.2 c125))))) (((((((((((((((((((h.2 c127_0).2 c127_1).2 c127_2).2 c127_3).2 c127_4).2 c127_5).2 c127_6).2 c127_7).2 c127_8).2 c127_9).2 c127_10).2 c127_11).2 c127_12).2 c127_13).2 c127_14).2 c127_15).2 c127_16).2 c127_17).1 c127))), fun c127_18 =>
 w_aload_n (p' := 278) f_239_277 rfl rfl
 (w_iload_n (p' := 279) f_239_278 rfl rfl
 (w_iload_n (p' := 280) f_239_279 rfl rfl
 (w_callV (p' := 283) f_239_280 rfl rfl rfl rfl rfl (r := []) rfl rfl (kI (.inl rk_238) fun r126 s126 h126 =>
 w_iret f_239_283 rk_239 h126) (((((((((((((((((((h.2 c127_0).2 c127_1).2 c127_2).2 c127_3).2 c127_4).2 c127_5).2 c127_6).2 c127_7).2 c127_8).2 c127_9).2 c127_10).2 c127_11).2 c127_12).2 c127_13).2 c127_14).2 c127_15).2 c127_16).2 c127_17).2 c127_18))))⟩⟩⟩⟩⟩⟩⟩⟩⟩⟩⟩⟩⟩⟩⟩⟩⟩⟩⟩)))
/-! ClosedRoomsModel.keep()V -/
theorem f_240_0 : fnd 240 0 = some (0, .aload_n 0, 1, 0, 0, 0, 0) := ceB_eq (by decide +kernel)
theorem f_240_1 : fnd 240 1 = some (1, .getfield 228, 3, 10, 18, 18, 0) := ceB_eq (by decide +kernel)
theorem f_240_4 : fnd 240 4 = some (4, .bipush 40, 2, 0, 0, 0, 0) := ceB_eq (by decide +kernel)
theorem f_240_6 : fnd 240 6 = some (6, .if_icmp .ne 46, 3, 0, 0, 0, 0) := ceB_eq (by decide +kernel)
theorem f_240_9 : fnd 240 9 = some (9, .sipush 526, 3, 0, 0, 0, 0) := ceB_eq (by decide +kernel)
theorem f_240_12 : fnd 240 12 = some (12, .istore_n 1, 1, 0, 0, 0, 0) := ceB_eq (by decide +kernel)
theorem f_240_13 : fnd 240 13 = some (13, .iload_n 1, 1, 0, 0, 0, 0) := ceB_eq (by decide +kernel)
theorem f_240_14 : fnd 240 14 = some (14, .sipush 21040, 3, 0, 0, 0, 0) := ceB_eq (by decide +kernel)
theorem f_240_17 : fnd 240 17 = some (17, .if_icmp .ge 25, 3, 0, 0, 0, 0) := ceB_eq (by decide +kernel)
theorem f_240_20 : fnd 240 20 = some (20, .aload_n 0, 1, 0, 0, 0, 0) := ceB_eq (by decide +kernel)
theorem f_240_21 : fnd 240 21 = some (21, .getfield 31, 3, 10, 17, 17, 0) := ceB_eq (by decide +kernel)
theorem f_240_24 : fnd 240 24 = some (24, .iload_n 1, 1, 0, 0, 0, 0) := ceB_eq (by decide +kernel)
theorem f_240_25 : fnd 240 25 = some (25, .sipush 526, 3, 0, 0, 0, 0) := ceB_eq (by decide +kernel)
theorem f_240_28 : fnd 240 28 = some (28, .isub, 1, 0, 0, 0, 0) := ceB_eq (by decide +kernel)
theorem f_240_29 : fnd 240 29 = some (29, .aload_n 0, 1, 0, 0, 0, 0) := ceB_eq (by decide +kernel)
theorem f_240_30 : fnd 240 30 = some (30, .getfield 31, 3, 10, 17, 17, 0) := ceB_eq (by decide +kernel)
theorem f_240_33 : fnd 240 33 = some (33, .iload_n 1, 1, 0, 0, 0, 0) := ceB_eq (by decide +kernel)
theorem f_240_34 : fnd 240 34 = some (34, .iaload, 1, 0, 0, 0, 0) := ceB_eq (by decide +kernel)
theorem f_240_35 : fnd 240 35 = some (35, .iastore, 1, 0, 0, 0, 0) := ceB_eq (by decide +kernel)
theorem f_240_36 : fnd 240 36 = some (36, .iinc 1 1, 3, 0, 0, 0, 0) := ceB_eq (by decide +kernel)
theorem f_240_39 : fnd 240 39 = some (39, .goto (-26), 3, 0, 0, 0, 0) := ceB_eq (by decide +kernel)
theorem f_240_42 : fnd 240 42 = some (42, .aload_n 0, 1, 0, 0, 0, 0) := ceB_eq (by decide +kernel)
theorem f_240_43 : fnd 240 43 = some (43, .dup, 1, 0, 0, 0, 0) := ceB_eq (by decide +kernel)
theorem f_240_44 : fnd 240 44 = some (44, .getfield 228, 3, 10, 18, 18, 0) := ceB_eq (by decide +kernel)
theorem f_240_47 : fnd 240 47 = some (47, .iconst 1, 1, 0, 0, 0, 0) := ceB_eq (by decide +kernel)
theorem f_240_48 : fnd 240 48 = some (48, .isub, 1, 0, 0, 0, 0) := ceB_eq (by decide +kernel)
theorem f_240_49 : fnd 240 49 = some (49, .putfield 228, 3, 10, 18, 18, 0) := ceB_eq (by decide +kernel)
theorem f_240_52 : fnd 240 52 = some (52, .iconst 0, 1, 0, 0, 0, 0) := ceB_eq (by decide +kernel)
theorem f_240_53 : fnd 240 53 = some (53, .istore_n 1, 1, 0, 0, 0, 0) := ceB_eq (by decide +kernel)
theorem f_240_54 : fnd 240 54 = some (54, .iload_n 1, 1, 0, 0, 0, 0) := ceB_eq (by decide +kernel)
theorem f_240_55 : fnd 240 55 = some (55, .sipush 526, 3, 0, 0, 0, 0) := ceB_eq (by decide +kernel)
theorem f_240_58 : fnd 240 58 = some (58, .if_icmp .ge 30, 3, 0, 0, 0, 0) := ceB_eq (by decide +kernel)
theorem f_240_61 : fnd 240 61 = some (61, .aload_n 0, 1, 0, 0, 0, 0) := ceB_eq (by decide +kernel)
theorem f_240_62 : fnd 240 62 = some (62, .getfield 31, 3, 10, 17, 17, 0) := ceB_eq (by decide +kernel)
theorem f_240_65 : fnd 240 65 = some (65, .sipush 526, 3, 0, 0, 0, 0) := ceB_eq (by decide +kernel)
theorem f_240_68 : fnd 240 68 = some (68, .aload_n 0, 1, 0, 0, 0, 0) := ceB_eq (by decide +kernel)
theorem f_240_69 : fnd 240 69 = some (69, .getfield 228, 3, 10, 18, 18, 0) := ceB_eq (by decide +kernel)
theorem f_240_72 : fnd 240 72 = some (72, .imul, 1, 0, 0, 0, 0) := ceB_eq (by decide +kernel)
theorem f_240_73 : fnd 240 73 = some (73, .iload_n 1, 1, 0, 0, 0, 0) := ceB_eq (by decide +kernel)
theorem f_240_74 : fnd 240 74 = some (74, .iadd, 1, 0, 0, 0, 0) := ceB_eq (by decide +kernel)
theorem f_240_75 : fnd 240 75 = some (75, .aload_n 0, 1, 0, 0, 0, 0) := ceB_eq (by decide +kernel)
theorem f_240_76 : fnd 240 76 = some (76, .getfield 25, 3, 10, 15, 15, 0) := ceB_eq (by decide +kernel)
theorem f_240_79 : fnd 240 79 = some (79, .iload_n 1, 1, 0, 0, 0, 0) := ceB_eq (by decide +kernel)
theorem f_240_80 : fnd 240 80 = some (80, .iaload, 1, 0, 0, 0, 0) := ceB_eq (by decide +kernel)
theorem f_240_81 : fnd 240 81 = some (81, .iastore, 1, 0, 0, 0, 0) := ceB_eq (by decide +kernel)
theorem f_240_82 : fnd 240 82 = some (82, .iinc 1 1, 3, 0, 0, 0, 0) := ceB_eq (by decide +kernel)
theorem f_240_85 : fnd 240 85 = some (85, .goto (-31), 3, 0, 0, 0, 0) := ceB_eq (by decide +kernel)
theorem f_240_88 : fnd 240 88 = some (88, .aload_n 0, 1, 0, 0, 0, 0) := ceB_eq (by decide +kernel)
theorem f_240_89 : fnd 240 89 = some (89, .dup, 1, 0, 0, 0, 0) := ceB_eq (by decide +kernel)
theorem f_240_90 : fnd 240 90 = some (90, .getfield 228, 3, 10, 18, 18, 0) := ceB_eq (by decide +kernel)
theorem f_240_93 : fnd 240 93 = some (93, .iconst 1, 1, 0, 0, 0, 0) := ceB_eq (by decide +kernel)
theorem f_240_94 : fnd 240 94 = some (94, .iadd, 1, 0, 0, 0, 0) := ceB_eq (by decide +kernel)
theorem f_240_95 : fnd 240 95 = some (95, .putfield 228, 3, 10, 18, 18, 0) := ceB_eq (by decide +kernel)
theorem f_240_98 : fnd 240 98 = some (98, .return_, 1, 0, 0, 0, 0) := ceB_eq (by decide +kernel)
theorem rk_240 : rkm 240 = 4 := by decide +kernel
theorem ml_240 : (mth 240).2.1 = 2 := by decide +kernel
set_option maxRecDepth 100000 in
theorem T_Z_keep (k0 i0 : Int) (σ : ST) (Q : Option AV → ST → Prop) (h :
  ((((σ 40 k0 i0 18) ≠ 40 : Prop) →
    wp m_Z_keep (54, [some (.inr (.inr (40, k0, i0))), some (.inl 0)], [], σ) Q) ∧
  (¬ ((σ 40 k0 i0 18) ≠ 40) →
    wp m_Z_keep (13, [some (.inr (.inr (40, k0, i0))), some (.inl 526)], [], σ) Q))) :
  wpM m_Z_keep [.inr (.inr (40, k0, i0))] σ Q :=
 wpM_of ml_240 (L := [some (.inr (.inr (40, k0, i0))), none]) rfl
 (w_aload_n (p' := 1) f_240_0 rfl rfl
 (w_getfield (p' := 4) f_240_1 rfl (x := .inl (σ 40 k0 i0 18)) rfl rfl
 (w_bipush (p' := 6) f_240_4 rfl
 (w_icmp (p' := 52) (q' := 9) f_240_6 rfl rfl
 (fun c101 => w_iconst (p' := 53) f_240_52 rfl
 (w_istore_n (p' := 54) f_240_53 (L' := [some (.inr (.inr (40, k0, i0))), some (.inl 0)]) rfl rfl
 ((h.1 c101))))
 (fun c101 => w_sipush (p' := 12) f_240_9 rfl
 (w_istore_n (p' := 13) f_240_12 (L' := [some (.inr (.inr (40, k0, i0))), some (.inl 526)]) rfl rfl
 ((h.2 c101))))))))
set_option maxRecDepth 100000 in
theorem T_Z_keep_13 (k0 i0 x1 : Int) (σ : ST) (Q : Option AV → ST → Prop) (h :
  (((21040 ≤ x1 : Prop) →
    wp m_Z_keep (54, [some (.inr (.inr (40, k0, i0))), some (.inl 0)], [], (up σ 40 k0 i0 18 (wr ((σ 40 k0 i0 18) - 1)))) Q) ∧
  (¬ (21040 ≤ x1) →
    ((0 : Int) ≤ x1 ∧ (x1 : Int) < 21040) ∧
    ((0 : Int) ≤ (wr (x1 - 526)) ∧ ((wr (x1 - 526)) : Int) < 21040) ∧
    wp m_Z_keep (13, [some (.inr (.inr (40, k0, i0))), some (.inl (wr (x1 + 1)))], [], (up σ 48 0 0 (wr (x1 - 526)) (σ 48 0 0 x1))) Q))) :
  wp m_Z_keep (13, [some (.inr (.inr (40, k0, i0))), some (.inl x1)], [], σ) Q :=
 w_iload_n (p' := 14) f_240_13 rfl rfl
 (w_sipush (p' := 17) f_240_14 rfl
 (w_icmp (p' := 42) (q' := 20) f_240_17 rfl rfl
 (fun c101 => w_aload_n (p' := 43) f_240_42 rfl rfl
 (w_dupR (p' := 44) f_240_43 rfl
 (w_getfield (p' := 47) f_240_44 rfl (x := .inl (σ 40 k0 i0 18)) rfl rfl
 (w_iconst (p' := 48) f_240_47 rfl
 (w_isub (p' := 49) f_240_48 rfl
 (w_putI (p' := 52) f_240_49 rfl rfl (c' := 18) rfl rfl
 (w_iconst (p' := 53) f_240_52 rfl
 (w_istore_n (p' := 54) f_240_53 (L' := [some (.inr (.inr (40, k0, i0))), some (.inl 0)]) rfl rfl
 ((h.1 c101))))))))))
 (fun c101 => w_aload_n (p' := 21) f_240_20 rfl rfl
 (w_getfield (p' := 24) f_240_21 rfl (x := .inr (.inr (48, 0, 0))) rfl rfl
 (w_iload_n (p' := 25) f_240_24 rfl rfl
 (w_sipush (p' := 28) f_240_25 rfl
 (w_isub (p' := 29) f_240_28 rfl
 (w_aload_n (p' := 30) f_240_29 rfl rfl
 (w_getfield (p' := 33) f_240_30 rfl (x := .inr (.inr (48, 0, 0))) rfl rfl
 (w_iload_n (p' := 34) f_240_33 rfl rfl
 (w_iaload (p' := 35) f_240_34 rfl (n := 21040) rfl (h.2 c101).1 rfl
 (w_iastore (p' := 36) f_240_35 rfl (n := 21040) rfl (h.2 c101).2.1 rfl
 (w_iinc (p' := 39) f_240_36 rfl (L' := [some (.inr (.inr (40, k0, i0))), some (.inl (wr (x1 + 1)))]) rfl rfl
 (w_goto (p' := 13) f_240_39 rfl
 ((h.2 c101).2.2)))))))))))))))
set_option maxRecDepth 100000 in
theorem T_Z_keep_54 (k0 i0 x1 : Int) (σ : ST) (Q : Option AV → ST → Prop) (h :
  (((526 ≤ x1 : Prop) →
    Q none (up σ 40 k0 i0 18 (wr ((σ 40 k0 i0 18) + 1)))) ∧
  (¬ (526 ≤ x1) →
    ((0 : Int) ≤ x1 ∧ (x1 : Int) < 526) ∧
    ((0 : Int) ≤ (wr ((wr (526 * (σ 40 k0 i0 18))) + x1)) ∧ ((wr ((wr (526 * (σ 40 k0 i0 18))) + x1)) : Int) < 21040) ∧
    wp m_Z_keep (54, [some (.inr (.inr (40, k0, i0))), some (.inl (wr (x1 + 1)))], [], (up σ 48 0 0 (wr ((wr (526 * (σ 40 k0 i0 18))) + x1)) (σ 46 0 0 x1))) Q))) :
  wp m_Z_keep (54, [some (.inr (.inr (40, k0, i0))), some (.inl x1)], [], σ) Q :=
 w_iload_n (p' := 55) f_240_54 rfl rfl
 (w_sipush (p' := 58) f_240_55 rfl
 (w_icmp (p' := 88) (q' := 61) f_240_58 rfl rfl
 (fun c101 => w_aload_n (p' := 89) f_240_88 rfl rfl
 (w_dupR (p' := 90) f_240_89 rfl
 (w_getfield (p' := 93) f_240_90 rfl (x := .inl (σ 40 k0 i0 18)) rfl rfl
 (w_iconst (p' := 94) f_240_93 rfl
 (w_iadd (p' := 95) f_240_94 rfl
 (w_putI (p' := 98) f_240_95 rfl rfl (c' := 18) rfl rfl
 (w_vret f_240_98 rk_240 (h.1 c101))))))))
 (fun c101 => w_aload_n (p' := 62) f_240_61 rfl rfl
 (w_getfield (p' := 65) f_240_62 rfl (x := .inr (.inr (48, 0, 0))) rfl rfl
 (w_sipush (p' := 68) f_240_65 rfl
 (w_aload_n (p' := 69) f_240_68 rfl rfl
 (w_getfield (p' := 72) f_240_69 rfl (x := .inl (σ 40 k0 i0 18)) rfl rfl
 (w_imul (p' := 73) f_240_72 rfl
 (w_iload_n (p' := 74) f_240_73 rfl rfl
 (w_iadd (p' := 75) f_240_74 rfl
 (w_aload_n (p' := 76) f_240_75 rfl rfl
 (w_getfield (p' := 79) f_240_76 rfl (x := .inr (.inr (46, 0, 0))) rfl rfl
 (w_iload_n (p' := 80) f_240_79 rfl rfl
 (w_iaload (p' := 81) f_240_80 rfl (n := 526) rfl (h.2 c101).1 rfl
 (w_iastore (p' := 82) f_240_81 rfl (n := 21040) rfl (h.2 c101).2.1 rfl
 (w_iinc (p' := 85) f_240_82 rfl (L' := [some (.inr (.inr (40, k0, i0))), some (.inl (wr (x1 + 1)))]) rfl rfl
 (w_goto (p' := 54) f_240_85 rfl
 ((h.2 c101).2.2))))))))))))))))))
/-! ClosedRoomsModel.setRoom(III)V -/
theorem f_241_0 : fnd 241 0 = some (0, .aload_n 0, 1, 0, 0, 0, 0) := ceB_eq (by decide +kernel)
theorem f_241_1 : fnd 241 1 = some (1, .getfield 25, 3, 10, 15, 15, 0) := ceB_eq (by decide +kernel)
theorem f_241_4 : fnd 241 4 = some (4, .bipush 110, 2, 0, 0, 0, 0) := ceB_eq (by decide +kernel)
theorem f_241_6 : fnd 241 6 = some (6, .bipush 23, 2, 0, 0, 0, 0) := ceB_eq (by decide +kernel)
theorem f_241_8 : fnd 241 8 = some (8, .iload_n 1, 1, 0, 0, 0, 0) := ceB_eq (by decide +kernel)
theorem f_241_9 : fnd 241 9 = some (9, .imul, 1, 0, 0, 0, 0) := ceB_eq (by decide +kernel)
theorem f_241_10 : fnd 241 10 = some (10, .iadd, 1, 0, 0, 0, 0) := ceB_eq (by decide +kernel)
theorem f_241_11 : fnd 241 11 = some (11, .iload_n 2, 1, 0, 0, 0, 0) := ceB_eq (by decide +kernel)
theorem f_241_12 : fnd 241 12 = some (12, .iadd, 1, 0, 0, 0, 0) := ceB_eq (by decide +kernel)
theorem f_241_13 : fnd 241 13 = some (13, .iload_n 3, 1, 0, 0, 0, 0) := ceB_eq (by decide +kernel)
theorem f_241_14 : fnd 241 14 = some (14, .iastore, 1, 0, 0, 0, 0) := ceB_eq (by decide +kernel)
theorem f_241_15 : fnd 241 15 = some (15, .return_, 1, 0, 0, 0, 0) := ceB_eq (by decide +kernel)
theorem rk_241 : rkm 241 = 4 := by decide +kernel
theorem ml_241 : (mth 241).2.1 = 4 := by decide +kernel
set_option maxRecDepth 100000 in
theorem T_Z_setRoom (k0 i0 x1 x2 x3 : Int) (σ : ST) (Q : Option AV → ST → Prop) (h :
  ((0 : Int) ≤ (wr ((wr (110 + (wr (23 * x1)))) + x2)) ∧ ((wr ((wr (110 + (wr (23 * x1)))) + x2)) : Int) < 526) ∧
  Q none (up σ 46 0 0 (wr ((wr (110 + (wr (23 * x1)))) + x2)) x3)) :
  wpM m_Z_setRoom [.inr (.inr (40, k0, i0)), .inl x1, .inl x2, .inl x3] σ Q :=
 wpM_of ml_241 (L := [some (.inr (.inr (40, k0, i0))), some (.inl x1), some (.inl x2), some (.inl x3)]) rfl
 (w_aload_n (p' := 1) f_241_0 rfl rfl
 (w_getfield (p' := 4) f_241_1 rfl (x := .inr (.inr (46, 0, 0))) rfl rfl
 (w_bipush (p' := 6) f_241_4 rfl
 (w_bipush (p' := 8) f_241_6 rfl
 (w_iload_n (p' := 9) f_241_8 rfl rfl
 (w_imul (p' := 10) f_241_9 rfl
 (w_iadd (p' := 11) f_241_10 rfl
 (w_iload_n (p' := 12) f_241_11 rfl rfl
 (w_iadd (p' := 13) f_241_12 rfl
 (w_iload_n (p' := 14) f_241_13 rfl rfl
 (w_iastore (p' := 15) f_241_14 rfl (n := 526) rfl h.1 rfl
 (w_vret f_241_15 rk_241 h.2))))))))))))
/-! ClosedRoomsModel.createNow(I)I -/
theorem f_242_0 : fnd 242 0 = some (0, .aload_n 0, 1, 0, 0, 0, 0) := ceB_eq (by decide +kernel)
theorem f_242_1 : fnd 242 1 = some (1, .invokevirtual 249, 3, 199, 1, 10, 0) := ceB_eq (by decide +kernel)
theorem f_242_4 : fnd 242 4 = some (4, .istore_n 2, 1, 0, 0, 0, 0) := ceB_eq (by decide +kernel)
theorem f_242_5 : fnd 242 5 = some (5, .aload_n 0, 1, 0, 0, 0, 0) := ceB_eq (by decide +kernel)
theorem f_242_6 : fnd 242 6 = some (6, .invokevirtual 246, 3, 197, 1, 10, 0) := ceB_eq (by decide +kernel)
theorem f_242_9 : fnd 242 9 = some (9, .istore_n 3, 1, 0, 0, 0, 0) := ceB_eq (by decide +kernel)
theorem f_242_10 : fnd 242 10 = some (10, .aload_n 0, 1, 0, 0, 0, 0) := ceB_eq (by decide +kernel)
theorem f_242_11 : fnd 242 11 = some (11, .iload_n 3, 1, 0, 0, 0, 0) := ceB_eq (by decide +kernel)
theorem f_242_12 : fnd 242 12 = some (12, .invokevirtual 222, 3, 191, 2, 10, 0) := ceB_eq (by decide +kernel)
theorem f_242_15 : fnd 242 15 = some (15, .aload_n 0, 1, 0, 0, 0, 0) := ceB_eq (by decide +kernel)
theorem f_242_16 : fnd 242 16 = some (16, .iload_n 3, 1, 0, 0, 0, 0) := ceB_eq (by decide +kernel)
theorem f_242_17 : fnd 242 17 = some (17, .iconst 0, 1, 0, 0, 0, 0) := ceB_eq (by decide +kernel)
theorem f_242_18 : fnd 242 18 = some (18, .iconst 1, 1, 0, 0, 0, 0) := ceB_eq (by decide +kernel)
theorem f_242_19 : fnd 242 19 = some (19, .invokevirtual 218, 3, 190, 4, 10, 0) := ceB_eq (by decide +kernel)
theorem f_242_22 : fnd 242 22 = some (22, .aload_n 0, 1, 0, 0, 0, 0) := ceB_eq (by decide +kernel)
theorem f_242_23 : fnd 242 23 = some (23, .iload_n 3, 1, 0, 0, 0, 0) := ceB_eq (by decide +kernel)
theorem f_242_24 : fnd 242 24 = some (24, .iconst 1, 1, 0, 0, 0, 0) := ceB_eq (by decide +kernel)
theorem f_242_25 : fnd 242 25 = some (25, .iload_n 2, 1, 0, 0, 0, 0) := ceB_eq (by decide +kernel)
theorem f_242_26 : fnd 242 26 = some (26, .invokevirtual 218, 3, 190, 4, 10, 0) := ceB_eq (by decide +kernel)
theorem f_242_29 : fnd 242 29 = some (29, .iconst 0, 1, 0, 0, 0, 0) := ceB_eq (by decide +kernel)
theorem f_242_30 : fnd 242 30 = some (30, .istore 4, 2, 0, 0, 0, 0) := ceB_eq (by decide +kernel)
theorem f_242_32 : fnd 242 32 = some (32, .iload 4, 2, 0, 0, 0, 0) := ceB_eq (by decide +kernel)
theorem f_242_34 : fnd 242 34 = some (34, .bipush 23, 2, 0, 0, 0, 0) := ceB_eq (by decide +kernel)
theorem f_242_36 : fnd 242 36 = some (36, .if_icmp .ge 17, 3, 0, 0, 0, 0) := ceB_eq (by decide +kernel)
theorem f_242_39 : fnd 242 39 = some (39, .aload_n 0, 1, 0, 0, 0, 0) := ceB_eq (by decide +kernel)
theorem f_242_40 : fnd 242 40 = some (40, .iload_n 2, 1, 0, 0, 0, 0) := ceB_eq (by decide +kernel)
theorem f_242_41 : fnd 242 41 = some (41, .iload 4, 2, 0, 0, 0, 0) := ceB_eq (by decide +kernel)
theorem f_242_43 : fnd 242 43 = some (43, .iconst 0, 1, 0, 0, 0, 0) := ceB_eq (by decide +kernel)
theorem f_242_44 : fnd 242 44 = some (44, .invokevirtual 361, 3, 241, 4, 10, 0) := ceB_eq (by decide +kernel)
theorem f_242_47 : fnd 242 47 = some (47, .iinc 4 1, 3, 0, 0, 0, 0) := ceB_eq (by decide +kernel)
theorem f_242_50 : fnd 242 50 = some (50, .goto (-18), 3, 0, 0, 0, 0) := ceB_eq (by decide +kernel)
theorem f_242_53 : fnd 242 53 = some (53, .aload_n 0, 1, 0, 0, 0, 0) := ceB_eq (by decide +kernel)
theorem f_242_54 : fnd 242 54 = some (54, .getfield 25, 3, 10, 15, 15, 0) := ceB_eq (by decide +kernel)
theorem f_242_57 : fnd 242 57 = some (57, .sipush 344, 3, 0, 0, 0, 0) := ceB_eq (by decide +kernel)
theorem f_242_60 : fnd 242 60 = some (60, .dup2, 1, 0, 0, 0, 0) := ceB_eq (by decide +kernel)
theorem f_242_61 : fnd 242 61 = some (61, .iaload, 1, 0, 0, 0, 0) := ceB_eq (by decide +kernel)
theorem f_242_62 : fnd 242 62 = some (62, .iconst 1, 1, 0, 0, 0, 0) := ceB_eq (by decide +kernel)
theorem f_242_63 : fnd 242 63 = some (63, .iadd, 1, 0, 0, 0, 0) := ceB_eq (by decide +kernel)
theorem f_242_64 : fnd 242 64 = some (64, .iastore, 1, 0, 0, 0, 0) := ceB_eq (by decide +kernel)
theorem f_242_65 : fnd 242 65 = some (65, .aload_n 0, 1, 0, 0, 0, 0) := ceB_eq (by decide +kernel)
theorem f_242_66 : fnd 242 66 = some (66, .iload_n 2, 1, 0, 0, 0, 0) := ceB_eq (by decide +kernel)
theorem f_242_67 : fnd 242 67 = some (67, .iconst 0, 1, 0, 0, 0, 0) := ceB_eq (by decide +kernel)
theorem f_242_68 : fnd 242 68 = some (68, .iconst 1, 1, 0, 0, 0, 0) := ceB_eq (by decide +kernel)
theorem f_242_69 : fnd 242 69 = some (69, .invokevirtual 361, 3, 241, 4, 10, 0) := ceB_eq (by decide +kernel)
theorem f_242_72 : fnd 242 72 = some (72, .aload_n 0, 1, 0, 0, 0, 0) := ceB_eq (by decide +kernel)
theorem f_242_73 : fnd 242 73 = some (73, .iload_n 2, 1, 0, 0, 0, 0) := ceB_eq (by decide +kernel)
theorem f_242_74 : fnd 242 74 = some (74, .iconst 1, 1, 0, 0, 0, 0) := ceB_eq (by decide +kernel)
theorem f_242_75 : fnd 242 75 = some (75, .aload_n 0, 1, 0, 0, 0, 0) := ceB_eq (by decide +kernel)
theorem f_242_76 : fnd 242 76 = some (76, .getfield 25, 3, 10, 15, 15, 0) := ceB_eq (by decide +kernel)
theorem f_242_79 : fnd 242 79 = some (79, .sipush 344, 3, 0, 0, 0, 0) := ceB_eq (by decide +kernel)
theorem f_242_82 : fnd 242 82 = some (82, .iaload, 1, 0, 0, 0, 0) := ceB_eq (by decide +kernel)
theorem f_242_83 : fnd 242 83 = some (83, .invokevirtual 361, 3, 241, 4, 10, 0) := ceB_eq (by decide +kernel)
theorem f_242_86 : fnd 242 86 = some (86, .aload_n 0, 1, 0, 0, 0, 0) := ceB_eq (by decide +kernel)
theorem f_242_87 : fnd 242 87 = some (87, .iload_n 2, 1, 0, 0, 0, 0) := ceB_eq (by decide +kernel)
theorem f_242_88 : fnd 242 88 = some (88, .iconst 2, 1, 0, 0, 0, 0) := ceB_eq (by decide +kernel)
theorem f_242_89 : fnd 242 89 = some (89, .iload_n 1, 1, 0, 0, 0, 0) := ceB_eq (by decide +kernel)
theorem f_242_90 : fnd 242 90 = some (90, .invokevirtual 361, 3, 241, 4, 10, 0) := ceB_eq (by decide +kernel)
theorem f_242_93 : fnd 242 93 = some (93, .aload_n 0, 1, 0, 0, 0, 0) := ceB_eq (by decide +kernel)
theorem f_242_94 : fnd 242 94 = some (94, .iload_n 2, 1, 0, 0, 0, 0) := ceB_eq (by decide +kernel)
theorem f_242_95 : fnd 242 95 = some (95, .iconst 3, 1, 0, 0, 0, 0) := ceB_eq (by decide +kernel)
theorem f_242_96 : fnd 242 96 = some (96, .iconst 1, 1, 0, 0, 0, 0) := ceB_eq (by decide +kernel)
theorem f_242_97 : fnd 242 97 = some (97, .invokevirtual 361, 3, 241, 4, 10, 0) := ceB_eq (by decide +kernel)
theorem f_242_100 : fnd 242 100 = some (100, .aload_n 0, 1, 0, 0, 0, 0) := ceB_eq (by decide +kernel)
theorem f_242_101 : fnd 242 101 = some (101, .iload_n 2, 1, 0, 0, 0, 0) := ceB_eq (by decide +kernel)
theorem f_242_102 : fnd 242 102 = some (102, .iconst 4, 1, 0, 0, 0, 0) := ceB_eq (by decide +kernel)
theorem f_242_103 : fnd 242 103 = some (103, .bipush 7, 2, 0, 0, 0, 0) := ceB_eq (by decide +kernel)
theorem f_242_105 : fnd 242 105 = some (105, .iload_n 1, 1, 0, 0, 0, 0) := ceB_eq (by decide +kernel)
theorem f_242_106 : fnd 242 106 = some (106, .iadd, 1, 0, 0, 0, 0) := ceB_eq (by decide +kernel)
theorem f_242_107 : fnd 242 107 = some (107, .invokevirtual 361, 3, 241, 4, 10, 0) := ceB_eq (by decide +kernel)
theorem f_242_110 : fnd 242 110 = some (110, .iload_n 2, 1, 0, 0, 0, 0) := ceB_eq (by decide +kernel)
theorem f_242_111 : fnd 242 111 = some (111, .ireturn, 1, 0, 0, 0, 0) := ceB_eq (by decide +kernel)
theorem rk_242 : rkm 242 = 0 := by decide +kernel
theorem ml_242 : (mth 242).2.1 = 5 := by decide +kernel
set_option maxRecDepth 100000 in
theorem T_Z_createNow (k0 i0 x1 : Int) (σ : ST) (Q : Option AV → ST → Prop) (h :
  wpM m_Z_freeRoom [.inr (.inr (40, k0, i0))] σ (asI fun r101 s101 =>
  wpM m_Z_freePage [.inr (.inr (40, k0, i0))] s101 (asI fun r102 s102 =>
  wpM m_Z_clearPage [.inr (.inr (40, k0, i0)), .inl r102] s102 (asV fun s103 =>
  wpM m_Z_setPage [.inr (.inr (40, k0, i0)), .inl r102, .inl 0, .inl 1] s103 (asV fun s104 =>
  wpM m_Z_setPage [.inr (.inr (40, k0, i0)), .inl r102, .inl 1, .inl r101] s104 (asV fun s105 =>
  wp m_Z_createNow (32, [some (.inr (.inr (40, k0, i0))), some (.inl x1), some (.inl r101), some (.inl r102), some (.inl 0)], [], s105) Q)))))) :
  wpM m_Z_createNow [.inr (.inr (40, k0, i0)), .inl x1] σ Q :=
 wpM_of ml_242 (L := [some (.inr (.inr (40, k0, i0))), some (.inl x1), none, none, none]) rfl
 (w_aload_n (p' := 1) f_242_0 rfl rfl
 (w_callV (p' := 4) f_242_1 rfl rfl rfl rfl rfl (r := []) rfl rfl (kI (.inl rk_199) fun r101 s101 h101 =>
 w_istore_n (p' := 5) f_242_4 (L' := [some (.inr (.inr (40, k0, i0))), some (.inl x1), some (.inl r101), none, none]) rfl rfl
 (w_aload_n (p' := 6) f_242_5 rfl rfl
 (w_callV (p' := 9) f_242_6 rfl rfl rfl rfl rfl (r := []) rfl rfl (kI (.inl rk_197) fun r102 s102 h102 =>
 w_istore_n (p' := 10) f_242_9 (L' := [some (.inr (.inr (40, k0, i0))), some (.inl x1), some (.inl r101), some (.inl r102), none]) rfl rfl
 (w_aload_n (p' := 11) f_242_10 rfl rfl
 (w_iload_n (p' := 12) f_242_11 rfl rfl
 (w_callV (p' := 15) f_242_12 rfl rfl rfl rfl rfl (r := []) rfl rfl (kV rk_191 fun s103 h103 =>
 w_aload_n (p' := 16) f_242_15 rfl rfl
 (w_iload_n (p' := 17) f_242_16 rfl rfl
 (w_iconst (p' := 18) f_242_17 rfl
 (w_iconst (p' := 19) f_242_18 rfl
 (w_callV (p' := 22) f_242_19 rfl rfl rfl rfl rfl (r := []) rfl rfl (kV rk_190 fun s104 h104 =>
 w_aload_n (p' := 23) f_242_22 rfl rfl
 (w_iload_n (p' := 24) f_242_23 rfl rfl
 (w_iconst (p' := 25) f_242_24 rfl
 (w_iload_n (p' := 26) f_242_25 rfl rfl
 (w_callV (p' := 29) f_242_26 rfl rfl rfl rfl rfl (r := []) rfl rfl (kV rk_190 fun s105 h105 =>
 w_iconst (p' := 30) f_242_29 rfl
 (w_istore (p' := 32) f_242_30 (L' := [some (.inr (.inr (40, k0, i0))), some (.inl x1), some (.inl r101), some (.inl r102), some (.inl 0)]) rfl rfl
 (h105))) h104))))) h103))))) h102)))) h101))) h))
set_option maxRecDepth 100000 in
theorem T_Z_createNow_32 (k0 i0 x1 x2 x4 : Int) (o3 : Option AV) (σ : ST) (Q : Option AV → ST → Prop) (h :
  (((23 ≤ x4 : Prop) →
    ((0 : Int) ≤ 344 ∧ (344 : Int) < 526) ∧
    ((0 : Int) ≤ 344 ∧ (344 : Int) < 526) ∧
    wpM m_Z_setRoom [.inr (.inr (40, k0, i0)), .inl x2, .inl 0, .inl 1] (up σ 46 0 0 344 (wr ((σ 46 0 0 344) + 1))) (asV fun s101 =>
    ((0 : Int) ≤ 344 ∧ (344 : Int) < 526) ∧
    wpM m_Z_setRoom [.inr (.inr (40, k0, i0)), .inl x2, .inl 1, .inl (s101 46 0 0 344)] s101 (asV fun s102 =>
    wpM m_Z_setRoom [.inr (.inr (40, k0, i0)), .inl x2, .inl 2, .inl x1] s102 (asV fun s103 =>
    wpM m_Z_setRoom [.inr (.inr (40, k0, i0)), .inl x2, .inl 3, .inl 1] s103 (asV fun s104 =>
    wpM m_Z_setRoom [.inr (.inr (40, k0, i0)), .inl x2, .inl 4, .inl (wr (7 + x1))] s104 (asV fun s105 =>
    Q (some (.inl x2)) s105)))))) ∧
  (¬ (23 ≤ x4) →
    wpM m_Z_setRoom [.inr (.inr (40, k0, i0)), .inl x2, .inl x4, .inl 0] σ (asV fun s106 =>
    wp m_Z_createNow (32, [some (.inr (.inr (40, k0, i0))), some (.inl x1), some (.inl x2), o3, some (.inl (wr (x4 + 1)))], [], s106) Q)))) :
  wp m_Z_createNow (32, [some (.inr (.inr (40, k0, i0))), some (.inl x1), some (.inl x2), o3, some (.inl x4)], [], σ) Q :=
 w_iload (p' := 34) f_242_32 rfl rfl
 (w_bipush (p' := 36) f_242_34 rfl
 (w_icmp (p' := 53) (q' := 39) f_242_36 rfl rfl
 (fun c107 => w_aload_n (p' := 54) f_242_53 rfl rfl
 (w_getfield (p' := 57) f_242_54 rfl (x := .inr (.inr (46, 0, 0))) rfl rfl
 (w_sipush (p' := 60) f_242_57 rfl
 (w_dup2 (p' := 61) f_242_60 rfl
 (w_iaload (p' := 62) f_242_61 rfl (n := 526) rfl (h.1 c107).1 rfl
 (w_iconst (p' := 63) f_242_62 rfl
 (w_iadd (p' := 64) f_242_63 rfl
 (w_iastore (p' := 65) f_242_64 rfl (n := 526) rfl (h.1 c107).2.1 rfl
 (w_aload_n (p' := 66) f_242_65 rfl rfl
 (w_iload_n (p' := 67) f_242_66 rfl rfl
 (w_iconst (p' := 68) f_242_67 rfl
 (w_iconst (p' := 69) f_242_68 rfl
 (w_callV (p' := 72) f_242_69 rfl rfl rfl rfl rfl (r := []) rfl rfl (kV rk_241 fun s101 h101 =>
 w_aload_n (p' := 73) f_242_72 rfl rfl
 (w_iload_n (p' := 74) f_242_73 rfl rfl
 (w_iconst (p' := 75) f_242_74 rfl
 (w_aload_n (p' := 76) f_242_75 rfl rfl
 (w_getfield (p' := 79) f_242_76 rfl (x := .inr (.inr (46, 0, 0))) rfl rfl
 (w_sipush (p' := 82) f_242_79 rfl
 (w_iaload (p' := 83) f_242_82 rfl (n := 526) rfl h101.1 rfl
 (w_callV (p' := 86) f_242_83 rfl rfl rfl rfl rfl (r := []) rfl rfl (kV rk_241 fun s102 h102 =>
 w_aload_n (p' := 87) f_242_86 rfl rfl
 (w_iload_n (p' := 88) f_242_87 rfl rfl
 (w_iconst (p' := 89) f_242_88 rfl
 (w_iload_n (p' := 90) f_242_89 rfl rfl
 (w_callV (p' := 93) f_242_90 rfl rfl rfl rfl rfl (r := []) rfl rfl (kV rk_241 fun s103 h103 =>
 w_aload_n (p' := 94) f_242_93 rfl rfl
 (w_iload_n (p' := 95) f_242_94 rfl rfl
 (w_iconst (p' := 96) f_242_95 rfl
 (w_iconst (p' := 97) f_242_96 rfl
 (w_callV (p' := 100) f_242_97 rfl rfl rfl rfl rfl (r := []) rfl rfl (kV rk_241 fun s104 h104 =>
 w_aload_n (p' := 101) f_242_100 rfl rfl
 (w_iload_n (p' := 102) f_242_101 rfl rfl
 (w_iconst (p' := 103) f_242_102 rfl
 (w_bipush (p' := 105) f_242_103 rfl
 (w_iload_n (p' := 106) f_242_105 rfl rfl
 (w_iadd (p' := 107) f_242_106 rfl
 (w_callV (p' := 110) f_242_107 rfl rfl rfl rfl rfl (r := []) rfl rfl (kV rk_241 fun s105 h105 =>
 w_iload_n (p' := 111) f_242_110 rfl rfl
 (w_iret f_242_111 rk_242 h105)) h104))))))) h103))))) h102))))) h101.2)))))))) (h.1 c107).2.2)))))))))))))
 (fun c107 => w_aload_n (p' := 40) f_242_39 rfl rfl
 (w_iload_n (p' := 41) f_242_40 rfl rfl
 (w_iload (p' := 43) f_242_41 rfl rfl
 (w_iconst (p' := 44) f_242_43 rfl
 (w_callV (p' := 47) f_242_44 rfl rfl rfl rfl rfl (r := []) rfl rfl (kV rk_241 fun s106 h106 =>
 w_iinc (p' := 50) f_242_47 rfl (L' := [some (.inr (.inr (40, k0, i0))), some (.inl x1), some (.inl x2), o3, some (.inl (wr (x4 + 1)))]) rfl rfl
 (w_goto (p' := 32) f_242_50 rfl
 (h106))) (h.2 c107))))))))
/-! ClosedRoomsModel.slotsNow()I -/
theorem f_243_0 : fnd 243 0 = some (0, .aload_n 0, 1, 0, 0, 0, 0) := ceB_eq (by decide +kernel)
theorem f_243_1 : fnd 243 1 = some (1, .invokevirtual 246, 3, 197, 1, 10, 0) := ceB_eq (by decide +kernel)
theorem f_243_4 : fnd 243 4 = some (4, .istore_n 1, 1, 0, 0, 0, 0) := ceB_eq (by decide +kernel)
theorem f_243_5 : fnd 243 5 = some (5, .aload_n 0, 1, 0, 0, 0, 0) := ceB_eq (by decide +kernel)
theorem f_243_6 : fnd 243 6 = some (6, .iload_n 1, 1, 0, 0, 0, 0) := ceB_eq (by decide +kernel)
theorem f_243_7 : fnd 243 7 = some (7, .invokevirtual 222, 3, 191, 2, 10, 0) := ceB_eq (by decide +kernel)
theorem f_243_10 : fnd 243 10 = some (10, .aload_n 0, 1, 0, 0, 0, 0) := ceB_eq (by decide +kernel)
theorem f_243_11 : fnd 243 11 = some (11, .iload_n 1, 1, 0, 0, 0, 0) := ceB_eq (by decide +kernel)
theorem f_243_12 : fnd 243 12 = some (12, .iconst 0, 1, 0, 0, 0, 0) := ceB_eq (by decide +kernel)
theorem f_243_13 : fnd 243 13 = some (13, .iconst 4, 1, 0, 0, 0, 0) := ceB_eq (by decide +kernel)
theorem f_243_14 : fnd 243 14 = some (14, .invokevirtual 218, 3, 190, 4, 10, 0) := ceB_eq (by decide +kernel)
theorem f_243_17 : fnd 243 17 = some (17, .iload_n 1, 1, 0, 0, 0, 0) := ceB_eq (by decide +kernel)
theorem f_243_18 : fnd 243 18 = some (18, .ireturn, 1, 0, 0, 0, 0) := ceB_eq (by decide +kernel)
theorem rk_243 : rkm 243 = 0 := by decide +kernel
theorem ml_243 : (mth 243).2.1 = 2 := by decide +kernel
set_option maxRecDepth 100000 in
theorem T_Z_slotsNow (k0 i0 : Int) (σ : ST) (Q : Option AV → ST → Prop) (h :
  wpM m_Z_freePage [.inr (.inr (40, k0, i0))] σ (asI fun r101 s101 =>
  wpM m_Z_clearPage [.inr (.inr (40, k0, i0)), .inl r101] s101 (asV fun s102 =>
  wpM m_Z_setPage [.inr (.inr (40, k0, i0)), .inl r101, .inl 0, .inl 4] s102 (asV fun s103 =>
  Q (some (.inl r101)) s103)))) :
  wpM m_Z_slotsNow [.inr (.inr (40, k0, i0))] σ Q :=
 wpM_of ml_243 (L := [some (.inr (.inr (40, k0, i0))), none]) rfl
 (w_aload_n (p' := 1) f_243_0 rfl rfl
 (w_callV (p' := 4) f_243_1 rfl rfl rfl rfl rfl (r := []) rfl rfl (kI (.inl rk_197) fun r101 s101 h101 =>
 w_istore_n (p' := 5) f_243_4 (L' := [some (.inr (.inr (40, k0, i0))), some (.inl r101)]) rfl rfl
 (w_aload_n (p' := 6) f_243_5 rfl rfl
 (w_iload_n (p' := 7) f_243_6 rfl rfl
 (w_callV (p' := 10) f_243_7 rfl rfl rfl rfl rfl (r := []) rfl rfl (kV rk_191 fun s102 h102 =>
 w_aload_n (p' := 11) f_243_10 rfl rfl
 (w_iload_n (p' := 12) f_243_11 rfl rfl
 (w_iconst (p' := 13) f_243_12 rfl
 (w_iconst (p' := 14) f_243_13 rfl
 (w_callV (p' := 17) f_243_14 rfl rfl rfl rfl rfl (r := []) rfl rfl (kV rk_190 fun s103 h103 =>
 w_iload_n (p' := 18) f_243_17 rfl rfl
 (w_iret f_243_18 rk_243 h103)) h102))))) h101)))) h))
/-! ClosedRoomsModel.addNow(IIIII)I -/
theorem f_244_0 : fnd 244 0 = some (0, .aload_n 0, 1, 0, 0, 0, 0) := ceB_eq (by decide +kernel)
theorem f_244_1 : fnd 244 1 = some (1, .invokevirtual 246, 3, 197, 1, 10, 0) := ceB_eq (by decide +kernel)
theorem f_244_4 : fnd 244 4 = some (4, .istore 6, 2, 0, 0, 0, 0) := ceB_eq (by decide +kernel)
theorem f_244_6 : fnd 244 6 = some (6, .aload_n 0, 1, 0, 0, 0, 0) := ceB_eq (by decide +kernel)
theorem f_244_7 : fnd 244 7 = some (7, .iload 6, 2, 0, 0, 0, 0) := ceB_eq (by decide +kernel)
theorem f_244_9 : fnd 244 9 = some (9, .invokevirtual 222, 3, 191, 2, 10, 0) := ceB_eq (by decide +kernel)
theorem f_244_12 : fnd 244 12 = some (12, .aload_n 0, 1, 0, 0, 0, 0) := ceB_eq (by decide +kernel)
theorem f_244_13 : fnd 244 13 = some (13, .iload 6, 2, 0, 0, 0, 0) := ceB_eq (by decide +kernel)
theorem f_244_15 : fnd 244 15 = some (15, .iconst 0, 1, 0, 0, 0, 0) := ceB_eq (by decide +kernel)
theorem f_244_16 : fnd 244 16 = some (16, .iconst 2, 1, 0, 0, 0, 0) := ceB_eq (by decide +kernel)
theorem f_244_17 : fnd 244 17 = some (17, .iload_n 3, 1, 0, 0, 0, 0) := ceB_eq (by decide +kernel)
theorem f_244_18 : fnd 244 18 = some (18, .iadd, 1, 0, 0, 0, 0) := ceB_eq (by decide +kernel)
theorem f_244_19 : fnd 244 19 = some (19, .invokevirtual 218, 3, 190, 4, 10, 0) := ceB_eq (by decide +kernel)
theorem f_244_22 : fnd 244 22 = some (22, .aload_n 0, 1, 0, 0, 0, 0) := ceB_eq (by decide +kernel)
theorem f_244_23 : fnd 244 23 = some (23, .iload 6, 2, 0, 0, 0, 0) := ceB_eq (by decide +kernel)
theorem f_244_25 : fnd 244 25 = some (25, .iconst 1, 1, 0, 0, 0, 0) := ceB_eq (by decide +kernel)
theorem f_244_26 : fnd 244 26 = some (26, .iload_n 1, 1, 0, 0, 0, 0) := ceB_eq (by decide +kernel)
theorem f_244_27 : fnd 244 27 = some (27, .invokevirtual 218, 3, 190, 4, 10, 0) := ceB_eq (by decide +kernel)
theorem f_244_30 : fnd 244 30 = some (30, .aload_n 0, 1, 0, 0, 0, 0) := ceB_eq (by decide +kernel)
theorem f_244_31 : fnd 244 31 = some (31, .iload 6, 2, 0, 0, 0, 0) := ceB_eq (by decide +kernel)
theorem f_244_33 : fnd 244 33 = some (33, .iconst 2, 1, 0, 0, 0, 0) := ceB_eq (by decide +kernel)
theorem f_244_34 : fnd 244 34 = some (34, .iload_n 2, 1, 0, 0, 0, 0) := ceB_eq (by decide +kernel)
theorem f_244_35 : fnd 244 35 = some (35, .invokevirtual 218, 3, 190, 4, 10, 0) := ceB_eq (by decide +kernel)
theorem f_244_38 : fnd 244 38 = some (38, .aload_n 0, 1, 0, 0, 0, 0) := ceB_eq (by decide +kernel)
theorem f_244_39 : fnd 244 39 = some (39, .iload 6, 2, 0, 0, 0, 0) := ceB_eq (by decide +kernel)
theorem f_244_41 : fnd 244 41 = some (41, .iconst 3, 1, 0, 0, 0, 0) := ceB_eq (by decide +kernel)
theorem f_244_42 : fnd 244 42 = some (42, .iload 4, 2, 0, 0, 0, 0) := ceB_eq (by decide +kernel)
theorem f_244_44 : fnd 244 44 = some (44, .invokevirtual 218, 3, 190, 4, 10, 0) := ceB_eq (by decide +kernel)
theorem f_244_47 : fnd 244 47 = some (47, .aload_n 0, 1, 0, 0, 0, 0) := ceB_eq (by decide +kernel)
theorem f_244_48 : fnd 244 48 = some (48, .iload 6, 2, 0, 0, 0, 0) := ceB_eq (by decide +kernel)
theorem f_244_50 : fnd 244 50 = some (50, .iconst 4, 1, 0, 0, 0, 0) := ceB_eq (by decide +kernel)
theorem f_244_51 : fnd 244 51 = some (51, .iload 5, 2, 0, 0, 0, 0) := ceB_eq (by decide +kernel)
theorem f_244_53 : fnd 244 53 = some (53, .invokevirtual 218, 3, 190, 4, 10, 0) := ceB_eq (by decide +kernel)
theorem f_244_56 : fnd 244 56 = some (56, .aload_n 0, 1, 0, 0, 0, 0) := ceB_eq (by decide +kernel)
theorem f_244_57 : fnd 244 57 = some (57, .iload_n 1, 1, 0, 0, 0, 0) := ceB_eq (by decide +kernel)
theorem f_244_58 : fnd 244 58 = some (58, .bipush 7, 2, 0, 0, 0, 0) := ceB_eq (by decide +kernel)
theorem f_244_60 : fnd 244 60 = some (60, .iload_n 2, 1, 0, 0, 0, 0) := ceB_eq (by decide +kernel)
theorem f_244_61 : fnd 244 61 = some (61, .iadd, 1, 0, 0, 0, 0) := ceB_eq (by decide +kernel)
theorem f_244_62 : fnd 244 62 = some (62, .iconst 1, 1, 0, 0, 0, 0) := ceB_eq (by decide +kernel)
theorem f_244_63 : fnd 244 63 = some (63, .invokevirtual 361, 3, 241, 4, 10, 0) := ceB_eq (by decide +kernel)
theorem f_244_66 : fnd 244 66 = some (66, .aload_n 0, 1, 0, 0, 0, 0) := ceB_eq (by decide +kernel)
theorem f_244_67 : fnd 244 67 = some (67, .iload_n 1, 1, 0, 0, 0, 0) := ceB_eq (by decide +kernel)
theorem f_244_68 : fnd 244 68 = some (68, .bipush 15, 2, 0, 0, 0, 0) := ceB_eq (by decide +kernel)
theorem f_244_70 : fnd 244 70 = some (70, .iload_n 2, 1, 0, 0, 0, 0) := ceB_eq (by decide +kernel)
theorem f_244_71 : fnd 244 71 = some (71, .iadd, 1, 0, 0, 0, 0) := ceB_eq (by decide +kernel)
theorem f_244_72 : fnd 244 72 = some (72, .iload 6, 2, 0, 0, 0, 0) := ceB_eq (by decide +kernel)
theorem f_244_74 : fnd 244 74 = some (74, .iconst 1, 1, 0, 0, 0, 0) := ceB_eq (by decide +kernel)
theorem f_244_75 : fnd 244 75 = some (75, .iadd, 1, 0, 0, 0, 0) := ceB_eq (by decide +kernel)
theorem f_244_76 : fnd 244 76 = some (76, .invokevirtual 361, 3, 241, 4, 10, 0) := ceB_eq (by decide +kernel)
theorem f_244_79 : fnd 244 79 = some (79, .aload_n 0, 1, 0, 0, 0, 0) := ceB_eq (by decide +kernel)
theorem f_244_80 : fnd 244 80 = some (80, .iload_n 1, 1, 0, 0, 0, 0) := ceB_eq (by decide +kernel)
theorem f_244_81 : fnd 244 81 = some (81, .iconst 4, 1, 0, 0, 0, 0) := ceB_eq (by decide +kernel)
theorem f_244_82 : fnd 244 82 = some (82, .bipush 31, 2, 0, 0, 0, 0) := ceB_eq (by decide +kernel)
theorem f_244_84 : fnd 244 84 = some (84, .aload_n 0, 1, 0, 0, 0, 0) := ceB_eq (by decide +kernel)
theorem f_244_85 : fnd 244 85 = some (85, .iload_n 1, 1, 0, 0, 0, 0) := ceB_eq (by decide +kernel)
theorem f_244_86 : fnd 244 86 = some (86, .iconst 4, 1, 0, 0, 0, 0) := ceB_eq (by decide +kernel)
theorem f_244_87 : fnd 244 87 = some (87, .invokevirtual 209, 3, 198, 3, 10, 0) := ceB_eq (by decide +kernel)
theorem f_244_90 : fnd 244 90 = some (90, .imul, 1, 0, 0, 0, 0) := ceB_eq (by decide +kernel)
theorem f_244_91 : fnd 244 91 = some (91, .bipush 64, 2, 0, 0, 0, 0) := ceB_eq (by decide +kernel)
theorem f_244_93 : fnd 244 93 = some (93, .iload_n 2, 1, 0, 0, 0, 0) := ceB_eq (by decide +kernel)
theorem f_244_94 : fnd 244 94 = some (94, .imul, 1, 0, 0, 0, 0) := ceB_eq (by decide +kernel)
theorem f_244_95 : fnd 244 95 = some (95, .iadd, 1, 0, 0, 0, 0) := ceB_eq (by decide +kernel)
theorem f_244_96 : fnd 244 96 = some (96, .bipush 8, 2, 0, 0, 0, 0) := ceB_eq (by decide +kernel)
theorem f_244_98 : fnd 244 98 = some (98, .iload_n 3, 1, 0, 0, 0, 0) := ceB_eq (by decide +kernel)
theorem f_244_99 : fnd 244 99 = some (99, .imul, 1, 0, 0, 0, 0) := ceB_eq (by decide +kernel)
theorem f_244_100 : fnd 244 100 = some (100, .iadd, 1, 0, 0, 0, 0) := ceB_eq (by decide +kernel)
theorem f_244_101 : fnd 244 101 = some (101, .iload 4, 2, 0, 0, 0, 0) := ceB_eq (by decide +kernel)
theorem f_244_103 : fnd 244 103 = some (103, .iadd, 1, 0, 0, 0, 0) := ceB_eq (by decide +kernel)
theorem f_244_104 : fnd 244 104 = some (104, .invokevirtual 361, 3, 241, 4, 10, 0) := ceB_eq (by decide +kernel)
theorem f_244_107 : fnd 244 107 = some (107, .iload 6, 2, 0, 0, 0, 0) := ceB_eq (by decide +kernel)
theorem f_244_109 : fnd 244 109 = some (109, .ireturn, 1, 0, 0, 0, 0) := ceB_eq (by decide +kernel)
theorem rk_244 : rkm 244 = 0 := by decide +kernel
theorem ml_244 : (mth 244).2.1 = 7 := by decide +kernel
set_option maxRecDepth 100000 in
theorem T_Z_addNow (k0 i0 x1 x2 x3 x4 x5 : Int) (σ : ST) (Q : Option AV → ST → Prop) (h :
  wpM m_Z_freePage [.inr (.inr (40, k0, i0))] σ (asI fun r101 s101 =>
  wpM m_Z_clearPage [.inr (.inr (40, k0, i0)), .inl r101] s101 (asV fun s102 =>
  wpM m_Z_setPage [.inr (.inr (40, k0, i0)), .inl r101, .inl 0, .inl (wr (2 + x3))] s102 (asV fun s103 =>
  wpM m_Z_setPage [.inr (.inr (40, k0, i0)), .inl r101, .inl 1, .inl x1] s103 (asV fun s104 =>
  wpM m_Z_setPage [.inr (.inr (40, k0, i0)), .inl r101, .inl 2, .inl x2] s104 (asV fun s105 =>
  wpM m_Z_setPage [.inr (.inr (40, k0, i0)), .inl r101, .inl 3, .inl x4] s105 (asV fun s106 =>
  wpM m_Z_setPage [.inr (.inr (40, k0, i0)), .inl r101, .inl 4, .inl x5] s106 (asV fun s107 =>
  wpM m_Z_setRoom [.inr (.inr (40, k0, i0)), .inl x1, .inl (wr (7 + x2)), .inl 1] s107 (asV fun s108 =>
  wpM m_Z_setRoom [.inr (.inr (40, k0, i0)), .inl x1, .inl (wr (15 + x2)), .inl (wr (r101 + 1))] s108 (asV fun s109 =>
  wpM m_Z_ofRoom [.inr (.inr (40, k0, i0)), .inl x1, .inl 4] s109 (asI fun r110 s110 =>
  wpM m_Z_setRoom [.inr (.inr (40, k0, i0)), .inl x1, .inl 4, .inl (wr ((wr ((wr ((wr (31 * r110)) + (wr (64 * x2)))) + (wr (8 * x3)))) + x4))] s110 (asV fun s111 =>
  Q (some (.inl r101)) s111)))))))))))) :
  wpM m_Z_addNow [.inr (.inr (40, k0, i0)), .inl x1, .inl x2, .inl x3, .inl x4, .inl x5] σ Q :=
 wpM_of ml_244 (L := [some (.inr (.inr (40, k0, i0))), some (.inl x1), some (.inl x2), some (.inl x3), some (.inl x4), some (.inl x5), none]) rfl
 (w_aload_n (p' := 1) f_244_0 rfl rfl
 (w_callV (p' := 4) f_244_1 rfl rfl rfl rfl rfl (r := []) rfl rfl (kI (.inl rk_197) fun r101 s101 h101 =>
 w_istore (p' := 6) f_244_4 (L' := [some (.inr (.inr (40, k0, i0))), some (.inl x1), some (.inl x2), some (.inl x3), some (.inl x4), some (.inl x5), some (.inl r101)]) rfl rfl
 (w_aload_n (p' := 7) f_244_6 rfl rfl
 (w_iload (p' := 9) f_244_7 rfl rfl
 (w_callV (p' := 12) f_244_9 rfl rfl rfl rfl rfl (r := []) rfl rfl (kV rk_191 fun s102 h102 =>
 w_aload_n (p' := 13) f_244_12 rfl rfl
 (w_iload (p' := 15) f_244_13 rfl rfl
 (w_iconst (p' := 16) f_244_15 rfl
 (w_iconst (p' := 17) f_244_16 rfl
 (w_iload_n (p' := 18) f_244_17 rfl rfl
 (w_iadd (p' := 19) f_244_18 rfl
 (w_callV (p' := 22) f_244_19 rfl rfl rfl rfl rfl (r := []) rfl rfl (kV rk_190 fun s103 h103 =>
 w_aload_n (p' := 23) f_244_22 rfl rfl
 (w_iload (p' := 25) f_244_23 rfl rfl
 (w_iconst (p' := 26) f_244_25 rfl
 (w_iload_n (p' := 27) f_244_26 rfl rfl
 (w_callV (p' := 30) f_244_27 rfl rfl rfl rfl rfl (r := []) rfl rfl (kV rk_190 fun s104 h104 =>
 w_aload_n (p' := 31) f_244_30 rfl rfl
 (w_iload (p' := 33) f_244_31 rfl rfl
 (w_iconst (p' := 34) f_244_33 rfl
 (w_iload_n (p' := 35) f_244_34 rfl rfl
 (w_callV (p' := 38) f_244_35 rfl rfl rfl rfl rfl (r := []) rfl rfl (kV rk_190 fun s105 h105 =>
 w_aload_n (p' := 39) f_244_38 rfl rfl
 (w_iload (p' := 41) f_244_39 rfl rfl
 (w_iconst (p' := 42) f_244_41 rfl
 (w_iload (p' := 44) f_244_42 rfl rfl
 (w_callV (p' := 47) f_244_44 rfl rfl rfl rfl rfl (r := []) rfl rfl (kV rk_190 fun s106 h106 =>
 w_aload_n (p' := 48) f_244_47 rfl rfl
 (w_iload (p' := 50) f_244_48 rfl rfl
 (w_iconst (p' := 51) f_244_50 rfl
 (w_iload (p' := 53) f_244_51 rfl rfl
 (w_callV (p' := 56) f_244_53 rfl rfl rfl rfl rfl (r := []) rfl rfl (kV rk_190 fun s107 h107 =>
 w_aload_n (p' := 57) f_244_56 rfl rfl
 (w_iload_n (p' := 58) f_244_57 rfl rfl
 (w_bipush (p' := 60) f_244_58 rfl
 (w_iload_n (p' := 61) f_244_60 rfl rfl
 (w_iadd (p' := 62) f_244_61 rfl
 (w_iconst (p' := 63) f_244_62 rfl
 (w_callV (p' := 66) f_244_63 rfl rfl rfl rfl rfl (r := []) rfl rfl (kV rk_241 fun s108 h108 =>
 w_aload_n (p' := 67) f_244_66 rfl rfl
 (w_iload_n (p' := 68) f_244_67 rfl rfl
 (w_bipush (p' := 70) f_244_68 rfl
 (w_iload_n (p' := 71) f_244_70 rfl rfl
 (w_iadd (p' := 72) f_244_71 rfl
 (w_iload (p' := 74) f_244_72 rfl rfl
 (w_iconst (p' := 75) f_244_74 rfl
 (w_iadd (p' := 76) f_244_75 rfl
 (w_callV (p' := 79) f_244_76 rfl rfl rfl rfl rfl (r := []) rfl rfl (kV rk_241 fun s109 h109 =>
 w_aload_n (p' := 80) f_244_79 rfl rfl
 (w_iload_n (p' := 81) f_244_80 rfl rfl
 (w_iconst (p' := 82) f_244_81 rfl
 (w_bipush (p' := 84) f_244_82 rfl
 (w_aload_n (p' := 85) f_244_84 rfl rfl
 (w_iload_n (p' := 86) f_244_85 rfl rfl
 (w_iconst (p' := 87) f_244_86 rfl
 (w_callV (p' := 90) f_244_87 rfl rfl rfl rfl rfl (r := [.inl 31, .inl 4, .inl x1, .inr (.inr (40, k0, i0))]) rfl rfl (kI (.inl rk_198) fun r110 s110 h110 =>
 w_imul (p' := 91) f_244_90 rfl
 (w_bipush (p' := 93) f_244_91 rfl
 (w_iload_n (p' := 94) f_244_93 rfl rfl
 (w_imul (p' := 95) f_244_94 rfl
 (w_iadd (p' := 96) f_244_95 rfl
 (w_bipush (p' := 98) f_244_96 rfl
 (w_iload_n (p' := 99) f_244_98 rfl rfl
 (w_imul (p' := 100) f_244_99 rfl
 (w_iadd (p' := 101) f_244_100 rfl
 (w_iload (p' := 103) f_244_101 rfl rfl
 (w_iadd (p' := 104) f_244_103 rfl
 (w_callV (p' := 107) f_244_104 rfl rfl rfl rfl rfl (r := []) rfl rfl (kV rk_241 fun s111 h111 =>
 w_iload (p' := 109) f_244_107 rfl rfl
 (w_iret f_244_109 rk_244 h111)) h110)))))))))))) h109)))))))) h108))))))))) h107))))))) h106))))) h105))))) h104))))) h103))))) h102))))))) h101)))) h))
/-! ClosedRoomsModel.pageAt(II)I -/
theorem f_245_0 : fnd 245 0 = some (0, .iconst 0, 1, 0, 0, 0, 0) := ceB_eq (by decide +kernel)
theorem f_245_1 : fnd 245 1 = some (1, .istore_n 3, 1, 0, 0, 0, 0) := ceB_eq (by decide +kernel)
theorem f_245_2 : fnd 245 2 = some (2, .iload_n 3, 1, 0, 0, 0, 0) := ceB_eq (by decide +kernel)
theorem f_245_3 : fnd 245 3 = some (3, .aload_n 0, 1, 0, 0, 0, 0) := ceB_eq (by decide +kernel)
theorem f_245_4 : fnd 245 4 = some (4, .getfield 16, 3, 10, 10, 10, 0) := ceB_eq (by decide +kernel)
theorem f_245_7 : fnd 245 7 = some (7, .iconst 0, 1, 0, 0, 0, 0) := ceB_eq (by decide +kernel)
theorem f_245_8 : fnd 245 8 = some (8, .iaload, 1, 0, 0, 0, 0) := ceB_eq (by decide +kernel)
theorem f_245_9 : fnd 245 9 = some (9, .if_icmp .ge 21, 3, 0, 0, 0, 0) := ceB_eq (by decide +kernel)
theorem f_245_12 : fnd 245 12 = some (12, .aload_n 0, 1, 0, 0, 0, 0) := ceB_eq (by decide +kernel)
theorem f_245_13 : fnd 245 13 = some (13, .iload_n 3, 1, 0, 0, 0, 0) := ceB_eq (by decide +kernel)
theorem f_245_14 : fnd 245 14 = some (14, .iload_n 1, 1, 0, 0, 0, 0) := ceB_eq (by decide +kernel)
theorem f_245_15 : fnd 245 15 = some (15, .iload_n 2, 1, 0, 0, 0, 0) := ceB_eq (by decide +kernel)
theorem f_245_16 : fnd 245 16 = some (16, .invokevirtual 243, 3, 212, 4, 10, 0) := ceB_eq (by decide +kernel)
theorem f_245_19 : fnd 245 19 = some (19, .ifCond .eq 5, 3, 0, 0, 0, 0) := ceB_eq (by decide +kernel)
theorem f_245_22 : fnd 245 22 = some (22, .iload_n 3, 1, 0, 0, 0, 0) := ceB_eq (by decide +kernel)
theorem f_245_23 : fnd 245 23 = some (23, .ireturn, 1, 0, 0, 0, 0) := ceB_eq (by decide +kernel)
theorem f_245_24 : fnd 245 24 = some (24, .iinc 3 1, 3, 0, 0, 0, 0) := ceB_eq (by decide +kernel)
theorem f_245_27 : fnd 245 27 = some (27, .goto (-25), 3, 0, 0, 0, 0) := ceB_eq (by decide +kernel)
theorem f_245_30 : fnd 245 30 = some (30, .iconst (-1), 1, 0, 0, 0, 0) := ceB_eq (by decide +kernel)
theorem f_245_31 : fnd 245 31 = some (31, .ireturn, 1, 0, 0, 0, 0) := ceB_eq (by decide +kernel)
theorem rk_245 : rkm 245 = 0 := by decide +kernel
theorem ml_245 : (mth 245).2.1 = 4 := by decide +kernel
set_option maxRecDepth 100000 in
theorem T_Z_pageAt (k0 i0 x1 x2 : Int) (σ : ST) (Q : Option AV → ST → Prop) (h :
  wp m_Z_pageAt (2, [some (.inr (.inr (40, k0, i0))), some (.inl x1), some (.inl x2), some (.inl 0)], [], σ) Q) :
  wpM m_Z_pageAt [.inr (.inr (40, k0, i0)), .inl x1, .inl x2] σ Q :=
 wpM_of ml_245 (L := [some (.inr (.inr (40, k0, i0))), some (.inl x1), some (.inl x2), none]) rfl
 (w_iconst (p' := 1) f_245_0 rfl
 (w_istore_n (p' := 2) f_245_1 (L' := [some (.inr (.inr (40, k0, i0))), some (.inl x1), some (.inl x2), some (.inl 0)]) rfl rfl
 (h)))
set_option maxRecDepth 100000 in
theorem T_Z_pageAt_2 (k0 i0 x1 x2 x3 : Int) (σ : ST) (Q : Option AV → ST → Prop) (h :
  ((0 : Int) ≤ 0 ∧ (0 : Int) < 4) ∧
  ((((σ 43 0 0 0) ≤ x3 : Prop) →
    Q (some (.inl (-1))) σ) ∧
  (¬ ((σ 43 0 0 0) ≤ x3) →
    wpM m_Z_isPageOf [.inr (.inr (40, k0, i0)), .inl x3, .inl x1, .inl x2] σ (asI fun r101 s101 =>
    (((r101 = 0 : Prop) →
      wp m_Z_pageAt (2, [some (.inr (.inr (40, k0, i0))), some (.inl x1), some (.inl x2), some (.inl (wr (x3 + 1)))], [], s101) Q) ∧
    (¬ (r101 = 0) →
      Q (some (.inl x3)) s101)))))) :
  wp m_Z_pageAt (2, [some (.inr (.inr (40, k0, i0))), some (.inl x1), some (.inl x2), some (.inl x3)], [], σ) Q :=
 w_iload_n (p' := 3) f_245_2 rfl rfl
 (w_aload_n (p' := 4) f_245_3 rfl rfl
 (w_getfield (p' := 7) f_245_4 rfl (x := .inr (.inr (43, 0, 0))) rfl rfl
 (w_iconst (p' := 8) f_245_7 rfl
 (w_iaload (p' := 9) f_245_8 rfl (n := 4) rfl h.1 rfl
 (w_icmp (p' := 30) (q' := 12) f_245_9 rfl rfl
 (fun c103 => w_iconst (p' := 31) f_245_30 rfl
 (w_iret f_245_31 rk_245 (h.2.1 c103)))
 (fun c103 => w_aload_n (p' := 13) f_245_12 rfl rfl
 (w_iload_n (p' := 14) f_245_13 rfl rfl
 (w_iload_n (p' := 15) f_245_14 rfl rfl
 (w_iload_n (p' := 16) f_245_15 rfl rfl
 (w_callV (p' := 19) f_245_16 rfl rfl rfl rfl rfl (r := []) rfl rfl (kI (.inr rk_212) fun r101 s101 h101 =>
 w_if (p' := 24) (q' := 22) f_245_19 rfl rfl
 (fun c102 => w_iinc (p' := 27) f_245_24 rfl (L' := [some (.inr (.inr (40, k0, i0))), some (.inl x1), some (.inl x2), some (.inl (wr (x3 + 1)))]) rfl rfl
 (w_goto (p' := 2) f_245_27 rfl
 ((h101.1 c102))))
 (fun c102 => w_iload_n (p' := 23) f_245_22 rfl rfl
 (w_iret f_245_23 rk_245 (h101.2 c102)))) (h.2.2 c103)))))))))))
/-! ClosedRoomsModel.extendNow(II)I -/
theorem f_246_0 : fnd 246 0 = some (0, .aload_n 0, 1, 0, 0, 0, 0) := ceB_eq (by decide +kernel)
theorem f_246_1 : fnd 246 1 = some (1, .iload_n 1, 1, 0, 0, 0, 0) := ceB_eq (by decide +kernel)
theorem f_246_2 : fnd 246 2 = some (2, .iconst 4, 1, 0, 0, 0, 0) := ceB_eq (by decide +kernel)
theorem f_246_3 : fnd 246 3 = some (3, .bipush 31, 2, 0, 0, 0, 0) := ceB_eq (by decide +kernel)
theorem f_246_5 : fnd 246 5 = some (5, .aload_n 0, 1, 0, 0, 0, 0) := ceB_eq (by decide +kernel)
theorem f_246_6 : fnd 246 6 = some (6, .iload_n 1, 1, 0, 0, 0, 0) := ceB_eq (by decide +kernel)
theorem f_246_7 : fnd 246 7 = some (7, .iconst 4, 1, 0, 0, 0, 0) := ceB_eq (by decide +kernel)
theorem f_246_8 : fnd 246 8 = some (8, .invokevirtual 209, 3, 198, 3, 10, 0) := ceB_eq (by decide +kernel)
theorem f_246_11 : fnd 246 11 = some (11, .imul, 1, 0, 0, 0, 0) := ceB_eq (by decide +kernel)
theorem f_246_12 : fnd 246 12 = some (12, .sipush 1000, 3, 0, 0, 0, 0) := ceB_eq (by decide +kernel)
theorem f_246_15 : fnd 246 15 = some (15, .iadd, 1, 0, 0, 0, 0) := ceB_eq (by decide +kernel)
theorem f_246_16 : fnd 246 16 = some (16, .aload_n 0, 1, 0, 0, 0, 0) := ceB_eq (by decide +kernel)
theorem f_246_17 : fnd 246 17 = some (17, .aload_n 0, 1, 0, 0, 0, 0) := ceB_eq (by decide +kernel)
theorem f_246_18 : fnd 246 18 = some (18, .iload_n 1, 1, 0, 0, 0, 0) := ceB_eq (by decide +kernel)
theorem f_246_19 : fnd 246 19 = some (19, .iload_n 2, 1, 0, 0, 0, 0) := ceB_eq (by decide +kernel)
theorem f_246_20 : fnd 246 20 = some (20, .invokevirtual 364, 3, 245, 3, 10, 0) := ceB_eq (by decide +kernel)
theorem f_246_23 : fnd 246 23 = some (23, .iconst 4, 1, 0, 0, 0, 0) := ceB_eq (by decide +kernel)
theorem f_246_24 : fnd 246 24 = some (24, .invokevirtual 206, 3, 196, 3, 10, 0) := ceB_eq (by decide +kernel)
theorem f_246_27 : fnd 246 27 = some (27, .iadd, 1, 0, 0, 0, 0) := ceB_eq (by decide +kernel)
theorem f_246_28 : fnd 246 28 = some (28, .invokevirtual 361, 3, 241, 4, 10, 0) := ceB_eq (by decide +kernel)
theorem f_246_31 : fnd 246 31 = some (31, .aload_n 0, 1, 0, 0, 0, 0) := ceB_eq (by decide +kernel)
theorem f_246_32 : fnd 246 32 = some (32, .iload_n 1, 1, 0, 0, 0, 0) := ceB_eq (by decide +kernel)
theorem f_246_33 : fnd 246 33 = some (33, .iconst 4, 1, 0, 0, 0, 0) := ceB_eq (by decide +kernel)
theorem f_246_34 : fnd 246 34 = some (34, .invokevirtual 209, 3, 198, 3, 10, 0) := ceB_eq (by decide +kernel)
theorem f_246_37 : fnd 246 37 = some (37, .ireturn, 1, 0, 0, 0, 0) := ceB_eq (by decide +kernel)
theorem rk_246 : rkm 246 = 0 := by decide +kernel
theorem ml_246 : (mth 246).2.1 = 3 := by decide +kernel
set_option maxRecDepth 100000 in
theorem T_Z_extendNow (k0 i0 x1 x2 : Int) (σ : ST) (Q : Option AV → ST → Prop) (h :
  wpM m_Z_ofRoom [.inr (.inr (40, k0, i0)), .inl x1, .inl 4] σ (asI fun r101 s101 =>
  wpM m_Z_pageAt [.inr (.inr (40, k0, i0)), .inl x1, .inl x2] s101 (asI fun r102 s102 =>
  wpM m_Z_ofPage [.inr (.inr (40, k0, i0)), .inl r102, .inl 4] s102 (asI fun r103 s103 =>
  wpM m_Z_setRoom [.inr (.inr (40, k0, i0)), .inl x1, .inl 4, .inl (wr ((wr ((wr (31 * r101)) + 1000)) + r103))] s103 (asV fun s104 =>
  wpM m_Z_ofRoom [.inr (.inr (40, k0, i0)), .inl x1, .inl 4] s104 (asI fun r105 s105 =>
  Q (some (.inl r105)) s105)))))) :
  wpM m_Z_extendNow [.inr (.inr (40, k0, i0)), .inl x1, .inl x2] σ Q :=
 wpM_of ml_246 (L := [some (.inr (.inr (40, k0, i0))), some (.inl x1), some (.inl x2)]) rfl
 (w_aload_n (p' := 1) f_246_0 rfl rfl
 (w_iload_n (p' := 2) f_246_1 rfl rfl
 (w_iconst (p' := 3) f_246_2 rfl
 (w_bipush (p' := 5) f_246_3 rfl
 (w_aload_n (p' := 6) f_246_5 rfl rfl
 (w_iload_n (p' := 7) f_246_6 rfl rfl
 (w_iconst (p' := 8) f_246_7 rfl
 (w_callV (p' := 11) f_246_8 rfl rfl rfl rfl rfl (r := [.inl 31, .inl 4, .inl x1, .inr (.inr (40, k0, i0))]) rfl rfl (kI (.inl rk_198) fun r101 s101 h101 =>
 w_imul (p' := 12) f_246_11 rfl
 (w_sipush (p' := 15) f_246_12 rfl
 (w_iadd (p' := 16) f_246_15 rfl
 (w_aload_n (p' := 17) f_246_16 rfl rfl
 (w_aload_n (p' := 18) f_246_17 rfl rfl
 (w_iload_n (p' := 19) f_246_18 rfl rfl
 (w_iload_n (p' := 20) f_246_19 rfl rfl
 (w_callV (p' := 23) f_246_20 rfl rfl rfl rfl rfl (r := [.inr (.inr (40, k0, i0)), .inl (wr ((wr (31 * r101)) + 1000)), .inl 4, .inl x1, .inr (.inr (40, k0, i0))]) rfl rfl (kI (.inl rk_245) fun r102 s102 h102 =>
 w_iconst (p' := 24) f_246_23 rfl
 (w_callV (p' := 27) f_246_24 rfl rfl rfl rfl rfl (r := [.inl (wr ((wr (31 * r101)) + 1000)), .inl 4, .inl x1, .inr (.inr (40, k0, i0))]) rfl rfl (kI (.inl rk_196) fun r103 s103 h103 =>
 w_iadd (p' := 28) f_246_27 rfl
 (w_callV (p' := 31) f_246_28 rfl rfl rfl rfl rfl (r := []) rfl rfl (kV rk_241 fun s104 h104 =>
 w_aload_n (p' := 32) f_246_31 rfl rfl
 (w_iload_n (p' := 33) f_246_32 rfl rfl
 (w_iconst (p' := 34) f_246_33 rfl
 (w_callV (p' := 37) f_246_34 rfl rfl rfl rfl rfl (r := []) rfl rfl (kI (.inl rk_198) fun r105 s105 h105 =>
 w_iret f_246_37 rk_246 h105) h104)))) h103)) h102)) h101)))))))) h))))))))
/-! ClosedRoomsModel.sealNow(I)I -/
theorem f_247_0 : fnd 247 0 = some (0, .aload_n 0, 1, 0, 0, 0, 0) := ceB_eq (by decide +kernel)
theorem f_247_1 : fnd 247 1 = some (1, .iload_n 1, 1, 0, 0, 0, 0) := ceB_eq (by decide +kernel)
theorem f_247_2 : fnd 247 2 = some (2, .iconst 3, 1, 0, 0, 0, 0) := ceB_eq (by decide +kernel)
theorem f_247_3 : fnd 247 3 = some (3, .iconst 2, 1, 0, 0, 0, 0) := ceB_eq (by decide +kernel)
theorem f_247_4 : fnd 247 4 = some (4, .invokevirtual 361, 3, 241, 4, 10, 0) := ceB_eq (by decide +kernel)
theorem f_247_7 : fnd 247 7 = some (7, .aload_n 0, 1, 0, 0, 0, 0) := ceB_eq (by decide +kernel)
theorem f_247_8 : fnd 247 8 = some (8, .iload_n 1, 1, 0, 0, 0, 0) := ceB_eq (by decide +kernel)
theorem f_247_9 : fnd 247 9 = some (9, .iconst 1, 1, 0, 0, 0, 0) := ceB_eq (by decide +kernel)
theorem f_247_10 : fnd 247 10 = some (10, .invokevirtual 209, 3, 198, 3, 10, 0) := ceB_eq (by decide +kernel)
theorem f_247_13 : fnd 247 13 = some (13, .ireturn, 1, 0, 0, 0, 0) := ceB_eq (by decide +kernel)
theorem rk_247 : rkm 247 = 0 := by decide +kernel
theorem ml_247 : (mth 247).2.1 = 2 := by decide +kernel
set_option maxRecDepth 100000 in
theorem T_Z_sealNow (k0 i0 x1 : Int) (σ : ST) (Q : Option AV → ST → Prop) (h :
  wpM m_Z_setRoom [.inr (.inr (40, k0, i0)), .inl x1, .inl 3, .inl 2] σ (asV fun s101 =>
  wpM m_Z_ofRoom [.inr (.inr (40, k0, i0)), .inl x1, .inl 1] s101 (asI fun r102 s102 =>
  Q (some (.inl r102)) s102))) :
  wpM m_Z_sealNow [.inr (.inr (40, k0, i0)), .inl x1] σ Q :=
 wpM_of ml_247 (L := [some (.inr (.inr (40, k0, i0))), some (.inl x1)]) rfl
 (w_aload_n (p' := 1) f_247_0 rfl rfl
 (w_iload_n (p' := 2) f_247_1 rfl rfl
 (w_iconst (p' := 3) f_247_2 rfl
 (w_iconst (p' := 4) f_247_3 rfl
 (w_callV (p' := 7) f_247_4 rfl rfl rfl rfl rfl (r := []) rfl rfl (kV rk_241 fun s101 h101 =>
 w_aload_n (p' := 8) f_247_7 rfl rfl
 (w_iload_n (p' := 9) f_247_8 rfl rfl
 (w_iconst (p' := 10) f_247_9 rfl
 (w_callV (p' := 13) f_247_10 rfl rfl rfl rfl rfl (r := []) rfl rfl (kI (.inl rk_198) fun r102 s102 h102 =>
 w_iret f_247_13 rk_247 h102) h101)))) h)))))
/-! ClosedRoomsModel.enterNow(III)I -/
theorem f_248_0 : fnd 248 0 = some (0, .aload_n 0, 1, 0, 0, 0, 0) := ceB_eq (by decide +kernel)
theorem f_248_1 : fnd 248 1 = some (1, .iload_n 2, 1, 0, 0, 0, 0) := ceB_eq (by decide +kernel)
theorem f_248_2 : fnd 248 2 = some (2, .iload_n 3, 1, 0, 0, 0, 0) := ceB_eq (by decide +kernel)
theorem f_248_3 : fnd 248 3 = some (3, .invokevirtual 267, 3, 210, 3, 10, 0) := ceB_eq (by decide +kernel)
theorem f_248_6 : fnd 248 6 = some (6, .istore 4, 2, 0, 0, 0, 0) := ceB_eq (by decide +kernel)
theorem f_248_8 : fnd 248 8 = some (8, .aload_n 0, 1, 0, 0, 0, 0) := ceB_eq (by decide +kernel)
theorem f_248_9 : fnd 248 9 = some (9, .iload_n 1, 1, 0, 0, 0, 0) := ceB_eq (by decide +kernel)
theorem f_248_10 : fnd 248 10 = some (10, .iconst 1, 1, 0, 0, 0, 0) := ceB_eq (by decide +kernel)
theorem f_248_11 : fnd 248 11 = some (11, .iload_n 2, 1, 0, 0, 0, 0) := ceB_eq (by decide +kernel)
theorem f_248_12 : fnd 248 12 = some (12, .invokevirtual 234, 3, 192, 4, 10, 0) := ceB_eq (by decide +kernel)
theorem f_248_15 : fnd 248 15 = some (15, .aload_n 0, 1, 0, 0, 0, 0) := ceB_eq (by decide +kernel)
theorem f_248_16 : fnd 248 16 = some (16, .iload_n 1, 1, 0, 0, 0, 0) := ceB_eq (by decide +kernel)
theorem f_248_17 : fnd 248 17 = some (17, .iconst 2, 1, 0, 0, 0, 0) := ceB_eq (by decide +kernel)
theorem f_248_18 : fnd 248 18 = some (18, .iload 4, 2, 0, 0, 0, 0) := ceB_eq (by decide +kernel)
theorem f_248_20 : fnd 248 20 = some (20, .invokevirtual 234, 3, 192, 4, 10, 0) := ceB_eq (by decide +kernel)
theorem f_248_23 : fnd 248 23 = some (23, .aload_n 0, 1, 0, 0, 0, 0) := ceB_eq (by decide +kernel)
theorem f_248_24 : fnd 248 24 = some (24, .iload_n 1, 1, 0, 0, 0, 0) := ceB_eq (by decide +kernel)
theorem f_248_25 : fnd 248 25 = some (25, .iconst 3, 1, 0, 0, 0, 0) := ceB_eq (by decide +kernel)
theorem f_248_26 : fnd 248 26 = some (26, .aload_n 0, 1, 0, 0, 0, 0) := ceB_eq (by decide +kernel)
theorem f_248_27 : fnd 248 27 = some (27, .iload_n 2, 1, 0, 0, 0, 0) := ceB_eq (by decide +kernel)
theorem f_248_28 : fnd 248 28 = some (28, .iconst 5, 1, 0, 0, 0, 0) := ceB_eq (by decide +kernel)
theorem f_248_29 : fnd 248 29 = some (29, .invokevirtual 209, 3, 198, 3, 10, 0) := ceB_eq (by decide +kernel)
theorem f_248_32 : fnd 248 32 = some (32, .invokevirtual 234, 3, 192, 4, 10, 0) := ceB_eq (by decide +kernel)
theorem f_248_35 : fnd 248 35 = some (35, .aload_n 0, 1, 0, 0, 0, 0) := ceB_eq (by decide +kernel)
theorem f_248_36 : fnd 248 36 = some (36, .iload_n 1, 1, 0, 0, 0, 0) := ceB_eq (by decide +kernel)
theorem f_248_37 : fnd 248 37 = some (37, .iconst 4, 1, 0, 0, 0, 0) := ceB_eq (by decide +kernel)
theorem f_248_38 : fnd 248 38 = some (38, .iconst 0, 1, 0, 0, 0, 0) := ceB_eq (by decide +kernel)
theorem f_248_39 : fnd 248 39 = some (39, .invokevirtual 234, 3, 192, 4, 10, 0) := ceB_eq (by decide +kernel)
theorem f_248_42 : fnd 248 42 = some (42, .aload_n 0, 1, 0, 0, 0, 0) := ceB_eq (by decide +kernel)
theorem f_248_43 : fnd 248 43 = some (43, .iload 4, 2, 0, 0, 0, 0) := ceB_eq (by decide +kernel)
theorem f_248_45 : fnd 248 45 = some (45, .bipush 6, 2, 0, 0, 0, 0) := ceB_eq (by decide +kernel)
theorem f_248_47 : fnd 248 47 = some (47, .iconst 1, 1, 0, 0, 0, 0) := ceB_eq (by decide +kernel)
theorem f_248_48 : fnd 248 48 = some (48, .invokevirtual 218, 3, 190, 4, 10, 0) := ceB_eq (by decide +kernel)
theorem f_248_51 : fnd 248 51 = some (51, .iload 4, 2, 0, 0, 0, 0) := ceB_eq (by decide +kernel)
theorem f_248_53 : fnd 248 53 = some (53, .ireturn, 1, 0, 0, 0, 0) := ceB_eq (by decide +kernel)
theorem rk_248 : rkm 248 = 0 := by decide +kernel
theorem ml_248 : (mth 248).2.1 = 5 := by decide +kernel
set_option maxRecDepth 100000 in
theorem T_Z_enterNow (k0 i0 x1 x2 x3 : Int) (σ : ST) (Q : Option AV → ST → Prop) (h :
  wpM m_Z_mapOf [.inr (.inr (40, k0, i0)), .inl x2, .inl x3] σ (asI fun r101 s101 =>
  wpM m_Z_setCore [.inr (.inr (40, k0, i0)), .inl x1, .inl 1, .inl x2] s101 (asV fun s102 =>
  wpM m_Z_setCore [.inr (.inr (40, k0, i0)), .inl x1, .inl 2, .inl r101] s102 (asV fun s103 =>
  wpM m_Z_ofRoom [.inr (.inr (40, k0, i0)), .inl x2, .inl 5] s103 (asI fun r104 s104 =>
  wpM m_Z_setCore [.inr (.inr (40, k0, i0)), .inl x1, .inl 3, .inl r104] s104 (asV fun s105 =>
  wpM m_Z_setCore [.inr (.inr (40, k0, i0)), .inl x1, .inl 4, .inl 0] s105 (asV fun s106 =>
  wpM m_Z_setPage [.inr (.inr (40, k0, i0)), .inl r101, .inl 6, .inl 1] s106 (asV fun s107 =>
  Q (some (.inl r101)) s107)))))))) :
  wpM m_Z_enterNow [.inr (.inr (40, k0, i0)), .inl x1, .inl x2, .inl x3] σ Q :=
 wpM_of ml_248 (L := [some (.inr (.inr (40, k0, i0))), some (.inl x1), some (.inl x2), some (.inl x3), none]) rfl
 (w_aload_n (p' := 1) f_248_0 rfl rfl
 (w_iload_n (p' := 2) f_248_1 rfl rfl
 (w_iload_n (p' := 3) f_248_2 rfl rfl
 (w_callV (p' := 6) f_248_3 rfl rfl rfl rfl rfl (r := []) rfl rfl (kI (.inl rk_210) fun r101 s101 h101 =>
 w_istore (p' := 8) f_248_6 (L' := [some (.inr (.inr (40, k0, i0))), some (.inl x1), some (.inl x2), some (.inl x3), some (.inl r101)]) rfl rfl
 (w_aload_n (p' := 9) f_248_8 rfl rfl
 (w_iload_n (p' := 10) f_248_9 rfl rfl
 (w_iconst (p' := 11) f_248_10 rfl
 (w_iload_n (p' := 12) f_248_11 rfl rfl
 (w_callV (p' := 15) f_248_12 rfl rfl rfl rfl rfl (r := []) rfl rfl (kV rk_192 fun s102 h102 =>
 w_aload_n (p' := 16) f_248_15 rfl rfl
 (w_iload_n (p' := 17) f_248_16 rfl rfl
 (w_iconst (p' := 18) f_248_17 rfl
 (w_iload (p' := 20) f_248_18 rfl rfl
 (w_callV (p' := 23) f_248_20 rfl rfl rfl rfl rfl (r := []) rfl rfl (kV rk_192 fun s103 h103 =>
 w_aload_n (p' := 24) f_248_23 rfl rfl
 (w_iload_n (p' := 25) f_248_24 rfl rfl
 (w_iconst (p' := 26) f_248_25 rfl
 (w_aload_n (p' := 27) f_248_26 rfl rfl
 (w_iload_n (p' := 28) f_248_27 rfl rfl
 (w_iconst (p' := 29) f_248_28 rfl
 (w_callV (p' := 32) f_248_29 rfl rfl rfl rfl rfl (r := [.inl 3, .inl x1, .inr (.inr (40, k0, i0))]) rfl rfl (kI (.inl rk_198) fun r104 s104 h104 =>
 w_callV (p' := 35) f_248_32 rfl rfl rfl rfl rfl (r := []) rfl rfl (kV rk_192 fun s105 h105 =>
 w_aload_n (p' := 36) f_248_35 rfl rfl
 (w_iload_n (p' := 37) f_248_36 rfl rfl
 (w_iconst (p' := 38) f_248_37 rfl
 (w_iconst (p' := 39) f_248_38 rfl
 (w_callV (p' := 42) f_248_39 rfl rfl rfl rfl rfl (r := []) rfl rfl (kV rk_192 fun s106 h106 =>
 w_aload_n (p' := 43) f_248_42 rfl rfl
 (w_iload (p' := 45) f_248_43 rfl rfl
 (w_bipush (p' := 47) f_248_45 rfl
 (w_iconst (p' := 48) f_248_47 rfl
 (w_callV (p' := 51) f_248_48 rfl rfl rfl rfl rfl (r := []) rfl rfl (kV rk_190 fun s107 h107 =>
 w_iload (p' := 53) f_248_51 rfl rfl
 (w_iret f_248_53 rk_248 h107)) h106))))) h105))))) h104) h103))))))) h102))))) h101)))))) h))))
/-! ClosedRoomsModel.leaveNow(I)I -/
theorem f_249_0 : fnd 249 0 = some (0, .aload_n 0, 1, 0, 0, 0, 0) := ceB_eq (by decide +kernel)
theorem f_249_1 : fnd 249 1 = some (1, .aload_n 0, 1, 0, 0, 0, 0) := ceB_eq (by decide +kernel)
theorem f_249_2 : fnd 249 2 = some (2, .iload_n 1, 1, 0, 0, 0, 0) := ceB_eq (by decide +kernel)
theorem f_249_3 : fnd 249 3 = some (3, .iconst 2, 1, 0, 0, 0, 0) := ceB_eq (by decide +kernel)
theorem f_249_4 : fnd 249 4 = some (4, .invokevirtual 212, 3, 208, 3, 10, 0) := ceB_eq (by decide +kernel)
theorem f_249_7 : fnd 249 7 = some (7, .bipush 6, 2, 0, 0, 0, 0) := ceB_eq (by decide +kernel)
theorem f_249_9 : fnd 249 9 = some (9, .iconst 0, 1, 0, 0, 0, 0) := ceB_eq (by decide +kernel)
theorem f_249_10 : fnd 249 10 = some (10, .invokevirtual 218, 3, 190, 4, 10, 0) := ceB_eq (by decide +kernel)
theorem f_249_13 : fnd 249 13 = some (13, .aload_n 0, 1, 0, 0, 0, 0) := ceB_eq (by decide +kernel)
theorem f_249_14 : fnd 249 14 = some (14, .iload_n 1, 1, 0, 0, 0, 0) := ceB_eq (by decide +kernel)
theorem f_249_15 : fnd 249 15 = some (15, .invokevirtual 225, 3, 193, 2, 10, 0) := ceB_eq (by decide +kernel)
theorem f_249_18 : fnd 249 18 = some (18, .aload_n 0, 1, 0, 0, 0, 0) := ceB_eq (by decide +kernel)
theorem f_249_19 : fnd 249 19 = some (19, .iload_n 1, 1, 0, 0, 0, 0) := ceB_eq (by decide +kernel)
theorem f_249_20 : fnd 249 20 = some (20, .iconst 0, 1, 0, 0, 0, 0) := ceB_eq (by decide +kernel)
theorem f_249_21 : fnd 249 21 = some (21, .invokevirtual 212, 3, 208, 3, 10, 0) := ceB_eq (by decide +kernel)
theorem f_249_24 : fnd 249 24 = some (24, .ireturn, 1, 0, 0, 0, 0) := ceB_eq (by decide +kernel)
theorem rk_249 : rkm 249 = 0 := by decide +kernel
theorem ml_249 : (mth 249).2.1 = 2 := by decide +kernel
set_option maxRecDepth 100000 in
theorem T_Z_leaveNow (k0 i0 x1 : Int) (σ : ST) (Q : Option AV → ST → Prop) (h :
  wpM m_Z_ofCore [.inr (.inr (40, k0, i0)), .inl x1, .inl 2] σ (asI fun r101 s101 =>
  wpM m_Z_setPage [.inr (.inr (40, k0, i0)), .inl r101, .inl 6, .inl 0] s101 (asV fun s102 =>
  wpM m_Z_putOutside [.inr (.inr (40, k0, i0)), .inl x1] s102 (asV fun s103 =>
  wpM m_Z_ofCore [.inr (.inr (40, k0, i0)), .inl x1, .inl 0] s103 (asI fun r104 s104 =>
  Q (some (.inl r104)) s104))))) :
  wpM m_Z_leaveNow [.inr (.inr (40, k0, i0)), .inl x1] σ Q :=
 wpM_of ml_249 (L := [some (.inr (.inr (40, k0, i0))), some (.inl x1)]) rfl
 (w_aload_n (p' := 1) f_249_0 rfl rfl
 (w_aload_n (p' := 2) f_249_1 rfl rfl
 (w_iload_n (p' := 3) f_249_2 rfl rfl
 (w_iconst (p' := 4) f_249_3 rfl
 (w_callV (p' := 7) f_249_4 rfl rfl rfl rfl rfl (r := [.inr (.inr (40, k0, i0))]) rfl rfl (kI (.inl rk_208) fun r101 s101 h101 =>
 w_bipush (p' := 9) f_249_7 rfl
 (w_iconst (p' := 10) f_249_9 rfl
 (w_callV (p' := 13) f_249_10 rfl rfl rfl rfl rfl (r := []) rfl rfl (kV rk_190 fun s102 h102 =>
 w_aload_n (p' := 14) f_249_13 rfl rfl
 (w_iload_n (p' := 15) f_249_14 rfl rfl
 (w_callV (p' := 18) f_249_15 rfl rfl rfl rfl rfl (r := []) rfl rfl (kV rk_193 fun s103 h103 =>
 w_aload_n (p' := 19) f_249_18 rfl rfl
 (w_iload_n (p' := 20) f_249_19 rfl rfl
 (w_iconst (p' := 21) f_249_20 rfl
 (w_callV (p' := 24) f_249_21 rfl rfl rfl rfl rfl (r := []) rfl rfl (kI (.inl rk_208) fun r104 s104 h104 =>
 w_iret f_249_24 rk_249 h104) h103)))) h102))) h101))) h)))))
/-! ClosedRoomsModel.trapNow(I)I -/
theorem f_250_0 : fnd 250 0 = some (0, .aload_n 0, 1, 0, 0, 0, 0) := ceB_eq (by decide +kernel)
theorem f_250_1 : fnd 250 1 = some (1, .iload_n 1, 1, 0, 0, 0, 0) := ceB_eq (by decide +kernel)
theorem f_250_2 : fnd 250 2 = some (2, .iconst 2, 1, 0, 0, 0, 0) := ceB_eq (by decide +kernel)
theorem f_250_3 : fnd 250 3 = some (3, .invokevirtual 212, 3, 208, 3, 10, 0) := ceB_eq (by decide +kernel)
theorem f_250_6 : fnd 250 6 = some (6, .istore_n 2, 1, 0, 0, 0, 0) := ceB_eq (by decide +kernel)
theorem f_250_7 : fnd 250 7 = some (7, .aload_n 0, 1, 0, 0, 0, 0) := ceB_eq (by decide +kernel)
theorem f_250_8 : fnd 250 8 = some (8, .iload_n 2, 1, 0, 0, 0, 0) := ceB_eq (by decide +kernel)
theorem f_250_9 : fnd 250 9 = some (9, .bipush 6, 2, 0, 0, 0, 0) := ceB_eq (by decide +kernel)
theorem f_250_11 : fnd 250 11 = some (11, .iconst 2, 1, 0, 0, 0, 0) := ceB_eq (by decide +kernel)
theorem f_250_12 : fnd 250 12 = some (12, .invokevirtual 218, 3, 190, 4, 10, 0) := ceB_eq (by decide +kernel)
theorem f_250_15 : fnd 250 15 = some (15, .aload_n 0, 1, 0, 0, 0, 0) := ceB_eq (by decide +kernel)
theorem f_250_16 : fnd 250 16 = some (16, .iload_n 2, 1, 0, 0, 0, 0) := ceB_eq (by decide +kernel)
theorem f_250_17 : fnd 250 17 = some (17, .iconst 4, 1, 0, 0, 0, 0) := ceB_eq (by decide +kernel)
theorem f_250_18 : fnd 250 18 = some (18, .aload_n 0, 1, 0, 0, 0, 0) := ceB_eq (by decide +kernel)
theorem f_250_19 : fnd 250 19 = some (19, .iload_n 1, 1, 0, 0, 0, 0) := ceB_eq (by decide +kernel)
theorem f_250_20 : fnd 250 20 = some (20, .iconst 0, 1, 0, 0, 0, 0) := ceB_eq (by decide +kernel)
theorem f_250_21 : fnd 250 21 = some (21, .invokevirtual 212, 3, 208, 3, 10, 0) := ceB_eq (by decide +kernel)
theorem f_250_24 : fnd 250 24 = some (24, .invokevirtual 218, 3, 190, 4, 10, 0) := ceB_eq (by decide +kernel)
theorem f_250_27 : fnd 250 27 = some (27, .aload_n 0, 1, 0, 0, 0, 0) := ceB_eq (by decide +kernel)
theorem f_250_28 : fnd 250 28 = some (28, .iload_n 1, 1, 0, 0, 0, 0) := ceB_eq (by decide +kernel)
theorem f_250_29 : fnd 250 29 = some (29, .iconst 0, 1, 0, 0, 0, 0) := ceB_eq (by decide +kernel)
theorem f_250_30 : fnd 250 30 = some (30, .iconst 0, 1, 0, 0, 0, 0) := ceB_eq (by decide +kernel)
theorem f_250_31 : fnd 250 31 = some (31, .invokevirtual 234, 3, 192, 4, 10, 0) := ceB_eq (by decide +kernel)
theorem f_250_34 : fnd 250 34 = some (34, .aload_n 0, 1, 0, 0, 0, 0) := ceB_eq (by decide +kernel)
theorem f_250_35 : fnd 250 35 = some (35, .iload_n 1, 1, 0, 0, 0, 0) := ceB_eq (by decide +kernel)
theorem f_250_36 : fnd 250 36 = some (36, .invokevirtual 225, 3, 193, 2, 10, 0) := ceB_eq (by decide +kernel)
theorem f_250_39 : fnd 250 39 = some (39, .iload_n 2, 1, 0, 0, 0, 0) := ceB_eq (by decide +kernel)
theorem f_250_40 : fnd 250 40 = some (40, .ireturn, 1, 0, 0, 0, 0) := ceB_eq (by decide +kernel)
theorem rk_250 : rkm 250 = 0 := by decide +kernel
theorem ml_250 : (mth 250).2.1 = 3 := by decide +kernel
set_option maxRecDepth 100000 in
theorem T_Z_trapNow (k0 i0 x1 : Int) (σ : ST) (Q : Option AV → ST → Prop) (h :
  wpM m_Z_ofCore [.inr (.inr (40, k0, i0)), .inl x1, .inl 2] σ (asI fun r101 s101 =>
  wpM m_Z_setPage [.inr (.inr (40, k0, i0)), .inl r101, .inl 6, .inl 2] s101 (asV fun s102 =>
  wpM m_Z_ofCore [.inr (.inr (40, k0, i0)), .inl x1, .inl 0] s102 (asI fun r103 s103 =>
  wpM m_Z_setPage [.inr (.inr (40, k0, i0)), .inl r101, .inl 4, .inl r103] s103 (asV fun s104 =>
  wpM m_Z_setCore [.inr (.inr (40, k0, i0)), .inl x1, .inl 0, .inl 0] s104 (asV fun s105 =>
  wpM m_Z_putOutside [.inr (.inr (40, k0, i0)), .inl x1] s105 (asV fun s106 =>
  Q (some (.inl r101)) s106))))))) :
  wpM m_Z_trapNow [.inr (.inr (40, k0, i0)), .inl x1] σ Q :=
 wpM_of ml_250 (L := [some (.inr (.inr (40, k0, i0))), some (.inl x1), none]) rfl
 (w_aload_n (p' := 1) f_250_0 rfl rfl
 (w_iload_n (p' := 2) f_250_1 rfl rfl
 (w_iconst (p' := 3) f_250_2 rfl
 (w_callV (p' := 6) f_250_3 rfl rfl rfl rfl rfl (r := []) rfl rfl (kI (.inl rk_208) fun r101 s101 h101 =>
 w_istore_n (p' := 7) f_250_6 (L' := [some (.inr (.inr (40, k0, i0))), some (.inl x1), some (.inl r101)]) rfl rfl
 (w_aload_n (p' := 8) f_250_7 rfl rfl
 (w_iload_n (p' := 9) f_250_8 rfl rfl
 (w_bipush (p' := 11) f_250_9 rfl
 (w_iconst (p' := 12) f_250_11 rfl
 (w_callV (p' := 15) f_250_12 rfl rfl rfl rfl rfl (r := []) rfl rfl (kV rk_190 fun s102 h102 =>
 w_aload_n (p' := 16) f_250_15 rfl rfl
 (w_iload_n (p' := 17) f_250_16 rfl rfl
 (w_iconst (p' := 18) f_250_17 rfl
 (w_aload_n (p' := 19) f_250_18 rfl rfl
 (w_iload_n (p' := 20) f_250_19 rfl rfl
 (w_iconst (p' := 21) f_250_20 rfl
 (w_callV (p' := 24) f_250_21 rfl rfl rfl rfl rfl (r := [.inl 4, .inl r101, .inr (.inr (40, k0, i0))]) rfl rfl (kI (.inl rk_208) fun r103 s103 h103 =>
 w_callV (p' := 27) f_250_24 rfl rfl rfl rfl rfl (r := []) rfl rfl (kV rk_190 fun s104 h104 =>
 w_aload_n (p' := 28) f_250_27 rfl rfl
 (w_iload_n (p' := 29) f_250_28 rfl rfl
 (w_iconst (p' := 30) f_250_29 rfl
 (w_iconst (p' := 31) f_250_30 rfl
 (w_callV (p' := 34) f_250_31 rfl rfl rfl rfl rfl (r := []) rfl rfl (kV rk_192 fun s105 h105 =>
 w_aload_n (p' := 35) f_250_34 rfl rfl
 (w_iload_n (p' := 36) f_250_35 rfl rfl
 (w_callV (p' := 39) f_250_36 rfl rfl rfl rfl rfl (r := []) rfl rfl (kV rk_193 fun s106 h106 =>
 w_iload_n (p' := 40) f_250_39 rfl rfl
 (w_iret f_250_40 rk_250 h106)) h105))) h104))))) h103) h102))))))) h101)))))) h))))
/-! ClosedRoomsModel.resumeNow(III)I -/
theorem f_251_0 : fnd 251 0 = some (0, .aload_n 0, 1, 0, 0, 0, 0) := ceB_eq (by decide +kernel)
theorem f_251_1 : fnd 251 1 = some (1, .iload_n 1, 1, 0, 0, 0, 0) := ceB_eq (by decide +kernel)
theorem f_251_2 : fnd 251 2 = some (2, .iload_n 2, 1, 0, 0, 0, 0) := ceB_eq (by decide +kernel)
theorem f_251_3 : fnd 251 3 = some (3, .iload_n 3, 1, 0, 0, 0, 0) := ceB_eq (by decide +kernel)
theorem f_251_4 : fnd 251 4 = some (4, .invokevirtual 367, 3, 248, 4, 10, 0) := ceB_eq (by decide +kernel)
theorem f_251_7 : fnd 251 7 = some (7, .istore 4, 2, 0, 0, 0, 0) := ceB_eq (by decide +kernel)
theorem f_251_9 : fnd 251 9 = some (9, .aload_n 0, 1, 0, 0, 0, 0) := ceB_eq (by decide +kernel)
theorem f_251_10 : fnd 251 10 = some (10, .iload_n 1, 1, 0, 0, 0, 0) := ceB_eq (by decide +kernel)
theorem f_251_11 : fnd 251 11 = some (11, .iconst 0, 1, 0, 0, 0, 0) := ceB_eq (by decide +kernel)
theorem f_251_12 : fnd 251 12 = some (12, .aload_n 0, 1, 0, 0, 0, 0) := ceB_eq (by decide +kernel)
theorem f_251_13 : fnd 251 13 = some (13, .iload 4, 2, 0, 0, 0, 0) := ceB_eq (by decide +kernel)
theorem f_251_15 : fnd 251 15 = some (15, .iconst 4, 1, 0, 0, 0, 0) := ceB_eq (by decide +kernel)
theorem f_251_16 : fnd 251 16 = some (16, .invokevirtual 206, 3, 196, 3, 10, 0) := ceB_eq (by decide +kernel)
theorem f_251_19 : fnd 251 19 = some (19, .invokevirtual 234, 3, 192, 4, 10, 0) := ceB_eq (by decide +kernel)
theorem f_251_22 : fnd 251 22 = some (22, .aload_n 0, 1, 0, 0, 0, 0) := ceB_eq (by decide +kernel)
theorem f_251_23 : fnd 251 23 = some (23, .iload 4, 2, 0, 0, 0, 0) := ceB_eq (by decide +kernel)
theorem f_251_25 : fnd 251 25 = some (25, .iconst 4, 1, 0, 0, 0, 0) := ceB_eq (by decide +kernel)
theorem f_251_26 : fnd 251 26 = some (26, .iconst 0, 1, 0, 0, 0, 0) := ceB_eq (by decide +kernel)
theorem f_251_27 : fnd 251 27 = some (27, .invokevirtual 218, 3, 190, 4, 10, 0) := ceB_eq (by decide +kernel)
theorem f_251_30 : fnd 251 30 = some (30, .aload_n 0, 1, 0, 0, 0, 0) := ceB_eq (by decide +kernel)
theorem f_251_31 : fnd 251 31 = some (31, .iload_n 1, 1, 0, 0, 0, 0) := ceB_eq (by decide +kernel)
theorem f_251_32 : fnd 251 32 = some (32, .iconst 0, 1, 0, 0, 0, 0) := ceB_eq (by decide +kernel)
theorem f_251_33 : fnd 251 33 = some (33, .invokevirtual 212, 3, 208, 3, 10, 0) := ceB_eq (by decide +kernel)
theorem f_251_36 : fnd 251 36 = some (36, .ireturn, 1, 0, 0, 0, 0) := ceB_eq (by decide +kernel)
theorem rk_251 : rkm 251 = 0 := by decide +kernel
theorem ml_251 : (mth 251).2.1 = 5 := by decide +kernel
set_option maxRecDepth 100000 in
theorem T_Z_resumeNow (k0 i0 x1 x2 x3 : Int) (σ : ST) (Q : Option AV → ST → Prop) (h :
  wpM m_Z_enterNow [.inr (.inr (40, k0, i0)), .inl x1, .inl x2, .inl x3] σ (asI fun r101 s101 =>
  wpM m_Z_ofPage [.inr (.inr (40, k0, i0)), .inl r101, .inl 4] s101 (asI fun r102 s102 =>
  wpM m_Z_setCore [.inr (.inr (40, k0, i0)), .inl x1, .inl 0, .inl r102] s102 (asV fun s103 =>
  wpM m_Z_setPage [.inr (.inr (40, k0, i0)), .inl r101, .inl 4, .inl 0] s103 (asV fun s104 =>
  wpM m_Z_ofCore [.inr (.inr (40, k0, i0)), .inl x1, .inl 0] s104 (asI fun r105 s105 =>
  Q (some (.inl r105)) s105)))))) :
  wpM m_Z_resumeNow [.inr (.inr (40, k0, i0)), .inl x1, .inl x2, .inl x3] σ Q :=
 wpM_of ml_251 (L := [some (.inr (.inr (40, k0, i0))), some (.inl x1), some (.inl x2), some (.inl x3), none]) rfl
 (w_aload_n (p' := 1) f_251_0 rfl rfl
 (w_iload_n (p' := 2) f_251_1 rfl rfl
 (w_iload_n (p' := 3) f_251_2 rfl rfl
 (w_iload_n (p' := 4) f_251_3 rfl rfl
 (w_callV (p' := 7) f_251_4 rfl rfl rfl rfl rfl (r := []) rfl rfl (kI (.inl rk_248) fun r101 s101 h101 =>
 w_istore (p' := 9) f_251_7 (L' := [some (.inr (.inr (40, k0, i0))), some (.inl x1), some (.inl x2), some (.inl x3), some (.inl r101)]) rfl rfl
 (w_aload_n (p' := 10) f_251_9 rfl rfl
 (w_iload_n (p' := 11) f_251_10 rfl rfl
 (w_iconst (p' := 12) f_251_11 rfl
 (w_aload_n (p' := 13) f_251_12 rfl rfl
 (w_iload (p' := 15) f_251_13 rfl rfl
 (w_iconst (p' := 16) f_251_15 rfl
 (w_callV (p' := 19) f_251_16 rfl rfl rfl rfl rfl (r := [.inl 0, .inl x1, .inr (.inr (40, k0, i0))]) rfl rfl (kI (.inl rk_196) fun r102 s102 h102 =>
 w_callV (p' := 22) f_251_19 rfl rfl rfl rfl rfl (r := []) rfl rfl (kV rk_192 fun s103 h103 =>
 w_aload_n (p' := 23) f_251_22 rfl rfl
 (w_iload (p' := 25) f_251_23 rfl rfl
 (w_iconst (p' := 26) f_251_25 rfl
 (w_iconst (p' := 27) f_251_26 rfl
 (w_callV (p' := 30) f_251_27 rfl rfl rfl rfl rfl (r := []) rfl rfl (kV rk_190 fun s104 h104 =>
 w_aload_n (p' := 31) f_251_30 rfl rfl
 (w_iload_n (p' := 32) f_251_31 rfl rfl
 (w_iconst (p' := 33) f_251_32 rfl
 (w_callV (p' := 36) f_251_33 rfl rfl rfl rfl rfl (r := []) rfl rfl (kI (.inl rk_208) fun r105 s105 h105 =>
 w_iret f_251_36 rk_251 h105) h104)))) h103))))) h102) h101)))))))) h)))))
/-! ClosedRoomsModel.sees(III)V -/
theorem f_252_0 : fnd 252 0 = some (0, .aload_n 0, 1, 0, 0, 0, 0) := ceB_eq (by decide +kernel)
theorem f_252_1 : fnd 252 1 = some (1, .iload_n 1, 1, 0, 0, 0, 0) := ceB_eq (by decide +kernel)
theorem f_252_2 : fnd 252 2 = some (2, .iconst 4, 1, 0, 0, 0, 0) := ceB_eq (by decide +kernel)
theorem f_252_3 : fnd 252 3 = some (3, .invokevirtual 212, 3, 208, 3, 10, 0) := ceB_eq (by decide +kernel)
theorem f_252_6 : fnd 252 6 = some (6, .istore 4, 2, 0, 0, 0, 0) := ceB_eq (by decide +kernel)
theorem f_252_8 : fnd 252 8 = some (8, .iload 4, 2, 0, 0, 0, 0) := ceB_eq (by decide +kernel)
theorem f_252_10 : fnd 252 10 = some (10, .aload_n 0, 1, 0, 0, 0, 0) := ceB_eq (by decide +kernel)
theorem f_252_11 : fnd 252 11 = some (11, .getfield 16, 3, 10, 10, 10, 0) := ceB_eq (by decide +kernel)
theorem f_252_14 : fnd 252 14 = some (14, .iconst 2, 1, 0, 0, 0, 0) := ceB_eq (by decide +kernel)
theorem f_252_15 : fnd 252 15 = some (15, .iaload, 1, 0, 0, 0, 0) := ceB_eq (by decide +kernel)
theorem f_252_16 : fnd 252 16 = some (16, .if_icmp .ne 44, 3, 0, 0, 0, 0) := ceB_eq (by decide +kernel)
theorem f_252_19 : fnd 252 19 = some (19, .iconst 2, 1, 0, 0, 0, 0) := ceB_eq (by decide +kernel)
theorem f_252_20 : fnd 252 20 = some (20, .istore 5, 2, 0, 0, 0, 0) := ceB_eq (by decide +kernel)
theorem f_252_22 : fnd 252 22 = some (22, .iload 5, 2, 0, 0, 0, 0) := ceB_eq (by decide +kernel)
theorem f_252_24 : fnd 252 24 = some (24, .iconst 2, 1, 0, 0, 0, 0) := ceB_eq (by decide +kernel)
theorem f_252_25 : fnd 252 25 = some (25, .iload 4, 2, 0, 0, 0, 0) := ceB_eq (by decide +kernel)
theorem f_252_27 : fnd 252 27 = some (27, .imul, 1, 0, 0, 0, 0) := ceB_eq (by decide +kernel)
theorem f_252_28 : fnd 252 28 = some (28, .if_icmp .ge 29, 3, 0, 0, 0, 0) := ceB_eq (by decide +kernel)
theorem f_252_31 : fnd 252 31 = some (31, .aload_n 0, 1, 0, 0, 0, 0) := ceB_eq (by decide +kernel)
theorem f_252_32 : fnd 252 32 = some (32, .iload_n 1, 1, 0, 0, 0, 0) := ceB_eq (by decide +kernel)
theorem f_252_33 : fnd 252 33 = some (33, .iconst 5, 1, 0, 0, 0, 0) := ceB_eq (by decide +kernel)
theorem f_252_34 : fnd 252 34 = some (34, .iload 5, 2, 0, 0, 0, 0) := ceB_eq (by decide +kernel)
theorem f_252_36 : fnd 252 36 = some (36, .iadd, 1, 0, 0, 0, 0) := ceB_eq (by decide +kernel)
theorem f_252_37 : fnd 252 37 = some (37, .iconst 2, 1, 0, 0, 0, 0) := ceB_eq (by decide +kernel)
theorem f_252_38 : fnd 252 38 = some (38, .isub, 1, 0, 0, 0, 0) := ceB_eq (by decide +kernel)
theorem f_252_39 : fnd 252 39 = some (39, .aload_n 0, 1, 0, 0, 0, 0) := ceB_eq (by decide +kernel)
theorem f_252_40 : fnd 252 40 = some (40, .iload_n 1, 1, 0, 0, 0, 0) := ceB_eq (by decide +kernel)
theorem f_252_41 : fnd 252 41 = some (41, .iconst 5, 1, 0, 0, 0, 0) := ceB_eq (by decide +kernel)
theorem f_252_42 : fnd 252 42 = some (42, .iload 5, 2, 0, 0, 0, 0) := ceB_eq (by decide +kernel)
theorem f_252_44 : fnd 252 44 = some (44, .iadd, 1, 0, 0, 0, 0) := ceB_eq (by decide +kernel)
theorem f_252_45 : fnd 252 45 = some (45, .invokevirtual 212, 3, 208, 3, 10, 0) := ceB_eq (by decide +kernel)
theorem f_252_48 : fnd 252 48 = some (48, .invokevirtual 234, 3, 192, 4, 10, 0) := ceB_eq (by decide +kernel)
theorem f_252_51 : fnd 252 51 = some (51, .iinc 5 1, 3, 0, 0, 0, 0) := ceB_eq (by decide +kernel)
theorem f_252_54 : fnd 252 54 = some (54, .goto (-32), 3, 0, 0, 0, 0) := ceB_eq (by decide +kernel)
theorem f_252_57 : fnd 252 57 = some (57, .iinc 4 (-1), 3, 0, 0, 0, 0) := ceB_eq (by decide +kernel)
theorem f_252_60 : fnd 252 60 = some (60, .aload_n 0, 1, 0, 0, 0, 0) := ceB_eq (by decide +kernel)
theorem f_252_61 : fnd 252 61 = some (61, .iload_n 1, 1, 0, 0, 0, 0) := ceB_eq (by decide +kernel)
theorem f_252_62 : fnd 252 62 = some (62, .iconst 5, 1, 0, 0, 0, 0) := ceB_eq (by decide +kernel)
theorem f_252_63 : fnd 252 63 = some (63, .iconst 2, 1, 0, 0, 0, 0) := ceB_eq (by decide +kernel)
theorem f_252_64 : fnd 252 64 = some (64, .iload 4, 2, 0, 0, 0, 0) := ceB_eq (by decide +kernel)
theorem f_252_66 : fnd 252 66 = some (66, .imul, 1, 0, 0, 0, 0) := ceB_eq (by decide +kernel)
theorem f_252_67 : fnd 252 67 = some (67, .iadd, 1, 0, 0, 0, 0) := ceB_eq (by decide +kernel)
theorem f_252_68 : fnd 252 68 = some (68, .iload_n 2, 1, 0, 0, 0, 0) := ceB_eq (by decide +kernel)
theorem f_252_69 : fnd 252 69 = some (69, .invokevirtual 234, 3, 192, 4, 10, 0) := ceB_eq (by decide +kernel)
theorem f_252_72 : fnd 252 72 = some (72, .aload_n 0, 1, 0, 0, 0, 0) := ceB_eq (by decide +kernel)
theorem f_252_73 : fnd 252 73 = some (73, .iload_n 1, 1, 0, 0, 0, 0) := ceB_eq (by decide +kernel)
theorem f_252_74 : fnd 252 74 = some (74, .iconst 5, 1, 0, 0, 0, 0) := ceB_eq (by decide +kernel)
theorem f_252_75 : fnd 252 75 = some (75, .iconst 2, 1, 0, 0, 0, 0) := ceB_eq (by decide +kernel)
theorem f_252_76 : fnd 252 76 = some (76, .iload 4, 2, 0, 0, 0, 0) := ceB_eq (by decide +kernel)
theorem f_252_78 : fnd 252 78 = some (78, .imul, 1, 0, 0, 0, 0) := ceB_eq (by decide +kernel)
theorem f_252_79 : fnd 252 79 = some (79, .iadd, 1, 0, 0, 0, 0) := ceB_eq (by decide +kernel)
theorem f_252_80 : fnd 252 80 = some (80, .iconst 1, 1, 0, 0, 0, 0) := ceB_eq (by decide +kernel)
theorem f_252_81 : fnd 252 81 = some (81, .iadd, 1, 0, 0, 0, 0) := ceB_eq (by decide +kernel)
theorem f_252_82 : fnd 252 82 = some (82, .iload_n 3, 1, 0, 0, 0, 0) := ceB_eq (by decide +kernel)
theorem f_252_83 : fnd 252 83 = some (83, .invokevirtual 234, 3, 192, 4, 10, 0) := ceB_eq (by decide +kernel)
theorem f_252_86 : fnd 252 86 = some (86, .aload_n 0, 1, 0, 0, 0, 0) := ceB_eq (by decide +kernel)
theorem f_252_87 : fnd 252 87 = some (87, .iload_n 1, 1, 0, 0, 0, 0) := ceB_eq (by decide +kernel)
theorem f_252_88 : fnd 252 88 = some (88, .iconst 4, 1, 0, 0, 0, 0) := ceB_eq (by decide +kernel)
theorem f_252_89 : fnd 252 89 = some (89, .iload 4, 2, 0, 0, 0, 0) := ceB_eq (by decide +kernel)
theorem f_252_91 : fnd 252 91 = some (91, .iconst 1, 1, 0, 0, 0, 0) := ceB_eq (by decide +kernel)
theorem f_252_92 : fnd 252 92 = some (92, .iadd, 1, 0, 0, 0, 0) := ceB_eq (by decide +kernel)
theorem f_252_93 : fnd 252 93 = some (93, .invokevirtual 234, 3, 192, 4, 10, 0) := ceB_eq (by decide +kernel)
theorem f_252_96 : fnd 252 96 = some (96, .return_, 1, 0, 0, 0, 0) := ceB_eq (by decide +kernel)
theorem rk_252 : rkm 252 = 4 := by decide +kernel
theorem ml_252 : (mth 252).2.1 = 6 := by decide +kernel
set_option maxRecDepth 100000 in
theorem T_Z_sees (k0 i0 x1 x2 x3 : Int) (σ : ST) (Q : Option AV → ST → Prop) (h :
  wpM m_Z_ofCore [.inr (.inr (40, k0, i0)), .inl x1, .inl 4] σ (asI fun r101 s101 =>
  ((0 : Int) ≤ 2 ∧ (2 : Int) < 4) ∧
  (((r101 ≠ (s101 43 0 0 2) : Prop) →
    wp m_Z_sees (60, [some (.inr (.inr (40, k0, i0))), some (.inl x1), some (.inl x2), some (.inl x3), some (.inl r101), none], [], s101) Q) ∧
  (¬ (r101 ≠ (s101 43 0 0 2)) →
    wp m_Z_sees (22, [some (.inr (.inr (40, k0, i0))), some (.inl x1), some (.inl x2), some (.inl x3), some (.inl r101), some (.inl 2)], [], s101) Q)))) :
  wpM m_Z_sees [.inr (.inr (40, k0, i0)), .inl x1, .inl x2, .inl x3] σ Q :=
 wpM_of ml_252 (L := [some (.inr (.inr (40, k0, i0))), some (.inl x1), some (.inl x2), some (.inl x3), none, none]) rfl
 (w_aload_n (p' := 1) f_252_0 rfl rfl
 (w_iload_n (p' := 2) f_252_1 rfl rfl
 (w_iconst (p' := 3) f_252_2 rfl
 (w_callV (p' := 6) f_252_3 rfl rfl rfl rfl rfl (r := []) rfl rfl (kI (.inl rk_208) fun r101 s101 h101 =>
 w_istore (p' := 8) f_252_6 (L' := [some (.inr (.inr (40, k0, i0))), some (.inl x1), some (.inl x2), some (.inl x3), some (.inl r101), none]) rfl rfl
 (w_iload (p' := 10) f_252_8 rfl rfl
 (w_aload_n (p' := 11) f_252_10 rfl rfl
 (w_getfield (p' := 14) f_252_11 rfl (x := .inr (.inr (43, 0, 0))) rfl rfl
 (w_iconst (p' := 15) f_252_14 rfl
 (w_iaload (p' := 16) f_252_15 rfl (n := 4) rfl h101.1 rfl
 (w_icmp (p' := 60) (q' := 19) f_252_16 rfl rfl
 (fun c102 => (h101.2.1 c102))
 (fun c102 => w_iconst (p' := 20) f_252_19 rfl
 (w_istore (p' := 22) f_252_20 (L' := [some (.inr (.inr (40, k0, i0))), some (.inl x1), some (.inl x2), some (.inl x3), some (.inl r101), some (.inl 2)]) rfl rfl
 ((h101.2.2 c102))))))))))) h))))
set_option maxRecDepth 100000 in
theorem T_Z_sees_22 (k0 i0 x1 x2 x3 x4 x5 : Int) (σ : ST) (Q : Option AV → ST → Prop) (h :
  ((((wr (2 * x4)) ≤ x5 : Prop) →
    wp m_Z_sees (60, [some (.inr (.inr (40, k0, i0))), some (.inl x1), some (.inl x2), some (.inl x3), some (.inl (wr (x4 + (-1)))), some (.inl x5)], [], σ) Q) ∧
  (¬ ((wr (2 * x4)) ≤ x5) →
    wpM m_Z_ofCore [.inr (.inr (40, k0, i0)), .inl x1, .inl (wr (5 + x5))] σ (asI fun r101 s101 =>
    wpM m_Z_setCore [.inr (.inr (40, k0, i0)), .inl x1, .inl (wr ((wr (5 + x5)) - 2)), .inl r101] s101 (asV fun s102 =>
    wp m_Z_sees (22, [some (.inr (.inr (40, k0, i0))), some (.inl x1), some (.inl x2), some (.inl x3), some (.inl x4), some (.inl (wr (x5 + 1)))], [], s102) Q))))) :
  wp m_Z_sees (22, [some (.inr (.inr (40, k0, i0))), some (.inl x1), some (.inl x2), some (.inl x3), some (.inl x4), some (.inl x5)], [], σ) Q :=
 w_iload (p' := 24) f_252_22 rfl rfl
 (w_iconst (p' := 25) f_252_24 rfl
 (w_iload (p' := 27) f_252_25 rfl rfl
 (w_imul (p' := 28) f_252_27 rfl
 (w_icmp (p' := 57) (q' := 31) f_252_28 rfl rfl
 (fun c103 => w_iinc (p' := 60) f_252_57 rfl (L' := [some (.inr (.inr (40, k0, i0))), some (.inl x1), some (.inl x2), some (.inl x3), some (.inl (wr (x4 + (-1)))), some (.inl x5)]) rfl rfl
 ((h.1 c103)))
 (fun c103 => w_aload_n (p' := 32) f_252_31 rfl rfl
 (w_iload_n (p' := 33) f_252_32 rfl rfl
 (w_iconst (p' := 34) f_252_33 rfl
 (w_iload (p' := 36) f_252_34 rfl rfl
 (w_iadd (p' := 37) f_252_36 rfl
 (w_iconst (p' := 38) f_252_37 rfl
 (w_isub (p' := 39) f_252_38 rfl
 (w_aload_n (p' := 40) f_252_39 rfl rfl
 (w_iload_n (p' := 41) f_252_40 rfl rfl
 (w_iconst (p' := 42) f_252_41 rfl
 (w_iload (p' := 44) f_252_42 rfl rfl
 (w_iadd (p' := 45) f_252_44 rfl
 (w_callV (p' := 48) f_252_45 rfl rfl rfl rfl rfl (r := [.inl (wr ((wr (5 + x5)) - 2)), .inl x1, .inr (.inr (40, k0, i0))]) rfl rfl (kI (.inl rk_208) fun r101 s101 h101 =>
 w_callV (p' := 51) f_252_48 rfl rfl rfl rfl rfl (r := []) rfl rfl (kV rk_192 fun s102 h102 =>
 w_iinc (p' := 54) f_252_51 rfl (L' := [some (.inr (.inr (40, k0, i0))), some (.inl x1), some (.inl x2), some (.inl x3), some (.inl x4), some (.inl (wr (x5 + 1)))]) rfl rfl
 (w_goto (p' := 22) f_252_54 rfl
 (h102))) h101) (h.2 c103))))))))))))))))))
set_option maxRecDepth 100000 in
theorem T_Z_sees_60 (k0 i0 x1 x2 x3 x4 : Int) (o5 : Option AV) (σ : ST) (Q : Option AV → ST → Prop) (h :
  wpM m_Z_setCore [.inr (.inr (40, k0, i0)), .inl x1, .inl (wr (5 + (wr (2 * x4)))), .inl x2] σ (asV fun s101 =>
  wpM m_Z_setCore [.inr (.inr (40, k0, i0)), .inl x1, .inl (wr ((wr (5 + (wr (2 * x4)))) + 1)), .inl x3] s101 (asV fun s102 =>
  wpM m_Z_setCore [.inr (.inr (40, k0, i0)), .inl x1, .inl 4, .inl (wr (x4 + 1))] s102 (asV fun s103 =>
  Q none s103)))) :
  wp m_Z_sees (60, [some (.inr (.inr (40, k0, i0))), some (.inl x1), some (.inl x2), some (.inl x3), some (.inl x4), o5], [], σ) Q :=
 w_aload_n (p' := 61) f_252_60 rfl rfl
 (w_iload_n (p' := 62) f_252_61 rfl rfl
 (w_iconst (p' := 63) f_252_62 rfl
 (w_iconst (p' := 64) f_252_63 rfl
 (w_iload (p' := 66) f_252_64 rfl rfl
 (w_imul (p' := 67) f_252_66 rfl
 (w_iadd (p' := 68) f_252_67 rfl
 (w_iload_n (p' := 69) f_252_68 rfl rfl
 (w_callV (p' := 72) f_252_69 rfl rfl rfl rfl rfl (r := []) rfl rfl (kV rk_192 fun s101 h101 =>
 w_aload_n (p' := 73) f_252_72 rfl rfl
 (w_iload_n (p' := 74) f_252_73 rfl rfl
 (w_iconst (p' := 75) f_252_74 rfl
 (w_iconst (p' := 76) f_252_75 rfl
 (w_iload (p' := 78) f_252_76 rfl rfl
 (w_imul (p' := 79) f_252_78 rfl
 (w_iadd (p' := 80) f_252_79 rfl
 (w_iconst (p' := 81) f_252_80 rfl
 (w_iadd (p' := 82) f_252_81 rfl
 (w_iload_n (p' := 83) f_252_82 rfl rfl
 (w_callV (p' := 86) f_252_83 rfl rfl rfl rfl rfl (r := []) rfl rfl (kV rk_192 fun s102 h102 =>
 w_aload_n (p' := 87) f_252_86 rfl rfl
 (w_iload_n (p' := 88) f_252_87 rfl rfl
 (w_iconst (p' := 89) f_252_88 rfl
 (w_iload (p' := 91) f_252_89 rfl rfl
 (w_iconst (p' := 92) f_252_91 rfl
 (w_iadd (p' := 93) f_252_92 rfl
 (w_callV (p' := 96) f_252_93 rfl rfl rfl rfl rfl (r := []) rfl rfl (kV rk_192 fun s103 h103 =>
 w_vret f_252_96 rk_252 h103) h102))))))) h101))))))))))) h))))))))
/-! ClosedRoomsModel.touchNow(III)I -/
theorem f_253_0 : fnd 253 0 = some (0, .aload_n 0, 1, 0, 0, 0, 0) := ceB_eq (by decide +kernel)
theorem f_253_1 : fnd 253 1 = some (1, .iload_n 1, 1, 0, 0, 0, 0) := ceB_eq (by decide +kernel)
theorem f_253_2 : fnd 253 2 = some (2, .iload_n 2, 1, 0, 0, 0, 0) := ceB_eq (by decide +kernel)
theorem f_253_3 : fnd 253 3 = some (3, .invokevirtual 273, 3, 216, 3, 10, 0) := ceB_eq (by decide +kernel)
theorem f_253_6 : fnd 253 6 = some (6, .istore 4, 2, 0, 0, 0, 0) := ceB_eq (by decide +kernel)
theorem f_253_8 : fnd 253 8 = some (8, .aload_n 0, 1, 0, 0, 0, 0) := ceB_eq (by decide +kernel)
theorem f_253_9 : fnd 253 9 = some (9, .iload_n 1, 1, 0, 0, 0, 0) := ceB_eq (by decide +kernel)
theorem f_253_10 : fnd 253 10 = some (10, .iload_n 2, 1, 0, 0, 0, 0) := ceB_eq (by decide +kernel)
theorem f_253_11 : fnd 253 11 = some (11, .invokevirtual 270, 3, 215, 3, 10, 0) := ceB_eq (by decide +kernel)
theorem f_253_14 : fnd 253 14 = some (14, .iconst (-1), 1, 0, 0, 0, 0) := ceB_eq (by decide +kernel)
theorem f_253_15 : fnd 253 15 = some (15, .if_icmp .ne 11, 3, 0, 0, 0, 0) := ceB_eq (by decide +kernel)
theorem f_253_18 : fnd 253 18 = some (18, .aload_n 0, 1, 0, 0, 0, 0) := ceB_eq (by decide +kernel)
theorem f_253_19 : fnd 253 19 = some (19, .iload_n 1, 1, 0, 0, 0, 0) := ceB_eq (by decide +kernel)
theorem f_253_20 : fnd 253 20 = some (20, .iload_n 2, 1, 0, 0, 0, 0) := ceB_eq (by decide +kernel)
theorem f_253_21 : fnd 253 21 = some (21, .iload 4, 2, 0, 0, 0, 0) := ceB_eq (by decide +kernel)
theorem f_253_23 : fnd 253 23 = some (23, .invokevirtual 370, 3, 252, 4, 10, 0) := ceB_eq (by decide +kernel)
theorem f_253_26 : fnd 253 26 = some (26, .aload_n 0, 1, 0, 0, 0, 0) := ceB_eq (by decide +kernel)
theorem f_253_27 : fnd 253 27 = some (27, .iload_n 1, 1, 0, 0, 0, 0) := ceB_eq (by decide +kernel)
theorem f_253_28 : fnd 253 28 = some (28, .iconst 0, 1, 0, 0, 0, 0) := ceB_eq (by decide +kernel)
theorem f_253_29 : fnd 253 29 = some (29, .invokevirtual 212, 3, 208, 3, 10, 0) := ceB_eq (by decide +kernel)
theorem f_253_32 : fnd 253 32 = some (32, .istore 5, 2, 0, 0, 0, 0) := ceB_eq (by decide +kernel)
theorem f_253_34 : fnd 253 34 = some (34, .iload_n 3, 1, 0, 0, 0, 0) := ceB_eq (by decide +kernel)
theorem f_253_35 : fnd 253 35 = some (35, .iconst 1, 1, 0, 0, 0, 0) := ceB_eq (by decide +kernel)
theorem f_253_36 : fnd 253 36 = some (36, .if_icmp .ne 15, 3, 0, 0, 0, 0) := ceB_eq (by decide +kernel)
theorem f_253_39 : fnd 253 39 = some (39, .aload_n 0, 1, 0, 0, 0, 0) := ceB_eq (by decide +kernel)
theorem f_253_40 : fnd 253 40 = some (40, .iload 4, 2, 0, 0, 0, 0) := ceB_eq (by decide +kernel)
theorem f_253_42 : fnd 253 42 = some (42, .iconst 4, 1, 0, 0, 0, 0) := ceB_eq (by decide +kernel)
theorem f_253_43 : fnd 253 43 = some (43, .iload 5, 2, 0, 0, 0, 0) := ceB_eq (by decide +kernel)
theorem f_253_45 : fnd 253 45 = some (45, .invokevirtual 218, 3, 190, 4, 10, 0) := ceB_eq (by decide +kernel)
theorem f_253_48 : fnd 253 48 = some (48, .goto 40, 3, 0, 0, 0, 0) := ceB_eq (by decide +kernel)
theorem f_253_51 : fnd 253 51 = some (51, .aload_n 0, 1, 0, 0, 0, 0) := ceB_eq (by decide +kernel)
theorem f_253_52 : fnd 253 52 = some (52, .iload_n 1, 1, 0, 0, 0, 0) := ceB_eq (by decide +kernel)
theorem f_253_53 : fnd 253 53 = some (53, .iconst 0, 1, 0, 0, 0, 0) := ceB_eq (by decide +kernel)
theorem f_253_54 : fnd 253 54 = some (54, .iload_n 3, 1, 0, 0, 0, 0) := ceB_eq (by decide +kernel)
theorem f_253_55 : fnd 253 55 = some (55, .ifCond .ne 13, 3, 0, 0, 0, 0) := ceB_eq (by decide +kernel)
theorem f_253_58 : fnd 253 58 = some (58, .aload_n 0, 1, 0, 0, 0, 0) := ceB_eq (by decide +kernel)
theorem f_253_59 : fnd 253 59 = some (59, .iload 4, 2, 0, 0, 0, 0) := ceB_eq (by decide +kernel)
theorem f_253_61 : fnd 253 61 = some (61, .iconst 4, 1, 0, 0, 0, 0) := ceB_eq (by decide +kernel)
theorem f_253_62 : fnd 253 62 = some (62, .invokevirtual 206, 3, 196, 3, 10, 0) := ceB_eq (by decide +kernel)
theorem f_253_65 : fnd 253 65 = some (65, .goto 20, 3, 0, 0, 0, 0) := ceB_eq (by decide +kernel)
theorem f_253_68 : fnd 253 68 = some (68, .bipush 7, 2, 0, 0, 0, 0) := ceB_eq (by decide +kernel)
theorem f_253_70 : fnd 253 70 = some (70, .iload 5, 2, 0, 0, 0, 0) := ceB_eq (by decide +kernel)
theorem f_253_72 : fnd 253 72 = some (72, .imul, 1, 0, 0, 0, 0) := ceB_eq (by decide +kernel)
theorem f_253_73 : fnd 253 73 = some (73, .aload_n 0, 1, 0, 0, 0, 0) := ceB_eq (by decide +kernel)
theorem f_253_74 : fnd 253 74 = some (74, .iload 4, 2, 0, 0, 0, 0) := ceB_eq (by decide +kernel)
theorem f_253_76 : fnd 253 76 = some (76, .iconst 4, 1, 0, 0, 0, 0) := ceB_eq (by decide +kernel)
theorem f_253_77 : fnd 253 77 = some (77, .invokevirtual 206, 3, 196, 3, 10, 0) := ceB_eq (by decide +kernel)
theorem f_253_80 : fnd 253 80 = some (80, .iadd, 1, 0, 0, 0, 0) := ceB_eq (by decide +kernel)
theorem f_253_81 : fnd 253 81 = some (81, .sipush 1000, 3, 0, 0, 0, 0) := ceB_eq (by decide +kernel)
theorem f_253_84 : fnd 253 84 = some (84, .irem, 1, 0, 0, 0, 0) := ceB_eq (by decide +kernel)
theorem f_253_85 : fnd 253 85 = some (85, .invokevirtual 234, 3, 192, 4, 10, 0) := ceB_eq (by decide +kernel)
theorem f_253_88 : fnd 253 88 = some (88, .aload_n 0, 1, 0, 0, 0, 0) := ceB_eq (by decide +kernel)
theorem f_253_89 : fnd 253 89 = some (89, .iload_n 1, 1, 0, 0, 0, 0) := ceB_eq (by decide +kernel)
theorem f_253_90 : fnd 253 90 = some (90, .iconst 0, 1, 0, 0, 0, 0) := ceB_eq (by decide +kernel)
theorem f_253_91 : fnd 253 91 = some (91, .invokevirtual 212, 3, 208, 3, 10, 0) := ceB_eq (by decide +kernel)
theorem f_253_94 : fnd 253 94 = some (94, .ireturn, 1, 0, 0, 0, 0) := ceB_eq (by decide +kernel)
theorem rk_253 : rkm 253 = 0 := by decide +kernel
theorem ml_253 : (mth 253).2.1 = 6 := by decide +kernel
set_option maxRecDepth 100000 in
theorem T_Z_touchNow (k0 i0 x1 x2 x3 : Int) (σ : ST) (Q : Option AV → ST → Prop) (h :
  wpM m_Z_touched [.inr (.inr (40, k0, i0)), .inl x1, .inl x2] σ (asI fun r101 s101 =>
  wpM m_Z_sightOf [.inr (.inr (40, k0, i0)), .inl x1, .inl x2] s101 (asI fun r102 s102 =>
  (((r102 ≠ (-1) : Prop) →
    wp m_Z_touchNow (26, [some (.inr (.inr (40, k0, i0))), some (.inl x1), some (.inl x2), some (.inl x3), some (.inl r101), none], [], s102) Q) ∧
  (¬ (r102 ≠ (-1)) →
    wpM m_Z_sees [.inr (.inr (40, k0, i0)), .inl x1, .inl x2, .inl r101] s102 (asV fun s103 =>
    wp m_Z_touchNow (26, [some (.inr (.inr (40, k0, i0))), some (.inl x1), some (.inl x2), some (.inl x3), some (.inl r101), none], [], s103) Q)))))) :
  wpM m_Z_touchNow [.inr (.inr (40, k0, i0)), .inl x1, .inl x2, .inl x3] σ Q :=
 wpM_of ml_253 (L := [some (.inr (.inr (40, k0, i0))), some (.inl x1), some (.inl x2), some (.inl x3), none, none]) rfl
 (w_aload_n (p' := 1) f_253_0 rfl rfl
 (w_iload_n (p' := 2) f_253_1 rfl rfl
 (w_iload_n (p' := 3) f_253_2 rfl rfl
 (w_callV (p' := 6) f_253_3 rfl rfl rfl rfl rfl (r := []) rfl rfl (kI (.inl rk_216) fun r101 s101 h101 =>
 w_istore (p' := 8) f_253_6 (L' := [some (.inr (.inr (40, k0, i0))), some (.inl x1), some (.inl x2), some (.inl x3), some (.inl r101), none]) rfl rfl
 (w_aload_n (p' := 9) f_253_8 rfl rfl
 (w_iload_n (p' := 10) f_253_9 rfl rfl
 (w_iload_n (p' := 11) f_253_10 rfl rfl
 (w_callV (p' := 14) f_253_11 rfl rfl rfl rfl rfl (r := []) rfl rfl (kI (.inl rk_215) fun r102 s102 h102 =>
 w_iconst (p' := 15) f_253_14 rfl
 (w_icmp (p' := 26) (q' := 18) f_253_15 rfl rfl
 (fun c104 => (h102.1 c104))
 (fun c104 => w_aload_n (p' := 19) f_253_18 rfl rfl
 (w_iload_n (p' := 20) f_253_19 rfl rfl
 (w_iload_n (p' := 21) f_253_20 rfl rfl
 (w_iload (p' := 23) f_253_21 rfl rfl
 (w_callV (p' := 26) f_253_23 rfl rfl rfl rfl rfl (r := []) rfl rfl (kV rk_252 fun s103 h103 =>
 h103) (h102.2 c104)))))))) h101))))) h))))
set_option maxRecDepth 100000 in
theorem T_Z_touchNow_26 (k0 i0 x1 x3 x4 : Int) (o2 o5 : Option AV) (σ : ST) (Q : Option AV → ST → Prop) (h :
  wpM m_Z_ofCore [.inr (.inr (40, k0, i0)), .inl x1, .inl 0] σ (asI fun r101 s101 =>
  (((x3 ≠ 1 : Prop) →
    (((x3 ≠ 0 : Prop) →
      wpM m_Z_ofPage [.inr (.inr (40, k0, i0)), .inl x4, .inl 4] s101 (asI fun r102 s102 =>
      (1000 : Int) ≠ 0 ∧
      wpM m_Z_setCore [.inr (.inr (40, k0, i0)), .inl x1, .inl 0, .inl (i_rem (wr ((wr (7 * r101)) + r102)) 1000)] s102 (asV fun s103 =>
      wpM m_Z_ofCore [.inr (.inr (40, k0, i0)), .inl x1, .inl 0] s103 (asI fun r104 s104 =>
      Q (some (.inl r104)) s104)))) ∧
    (¬ (x3 ≠ 0) →
      wpM m_Z_ofPage [.inr (.inr (40, k0, i0)), .inl x4, .inl 4] s101 (asI fun r105 s105 =>
      wpM m_Z_setCore [.inr (.inr (40, k0, i0)), .inl x1, .inl 0, .inl r105] s105 (asV fun s106 =>
      wpM m_Z_ofCore [.inr (.inr (40, k0, i0)), .inl x1, .inl 0] s106 (asI fun r107 s107 =>
      Q (some (.inl r107)) s107)))))) ∧
  (¬ (x3 ≠ 1) →
    wpM m_Z_setPage [.inr (.inr (40, k0, i0)), .inl x4, .inl 4, .inl r101] s101 (asV fun s109 =>
    wpM m_Z_ofCore [.inr (.inr (40, k0, i0)), .inl x1, .inl 0] s109 (asI fun r110 s110 =>
    Q (some (.inl r110)) s110)))))) :
  wp m_Z_touchNow (26, [some (.inr (.inr (40, k0, i0))), some (.inl x1), o2, some (.inl x3), some (.inl x4), o5], [], σ) Q :=
 w_aload_n (p' := 27) f_253_26 rfl rfl
 (w_iload_n (p' := 28) f_253_27 rfl rfl
 (w_iconst (p' := 29) f_253_28 rfl
 (w_callV (p' := 32) f_253_29 rfl rfl rfl rfl rfl (r := []) rfl rfl (kI (.inl rk_208) fun r101 s101 h101 =>
 w_istore (p' := 34) f_253_32 (L' := [some (.inr (.inr (40, k0, i0))), some (.inl x1), o2, some (.inl x3), some (.inl x4), some (.inl r101)]) rfl rfl
 (w_iload_n (p' := 35) f_253_34 rfl rfl
 (w_iconst (p' := 36) f_253_35 rfl
 (w_icmp (p' := 51) (q' := 39) f_253_36 rfl rfl
 (fun c111 => w_aload_n (p' := 52) f_253_51 rfl rfl
 (w_iload_n (p' := 53) f_253_52 rfl rfl
 (w_iconst (p' := 54) f_253_53 rfl
 (w_iload_n (p' := 55) f_253_54 rfl rfl
 (w_if (p' := 68) (q' := 58) f_253_55 rfl rfl
 (fun c108 => w_bipush (p' := 70) f_253_68 rfl
 (w_iload (p' := 72) f_253_70 rfl rfl
 (w_imul (p' := 73) f_253_72 rfl
 (w_aload_n (p' := 74) f_253_73 rfl rfl
 (w_iload (p' := 76) f_253_74 rfl rfl
 (w_iconst (p' := 77) f_253_76 rfl
 (w_callV (p' := 80) f_253_77 rfl rfl rfl rfl rfl (r := [.inl (wr (7 * r101)), .inl 0, .inl x1, .inr (.inr (40, k0, i0))]) rfl rfl (kI (.inl rk_196) fun r102 s102 h102 =>
 w_iadd (p' := 81) f_253_80 rfl
 (w_sipush (p' := 84) f_253_81 rfl
 (w_irem (p' := 85) f_253_84 h102.1 rfl
 (w_callV (p' := 88) f_253_85 rfl rfl rfl rfl rfl (r := []) rfl rfl (kV rk_192 fun s103 h103 =>
 w_aload_n (p' := 89) f_253_88 rfl rfl
 (w_iload_n (p' := 90) f_253_89 rfl rfl
 (w_iconst (p' := 91) f_253_90 rfl
 (w_callV (p' := 94) f_253_91 rfl rfl rfl rfl rfl (r := []) rfl rfl (kI (.inl rk_208) fun r104 s104 h104 =>
 w_iret f_253_94 rk_253 h104) h103)))) h102.2)))) ((h101.1 c111).1 c108))))))))
 (fun c108 => w_aload_n (p' := 59) f_253_58 rfl rfl
 (w_iload (p' := 61) f_253_59 rfl rfl
 (w_iconst (p' := 62) f_253_61 rfl
 (w_callV (p' := 65) f_253_62 rfl rfl rfl rfl rfl (r := [.inl 0, .inl x1, .inr (.inr (40, k0, i0))]) rfl rfl (kI (.inl rk_196) fun r105 s105 h105 =>
 w_goto (p' := 85) f_253_65 rfl
 (w_callV (p' := 88) f_253_85 rfl rfl rfl rfl rfl (r := []) rfl rfl (kV rk_192 fun s106 h106 =>
 w_aload_n (p' := 89) f_253_88 rfl rfl
 (w_iload_n (p' := 90) f_253_89 rfl rfl
 (w_iconst (p' := 91) f_253_90 rfl
 (w_callV (p' := 94) f_253_91 rfl rfl rfl rfl rfl (r := []) rfl rfl (kI (.inl rk_208) fun r107 s107 h107 =>
 w_iret f_253_94 rk_253 h107) h106)))) h105)) ((h101.1 c111).2 c108))))))))))
 (fun c111 => w_aload_n (p' := 40) f_253_39 rfl rfl
 (w_iload (p' := 42) f_253_40 rfl rfl
 (w_iconst (p' := 43) f_253_42 rfl
 (w_iload (p' := 45) f_253_43 rfl rfl
 (w_callV (p' := 48) f_253_45 rfl rfl rfl rfl rfl (r := []) rfl rfl (kV rk_190 fun s109 h109 =>
 w_goto (p' := 88) f_253_48 rfl
 (w_aload_n (p' := 89) f_253_88 rfl rfl
 (w_iload_n (p' := 90) f_253_89 rfl rfl
 (w_iconst (p' := 91) f_253_90 rfl
 (w_callV (p' := 94) f_253_91 rfl rfl rfl rfl rfl (r := []) rfl rfl (kI (.inl rk_208) fun r110 s110 h110 =>
 w_iret f_253_94 rk_253 h110) h109))))) (h101.2 c111)))))))))) h)))
/-! ClosedRoomsModel.blockNow(I)I -/
theorem f_254_0 : fnd 254 0 = some (0, .aload_n 0, 1, 0, 0, 0, 0) := ceB_eq (by decide +kernel)
theorem f_254_1 : fnd 254 1 = some (1, .iload_n 1, 1, 0, 0, 0, 0) := ceB_eq (by decide +kernel)
theorem f_254_2 : fnd 254 2 = some (2, .iconst 5, 1, 0, 0, 0, 0) := ceB_eq (by decide +kernel)
theorem f_254_3 : fnd 254 3 = some (3, .aload_n 0, 1, 0, 0, 0, 0) := ceB_eq (by decide +kernel)
theorem f_254_4 : fnd 254 4 = some (4, .aload_n 0, 1, 0, 0, 0, 0) := ceB_eq (by decide +kernel)
theorem f_254_5 : fnd 254 5 = some (5, .iload_n 1, 1, 0, 0, 0, 0) := ceB_eq (by decide +kernel)
theorem f_254_6 : fnd 254 6 = some (6, .iconst 1, 1, 0, 0, 0, 0) := ceB_eq (by decide +kernel)
theorem f_254_7 : fnd 254 7 = some (7, .invokevirtual 206, 3, 196, 3, 10, 0) := ceB_eq (by decide +kernel)
theorem f_254_10 : fnd 254 10 = some (10, .iconst 5, 1, 0, 0, 0, 0) := ceB_eq (by decide +kernel)
theorem f_254_11 : fnd 254 11 = some (11, .invokevirtual 209, 3, 198, 3, 10, 0) := ceB_eq (by decide +kernel)
theorem f_254_14 : fnd 254 14 = some (14, .invokevirtual 218, 3, 190, 4, 10, 0) := ceB_eq (by decide +kernel)
theorem f_254_17 : fnd 254 17 = some (17, .aload_n 0, 1, 0, 0, 0, 0) := ceB_eq (by decide +kernel)
theorem f_254_18 : fnd 254 18 = some (18, .iload_n 1, 1, 0, 0, 0, 0) := ceB_eq (by decide +kernel)
theorem f_254_19 : fnd 254 19 = some (19, .iconst 5, 1, 0, 0, 0, 0) := ceB_eq (by decide +kernel)
theorem f_254_20 : fnd 254 20 = some (20, .invokevirtual 206, 3, 196, 3, 10, 0) := ceB_eq (by decide +kernel)
theorem f_254_23 : fnd 254 23 = some (23, .ireturn, 1, 0, 0, 0, 0) := ceB_eq (by decide +kernel)
theorem rk_254 : rkm 254 = 0 := by decide +kernel
theorem ml_254 : (mth 254).2.1 = 2 := by decide +kernel
set_option maxRecDepth 100000 in
theorem T_Z_blockNow (k0 i0 x1 : Int) (σ : ST) (Q : Option AV → ST → Prop) (h :
  wpM m_Z_ofPage [.inr (.inr (40, k0, i0)), .inl x1, .inl 1] σ (asI fun r101 s101 =>
  wpM m_Z_ofRoom [.inr (.inr (40, k0, i0)), .inl r101, .inl 5] s101 (asI fun r102 s102 =>
  wpM m_Z_setPage [.inr (.inr (40, k0, i0)), .inl x1, .inl 5, .inl r102] s102 (asV fun s103 =>
  wpM m_Z_ofPage [.inr (.inr (40, k0, i0)), .inl x1, .inl 5] s103 (asI fun r104 s104 =>
  Q (some (.inl r104)) s104))))) :
  wpM m_Z_blockNow [.inr (.inr (40, k0, i0)), .inl x1] σ Q :=
 wpM_of ml_254 (L := [some (.inr (.inr (40, k0, i0))), some (.inl x1)]) rfl
 (w_aload_n (p' := 1) f_254_0 rfl rfl
 (w_iload_n (p' := 2) f_254_1 rfl rfl
 (w_iconst (p' := 3) f_254_2 rfl
 (w_aload_n (p' := 4) f_254_3 rfl rfl
 (w_aload_n (p' := 5) f_254_4 rfl rfl
 (w_iload_n (p' := 6) f_254_5 rfl rfl
 (w_iconst (p' := 7) f_254_6 rfl
 (w_callV (p' := 10) f_254_7 rfl rfl rfl rfl rfl (r := [.inr (.inr (40, k0, i0)), .inl 5, .inl x1, .inr (.inr (40, k0, i0))]) rfl rfl (kI (.inl rk_196) fun r101 s101 h101 =>
 w_iconst (p' := 11) f_254_10 rfl
 (w_callV (p' := 14) f_254_11 rfl rfl rfl rfl rfl (r := [.inl 5, .inl x1, .inr (.inr (40, k0, i0))]) rfl rfl (kI (.inl rk_198) fun r102 s102 h102 =>
 w_callV (p' := 17) f_254_14 rfl rfl rfl rfl rfl (r := []) rfl rfl (kV rk_190 fun s103 h103 =>
 w_aload_n (p' := 18) f_254_17 rfl rfl
 (w_iload_n (p' := 19) f_254_18 rfl rfl
 (w_iconst (p' := 20) f_254_19 rfl
 (w_callV (p' := 23) f_254_20 rfl rfl rfl rfl rfl (r := []) rfl rfl (kI (.inl rk_196) fun r104 s104 h104 =>
 w_iret f_254_23 rk_254 h104) h103)))) h102) h101)) h))))))))
/-! ClosedRoomsModel.trackNow(I)I -/
theorem f_255_0 : fnd 255 0 = some (0, .aload_n 0, 1, 0, 0, 0, 0) := ceB_eq (by decide +kernel)
theorem f_255_1 : fnd 255 1 = some (1, .iload_n 1, 1, 0, 0, 0, 0) := ceB_eq (by decide +kernel)
theorem f_255_2 : fnd 255 2 = some (2, .iconst 5, 1, 0, 0, 0, 0) := ceB_eq (by decide +kernel)
theorem f_255_3 : fnd 255 3 = some (3, .aload_n 0, 1, 0, 0, 0, 0) := ceB_eq (by decide +kernel)
theorem f_255_4 : fnd 255 4 = some (4, .iload_n 1, 1, 0, 0, 0, 0) := ceB_eq (by decide +kernel)
theorem f_255_5 : fnd 255 5 = some (5, .iconst 5, 1, 0, 0, 0, 0) := ceB_eq (by decide +kernel)
theorem f_255_6 : fnd 255 6 = some (6, .invokevirtual 209, 3, 198, 3, 10, 0) := ceB_eq (by decide +kernel)
theorem f_255_9 : fnd 255 9 = some (9, .iconst 1, 1, 0, 0, 0, 0) := ceB_eq (by decide +kernel)
theorem f_255_10 : fnd 255 10 = some (10, .iadd, 1, 0, 0, 0, 0) := ceB_eq (by decide +kernel)
theorem f_255_11 : fnd 255 11 = some (11, .invokevirtual 361, 3, 241, 4, 10, 0) := ceB_eq (by decide +kernel)
theorem f_255_14 : fnd 255 14 = some (14, .aload_n 0, 1, 0, 0, 0, 0) := ceB_eq (by decide +kernel)
theorem f_255_15 : fnd 255 15 = some (15, .iload_n 1, 1, 0, 0, 0, 0) := ceB_eq (by decide +kernel)
theorem f_255_16 : fnd 255 16 = some (16, .iconst 5, 1, 0, 0, 0, 0) := ceB_eq (by decide +kernel)
theorem f_255_17 : fnd 255 17 = some (17, .invokevirtual 209, 3, 198, 3, 10, 0) := ceB_eq (by decide +kernel)
theorem f_255_20 : fnd 255 20 = some (20, .ireturn, 1, 0, 0, 0, 0) := ceB_eq (by decide +kernel)
theorem rk_255 : rkm 255 = 0 := by decide +kernel
theorem ml_255 : (mth 255).2.1 = 2 := by decide +kernel
set_option maxRecDepth 100000 in
theorem T_Z_trackNow (k0 i0 x1 : Int) (σ : ST) (Q : Option AV → ST → Prop) (h :
  wpM m_Z_ofRoom [.inr (.inr (40, k0, i0)), .inl x1, .inl 5] σ (asI fun r101 s101 =>
  wpM m_Z_setRoom [.inr (.inr (40, k0, i0)), .inl x1, .inl 5, .inl (wr (r101 + 1))] s101 (asV fun s102 =>
  wpM m_Z_ofRoom [.inr (.inr (40, k0, i0)), .inl x1, .inl 5] s102 (asI fun r103 s103 =>
  Q (some (.inl r103)) s103)))) :
  wpM m_Z_trackNow [.inr (.inr (40, k0, i0)), .inl x1] σ Q :=
 wpM_of ml_255 (L := [some (.inr (.inr (40, k0, i0))), some (.inl x1)]) rfl
 (w_aload_n (p' := 1) f_255_0 rfl rfl
 (w_iload_n (p' := 2) f_255_1 rfl rfl
 (w_iconst (p' := 3) f_255_2 rfl
 (w_aload_n (p' := 4) f_255_3 rfl rfl
 (w_iload_n (p' := 5) f_255_4 rfl rfl
 (w_iconst (p' := 6) f_255_5 rfl
 (w_callV (p' := 9) f_255_6 rfl rfl rfl rfl rfl (r := [.inl 5, .inl x1, .inr (.inr (40, k0, i0))]) rfl rfl (kI (.inl rk_198) fun r101 s101 h101 =>
 w_iconst (p' := 10) f_255_9 rfl
 (w_iadd (p' := 11) f_255_10 rfl
 (w_callV (p' := 14) f_255_11 rfl rfl rfl rfl rfl (r := []) rfl rfl (kV rk_241 fun s102 h102 =>
 w_aload_n (p' := 15) f_255_14 rfl rfl
 (w_iload_n (p' := 16) f_255_15 rfl rfl
 (w_iconst (p' := 17) f_255_16 rfl
 (w_callV (p' := 20) f_255_17 rfl rfl rfl rfl rfl (r := []) rfl rfl (kI (.inl rk_198) fun r103 s103 h103 =>
 w_iret f_255_20 rk_255 h103) h102)))) h101))) h)))))))
/-! ClosedRoomsModel.setCopy(III)V -/
theorem f_256_0 : fnd 256 0 = some (0, .aload_n 0, 1, 0, 0, 0, 0) := ceB_eq (by decide +kernel)
theorem f_256_1 : fnd 256 1 = some (1, .getfield 25, 3, 10, 15, 15, 0) := ceB_eq (by decide +kernel)
theorem f_256_4 : fnd 256 4 = some (4, .sipush 235, 3, 0, 0, 0, 0) := ceB_eq (by decide +kernel)
theorem f_256_7 : fnd 256 7 = some (7, .bipush 9, 2, 0, 0, 0, 0) := ceB_eq (by decide +kernel)
theorem f_256_9 : fnd 256 9 = some (9, .iload_n 1, 1, 0, 0, 0, 0) := ceB_eq (by decide +kernel)
theorem f_256_10 : fnd 256 10 = some (10, .imul, 1, 0, 0, 0, 0) := ceB_eq (by decide +kernel)
theorem f_256_11 : fnd 256 11 = some (11, .iadd, 1, 0, 0, 0, 0) := ceB_eq (by decide +kernel)
theorem f_256_12 : fnd 256 12 = some (12, .iload_n 2, 1, 0, 0, 0, 0) := ceB_eq (by decide +kernel)
theorem f_256_13 : fnd 256 13 = some (13, .iadd, 1, 0, 0, 0, 0) := ceB_eq (by decide +kernel)
theorem f_256_14 : fnd 256 14 = some (14, .iload_n 3, 1, 0, 0, 0, 0) := ceB_eq (by decide +kernel)
theorem f_256_15 : fnd 256 15 = some (15, .iastore, 1, 0, 0, 0, 0) := ceB_eq (by decide +kernel)
theorem f_256_16 : fnd 256 16 = some (16, .return_, 1, 0, 0, 0, 0) := ceB_eq (by decide +kernel)
theorem rk_256 : rkm 256 = 4 := by decide +kernel
theorem ml_256 : (mth 256).2.1 = 4 := by decide +kernel
set_option maxRecDepth 100000 in
theorem T_Z_setCopy (k0 i0 x1 x2 x3 : Int) (σ : ST) (Q : Option AV → ST → Prop) (h :
  ((0 : Int) ≤ (wr ((wr (235 + (wr (9 * x1)))) + x2)) ∧ ((wr ((wr (235 + (wr (9 * x1)))) + x2)) : Int) < 526) ∧
  Q none (up σ 46 0 0 (wr ((wr (235 + (wr (9 * x1)))) + x2)) x3)) :
  wpM m_Z_setCopy [.inr (.inr (40, k0, i0)), .inl x1, .inl x2, .inl x3] σ Q :=
 wpM_of ml_256 (L := [some (.inr (.inr (40, k0, i0))), some (.inl x1), some (.inl x2), some (.inl x3)]) rfl
 (w_aload_n (p' := 1) f_256_0 rfl rfl
 (w_getfield (p' := 4) f_256_1 rfl (x := .inr (.inr (46, 0, 0))) rfl rfl
 (w_sipush (p' := 7) f_256_4 rfl
 (w_bipush (p' := 9) f_256_7 rfl
 (w_iload_n (p' := 10) f_256_9 rfl rfl
 (w_imul (p' := 11) f_256_10 rfl
 (w_iadd (p' := 12) f_256_11 rfl
 (w_iload_n (p' := 13) f_256_12 rfl rfl
 (w_iadd (p' := 14) f_256_13 rfl
 (w_iload_n (p' := 15) f_256_14 rfl rfl
 (w_iastore (p' := 16) f_256_15 rfl (n := 526) rfl h.1 rfl
 (w_vret f_256_16 rk_256 h.2))))))))))))
/-! ClosedRoomsModel.evictNow(III)I -/
theorem f_257_0 : fnd 257 0 = some (0, .aload_n 0, 1, 0, 0, 0, 0) := ceB_eq (by decide +kernel)
theorem f_257_1 : fnd 257 1 = some (1, .invokevirtual 295, 3, 227, 1, 10, 0) := ceB_eq (by decide +kernel)
theorem f_257_4 : fnd 257 4 = some (4, .istore 4, 2, 0, 0, 0, 0) := ceB_eq (by decide +kernel)
theorem f_257_6 : fnd 257 6 = some (6, .aload_n 0, 1, 0, 0, 0, 0) := ceB_eq (by decide +kernel)
theorem f_257_7 : fnd 257 7 = some (7, .iload_n 1, 1, 0, 0, 0, 0) := ceB_eq (by decide +kernel)
theorem f_257_8 : fnd 257 8 = some (8, .iconst 1, 1, 0, 0, 0, 0) := ceB_eq (by decide +kernel)
theorem f_257_9 : fnd 257 9 = some (9, .invokevirtual 206, 3, 196, 3, 10, 0) := ceB_eq (by decide +kernel)
theorem f_257_12 : fnd 257 12 = some (12, .istore 5, 2, 0, 0, 0, 0) := ceB_eq (by decide +kernel)
theorem f_257_14 : fnd 257 14 = some (14, .aload_n 0, 1, 0, 0, 0, 0) := ceB_eq (by decide +kernel)
theorem f_257_15 : fnd 257 15 = some (15, .getfield 25, 3, 10, 15, 15, 0) := ceB_eq (by decide +kernel)
theorem f_257_18 : fnd 257 18 = some (18, .sipush 343, 3, 0, 0, 0, 0) := ceB_eq (by decide +kernel)
theorem f_257_21 : fnd 257 21 = some (21, .dup2, 1, 0, 0, 0, 0) := ceB_eq (by decide +kernel)
theorem f_257_22 : fnd 257 22 = some (22, .iaload, 1, 0, 0, 0, 0) := ceB_eq (by decide +kernel)
theorem f_257_23 : fnd 257 23 = some (23, .iconst 1, 1, 0, 0, 0, 0) := ceB_eq (by decide +kernel)
theorem f_257_24 : fnd 257 24 = some (24, .iadd, 1, 0, 0, 0, 0) := ceB_eq (by decide +kernel)
theorem f_257_25 : fnd 257 25 = some (25, .iastore, 1, 0, 0, 0, 0) := ceB_eq (by decide +kernel)
theorem f_257_26 : fnd 257 26 = some (26, .aload_n 0, 1, 0, 0, 0, 0) := ceB_eq (by decide +kernel)
theorem f_257_27 : fnd 257 27 = some (27, .iload 4, 2, 0, 0, 0, 0) := ceB_eq (by decide +kernel)
theorem f_257_29 : fnd 257 29 = some (29, .iconst 0, 1, 0, 0, 0, 0) := ceB_eq (by decide +kernel)
theorem f_257_30 : fnd 257 30 = some (30, .iconst 1, 1, 0, 0, 0, 0) := ceB_eq (by decide +kernel)
theorem f_257_31 : fnd 257 31 = some (31, .invokevirtual 373, 3, 256, 4, 10, 0) := ceB_eq (by decide +kernel)
theorem f_257_34 : fnd 257 34 = some (34, .aload_n 0, 1, 0, 0, 0, 0) := ceB_eq (by decide +kernel)
theorem f_257_35 : fnd 257 35 = some (35, .iload 4, 2, 0, 0, 0, 0) := ceB_eq (by decide +kernel)
theorem f_257_37 : fnd 257 37 = some (37, .iconst 1, 1, 0, 0, 0, 0) := ceB_eq (by decide +kernel)
theorem f_257_38 : fnd 257 38 = some (38, .aload_n 0, 1, 0, 0, 0, 0) := ceB_eq (by decide +kernel)
theorem f_257_39 : fnd 257 39 = some (39, .iload 5, 2, 0, 0, 0, 0) := ceB_eq (by decide +kernel)
theorem f_257_41 : fnd 257 41 = some (41, .iconst 1, 1, 0, 0, 0, 0) := ceB_eq (by decide +kernel)
theorem f_257_42 : fnd 257 42 = some (42, .invokevirtual 209, 3, 198, 3, 10, 0) := ceB_eq (by decide +kernel)
theorem f_257_45 : fnd 257 45 = some (45, .invokevirtual 373, 3, 256, 4, 10, 0) := ceB_eq (by decide +kernel)
theorem f_257_48 : fnd 257 48 = some (48, .aload_n 0, 1, 0, 0, 0, 0) := ceB_eq (by decide +kernel)
theorem f_257_49 : fnd 257 49 = some (49, .iload 4, 2, 0, 0, 0, 0) := ceB_eq (by decide +kernel)
theorem f_257_51 : fnd 257 51 = some (51, .iconst 2, 1, 0, 0, 0, 0) := ceB_eq (by decide +kernel)
theorem f_257_52 : fnd 257 52 = some (52, .aload_n 0, 1, 0, 0, 0, 0) := ceB_eq (by decide +kernel)
theorem f_257_53 : fnd 257 53 = some (53, .iload_n 1, 1, 0, 0, 0, 0) := ceB_eq (by decide +kernel)
theorem f_257_54 : fnd 257 54 = some (54, .iconst 2, 1, 0, 0, 0, 0) := ceB_eq (by decide +kernel)
theorem f_257_55 : fnd 257 55 = some (55, .invokevirtual 206, 3, 196, 3, 10, 0) := ceB_eq (by decide +kernel)
theorem f_257_58 : fnd 257 58 = some (58, .invokevirtual 373, 3, 256, 4, 10, 0) := ceB_eq (by decide +kernel)
theorem f_257_61 : fnd 257 61 = some (61, .aload_n 0, 1, 0, 0, 0, 0) := ceB_eq (by decide +kernel)
theorem f_257_62 : fnd 257 62 = some (62, .iload 4, 2, 0, 0, 0, 0) := ceB_eq (by decide +kernel)
theorem f_257_64 : fnd 257 64 = some (64, .iconst 3, 1, 0, 0, 0, 0) := ceB_eq (by decide +kernel)
theorem f_257_65 : fnd 257 65 = some (65, .aload_n 0, 1, 0, 0, 0, 0) := ceB_eq (by decide +kernel)
theorem f_257_66 : fnd 257 66 = some (66, .iload_n 1, 1, 0, 0, 0, 0) := ceB_eq (by decide +kernel)
theorem f_257_67 : fnd 257 67 = some (67, .iconst 0, 1, 0, 0, 0, 0) := ceB_eq (by decide +kernel)
theorem f_257_68 : fnd 257 68 = some (68, .invokevirtual 206, 3, 196, 3, 10, 0) := ceB_eq (by decide +kernel)
theorem f_257_71 : fnd 257 71 = some (71, .invokevirtual 373, 3, 256, 4, 10, 0) := ceB_eq (by decide +kernel)
theorem f_257_74 : fnd 257 74 = some (74, .aload_n 0, 1, 0, 0, 0, 0) := ceB_eq (by decide +kernel)
theorem f_257_75 : fnd 257 75 = some (75, .iload 4, 2, 0, 0, 0, 0) := ceB_eq (by decide +kernel)
theorem f_257_77 : fnd 257 77 = some (77, .iconst 4, 1, 0, 0, 0, 0) := ceB_eq (by decide +kernel)
theorem f_257_78 : fnd 257 78 = some (78, .aload_n 0, 1, 0, 0, 0, 0) := ceB_eq (by decide +kernel)
theorem f_257_79 : fnd 257 79 = some (79, .iload_n 1, 1, 0, 0, 0, 0) := ceB_eq (by decide +kernel)
theorem f_257_80 : fnd 257 80 = some (80, .iconst 3, 1, 0, 0, 0, 0) := ceB_eq (by decide +kernel)
theorem f_257_81 : fnd 257 81 = some (81, .invokevirtual 206, 3, 196, 3, 10, 0) := ceB_eq (by decide +kernel)
theorem f_257_84 : fnd 257 84 = some (84, .invokevirtual 373, 3, 256, 4, 10, 0) := ceB_eq (by decide +kernel)
theorem f_257_87 : fnd 257 87 = some (87, .aload_n 0, 1, 0, 0, 0, 0) := ceB_eq (by decide +kernel)
theorem f_257_88 : fnd 257 88 = some (88, .iload 4, 2, 0, 0, 0, 0) := ceB_eq (by decide +kernel)
theorem f_257_90 : fnd 257 90 = some (90, .iconst 5, 1, 0, 0, 0, 0) := ceB_eq (by decide +kernel)
theorem f_257_91 : fnd 257 91 = some (91, .aload_n 0, 1, 0, 0, 0, 0) := ceB_eq (by decide +kernel)
theorem f_257_92 : fnd 257 92 = some (92, .iload_n 1, 1, 0, 0, 0, 0) := ceB_eq (by decide +kernel)
theorem f_257_93 : fnd 257 93 = some (93, .iconst 4, 1, 0, 0, 0, 0) := ceB_eq (by decide +kernel)
theorem f_257_94 : fnd 257 94 = some (94, .invokevirtual 206, 3, 196, 3, 10, 0) := ceB_eq (by decide +kernel)
theorem f_257_97 : fnd 257 97 = some (97, .invokevirtual 373, 3, 256, 4, 10, 0) := ceB_eq (by decide +kernel)
theorem f_257_100 : fnd 257 100 = some (100, .aload_n 0, 1, 0, 0, 0, 0) := ceB_eq (by decide +kernel)
theorem f_257_101 : fnd 257 101 = some (101, .iload 4, 2, 0, 0, 0, 0) := ceB_eq (by decide +kernel)
theorem f_257_103 : fnd 257 103 = some (103, .bipush 6, 2, 0, 0, 0, 0) := ceB_eq (by decide +kernel)
theorem f_257_105 : fnd 257 105 = some (105, .aload_n 0, 1, 0, 0, 0, 0) := ceB_eq (by decide +kernel)
theorem f_257_106 : fnd 257 106 = some (106, .iload_n 1, 1, 0, 0, 0, 0) := ceB_eq (by decide +kernel)
theorem f_257_107 : fnd 257 107 = some (107, .bipush 6, 2, 0, 0, 0, 0) := ceB_eq (by decide +kernel)
theorem f_257_109 : fnd 257 109 = some (109, .invokevirtual 206, 3, 196, 3, 10, 0) := ceB_eq (by decide +kernel)
theorem f_257_112 : fnd 257 112 = some (112, .iconst 2, 1, 0, 0, 0, 0) := ceB_eq (by decide +kernel)
theorem f_257_113 : fnd 257 113 = some (113, .if_icmp .ne 7, 3, 0, 0, 0, 0) := ceB_eq (by decide +kernel)
theorem f_257_116 : fnd 257 116 = some (116, .iconst 1, 1, 0, 0, 0, 0) := ceB_eq (by decide +kernel)
theorem f_257_117 : fnd 257 117 = some (117, .goto 4, 3, 0, 0, 0, 0) := ceB_eq (by decide +kernel)
theorem f_257_120 : fnd 257 120 = some (120, .iconst 0, 1, 0, 0, 0, 0) := ceB_eq (by decide +kernel)
theorem f_257_121 : fnd 257 121 = some (121, .invokevirtual 373, 3, 256, 4, 10, 0) := ceB_eq (by decide +kernel)
theorem f_257_124 : fnd 257 124 = some (124, .aload_n 0, 1, 0, 0, 0, 0) := ceB_eq (by decide +kernel)
theorem f_257_125 : fnd 257 125 = some (125, .iload 4, 2, 0, 0, 0, 0) := ceB_eq (by decide +kernel)
theorem f_257_127 : fnd 257 127 = some (127, .bipush 7, 2, 0, 0, 0, 0) := ceB_eq (by decide +kernel)
theorem f_257_129 : fnd 257 129 = some (129, .aload_n 0, 1, 0, 0, 0, 0) := ceB_eq (by decide +kernel)
theorem f_257_130 : fnd 257 130 = some (130, .getfield 25, 3, 10, 15, 15, 0) := ceB_eq (by decide +kernel)
theorem f_257_133 : fnd 257 133 = some (133, .sipush 343, 3, 0, 0, 0, 0) := ceB_eq (by decide +kernel)
theorem f_257_136 : fnd 257 136 = some (136, .iaload, 1, 0, 0, 0, 0) := ceB_eq (by decide +kernel)
theorem f_257_137 : fnd 257 137 = some (137, .invokevirtual 373, 3, 256, 4, 10, 0) := ceB_eq (by decide +kernel)
theorem f_257_140 : fnd 257 140 = some (140, .aload_n 0, 1, 0, 0, 0, 0) := ceB_eq (by decide +kernel)
theorem f_257_141 : fnd 257 141 = some (141, .iload 4, 2, 0, 0, 0, 0) := ceB_eq (by decide +kernel)
theorem f_257_143 : fnd 257 143 = some (143, .bipush 8, 2, 0, 0, 0, 0) := ceB_eq (by decide +kernel)
theorem f_257_145 : fnd 257 145 = some (145, .iconst 0, 1, 0, 0, 0, 0) := ceB_eq (by decide +kernel)
theorem f_257_146 : fnd 257 146 = some (146, .invokevirtual 373, 3, 256, 4, 10, 0) := ceB_eq (by decide +kernel)
theorem f_257_149 : fnd 257 149 = some (149, .aload_n 0, 1, 0, 0, 0, 0) := ceB_eq (by decide +kernel)
theorem f_257_150 : fnd 257 150 = some (150, .iload_n 2, 1, 0, 0, 0, 0) := ceB_eq (by decide +kernel)
theorem f_257_151 : fnd 257 151 = some (151, .bipush 7, 2, 0, 0, 0, 0) := ceB_eq (by decide +kernel)
theorem f_257_153 : fnd 257 153 = some (153, .iload_n 3, 1, 0, 0, 0, 0) := ceB_eq (by decide +kernel)
theorem f_257_154 : fnd 257 154 = some (154, .iadd, 1, 0, 0, 0, 0) := ceB_eq (by decide +kernel)
theorem f_257_155 : fnd 257 155 = some (155, .aload_n 0, 1, 0, 0, 0, 0) := ceB_eq (by decide +kernel)
theorem f_257_156 : fnd 257 156 = some (156, .getfield 25, 3, 10, 15, 15, 0) := ceB_eq (by decide +kernel)
theorem f_257_159 : fnd 257 159 = some (159, .sipush 343, 3, 0, 0, 0, 0) := ceB_eq (by decide +kernel)
theorem f_257_162 : fnd 257 162 = some (162, .iaload, 1, 0, 0, 0, 0) := ceB_eq (by decide +kernel)
theorem f_257_163 : fnd 257 163 = some (163, .invokevirtual 218, 3, 190, 4, 10, 0) := ceB_eq (by decide +kernel)
theorem f_257_166 : fnd 257 166 = some (166, .aload_n 0, 1, 0, 0, 0, 0) := ceB_eq (by decide +kernel)
theorem f_257_167 : fnd 257 167 = some (167, .iload_n 1, 1, 0, 0, 0, 0) := ceB_eq (by decide +kernel)
theorem f_257_168 : fnd 257 168 = some (168, .iconst 0, 1, 0, 0, 0, 0) := ceB_eq (by decide +kernel)
theorem f_257_169 : fnd 257 169 = some (169, .invokevirtual 206, 3, 196, 3, 10, 0) := ceB_eq (by decide +kernel)
theorem f_257_172 : fnd 257 172 = some (172, .iconst 1, 1, 0, 0, 0, 0) := ceB_eq (by decide +kernel)
theorem f_257_173 : fnd 257 173 = some (173, .if_icmp .ne 15, 3, 0, 0, 0, 0) := ceB_eq (by decide +kernel)
theorem f_257_176 : fnd 257 176 = some (176, .aload_n 0, 1, 0, 0, 0, 0) := ceB_eq (by decide +kernel)
theorem f_257_177 : fnd 257 177 = some (177, .iload 5, 2, 0, 0, 0, 0) := ceB_eq (by decide +kernel)
theorem f_257_179 : fnd 257 179 = some (179, .bipush 6, 2, 0, 0, 0, 0) := ceB_eq (by decide +kernel)
theorem f_257_181 : fnd 257 181 = some (181, .iconst 1, 1, 0, 0, 0, 0) := ceB_eq (by decide +kernel)
theorem f_257_182 : fnd 257 182 = some (182, .invokevirtual 361, 3, 241, 4, 10, 0) := ceB_eq (by decide +kernel)
theorem f_257_185 : fnd 257 185 = some (185, .goto 19, 3, 0, 0, 0, 0) := ceB_eq (by decide +kernel)
theorem f_257_188 : fnd 257 188 = some (188, .aload_n 0, 1, 0, 0, 0, 0) := ceB_eq (by decide +kernel)
theorem f_257_189 : fnd 257 189 = some (189, .iload 5, 2, 0, 0, 0, 0) := ceB_eq (by decide +kernel)
theorem f_257_191 : fnd 257 191 = some (191, .bipush 7, 2, 0, 0, 0, 0) := ceB_eq (by decide +kernel)
theorem f_257_193 : fnd 257 193 = some (193, .aload_n 0, 1, 0, 0, 0, 0) := ceB_eq (by decide +kernel)
theorem f_257_194 : fnd 257 194 = some (194, .iload_n 1, 1, 0, 0, 0, 0) := ceB_eq (by decide +kernel)
theorem f_257_195 : fnd 257 195 = some (195, .iconst 2, 1, 0, 0, 0, 0) := ceB_eq (by decide +kernel)
theorem f_257_196 : fnd 257 196 = some (196, .invokevirtual 206, 3, 196, 3, 10, 0) := ceB_eq (by decide +kernel)
theorem f_257_199 : fnd 257 199 = some (199, .iadd, 1, 0, 0, 0, 0) := ceB_eq (by decide +kernel)
theorem f_257_200 : fnd 257 200 = some (200, .iconst 2, 1, 0, 0, 0, 0) := ceB_eq (by decide +kernel)
theorem f_257_201 : fnd 257 201 = some (201, .invokevirtual 361, 3, 241, 4, 10, 0) := ceB_eq (by decide +kernel)
theorem f_257_204 : fnd 257 204 = some (204, .aload_n 0, 1, 0, 0, 0, 0) := ceB_eq (by decide +kernel)
theorem f_257_205 : fnd 257 205 = some (205, .iload_n 1, 1, 0, 0, 0, 0) := ceB_eq (by decide +kernel)
theorem f_257_206 : fnd 257 206 = some (206, .invokevirtual 222, 3, 191, 2, 10, 0) := ceB_eq (by decide +kernel)
theorem f_257_209 : fnd 257 209 = some (209, .iload 4, 2, 0, 0, 0, 0) := ceB_eq (by decide +kernel)
theorem f_257_211 : fnd 257 211 = some (211, .ireturn, 1, 0, 0, 0, 0) := ceB_eq (by decide +kernel)
theorem rk_257 : rkm 257 = 0 := by decide +kernel
theorem ml_257 : (mth 257).2.1 = 6 := by decide +kernel
set_option maxRecDepth 100000 in
theorem T_Z_evictNow (k0 i0 x1 x2 x3 : Int) (σ : ST) (Q : Option AV → ST → Prop) (h :
  wpM m_Z_freePlace [.inr (.inr (40, k0, i0))] σ (asI fun r101 s101 =>
  wpM m_Z_ofPage [.inr (.inr (40, k0, i0)), .inl x1, .inl 1] s101 (asI fun r102 s102 =>
  ((0 : Int) ≤ 343 ∧ (343 : Int) < 526) ∧
  ((0 : Int) ≤ 343 ∧ (343 : Int) < 526) ∧
  wpM m_Z_setCopy [.inr (.inr (40, k0, i0)), .inl r101, .inl 0, .inl 1] (up s102 46 0 0 343 (wr ((s102 46 0 0 343) + 1))) (asV fun s103 =>
  wpM m_Z_ofRoom [.inr (.inr (40, k0, i0)), .inl r102, .inl 1] s103 (asI fun r104 s104 =>
  wpM m_Z_setCopy [.inr (.inr (40, k0, i0)), .inl r101, .inl 1, .inl r104] s104 (asV fun s105 =>
  wpM m_Z_ofPage [.inr (.inr (40, k0, i0)), .inl x1, .inl 2] s105 (asI fun r106 s106 =>
  wpM m_Z_setCopy [.inr (.inr (40, k0, i0)), .inl r101, .inl 2, .inl r106] s106 (asV fun s107 =>
  wpM m_Z_ofPage [.inr (.inr (40, k0, i0)), .inl x1, .inl 0] s107 (asI fun r108 s108 =>
  wpM m_Z_setCopy [.inr (.inr (40, k0, i0)), .inl r101, .inl 3, .inl r108] s108 (asV fun s109 =>
  wpM m_Z_ofPage [.inr (.inr (40, k0, i0)), .inl x1, .inl 3] s109 (asI fun r110 s110 =>
  wpM m_Z_setCopy [.inr (.inr (40, k0, i0)), .inl r101, .inl 4, .inl r110] s110 (asV fun s111 =>
  wpM m_Z_ofPage [.inr (.inr (40, k0, i0)), .inl x1, .inl 4] s111 (asI fun r112 s112 =>
  wpM m_Z_setCopy [.inr (.inr (40, k0, i0)), .inl r101, .inl 5, .inl r112] s112 (asV fun s113 =>
  wpM m_Z_ofPage [.inr (.inr (40, k0, i0)), .inl x1, .inl 6] s113 (asI fun r114 s114 =>
  (((r114 ≠ 2 : Prop) →
    wp m_Z_evictNow (121, [some (.inr (.inr (40, k0, i0))), some (.inl x1), some (.inl x2), some (.inl x3), some (.inl r101), some (.inl r102)], [.inl 0, .inl 6, .inl r101, .inr (.inr (40, k0, i0))], s114) Q) ∧
  (¬ (r114 ≠ 2) →
    wp m_Z_evictNow (121, [some (.inr (.inr (40, k0, i0))), some (.inl x1), some (.inl x2), some (.inl x3), some (.inl r101), some (.inl r102)], [.inl 1, .inl 6, .inl r101, .inr (.inr (40, k0, i0))], s114) Q))))))))))))))))) :
  wpM m_Z_evictNow [.inr (.inr (40, k0, i0)), .inl x1, .inl x2, .inl x3] σ Q :=
 wpM_of ml_257 (L := [some (.inr (.inr (40, k0, i0))), some (.inl x1), some (.inl x2), some (.inl x3), none, none]) rfl
 (w_aload_n (p' := 1) f_257_0 rfl rfl
 (w_callV (p' := 4) f_257_1 rfl rfl rfl rfl rfl (r := []) rfl rfl (kI (.inl rk_227) fun r101 s101 h101 =>
 w_istore (p' := 6) f_257_4 (L' := [some (.inr (.inr (40, k0, i0))), some (.inl x1), some (.inl x2), some (.inl x3), some (.inl r101), none]) rfl rfl
 (w_aload_n (p' := 7) f_257_6 rfl rfl
 (w_iload_n (p' := 8) f_257_7 rfl rfl
 (w_iconst (p' := 9) f_257_8 rfl
 (w_callV (p' := 12) f_257_9 rfl rfl rfl rfl rfl (r := []) rfl rfl (kI (.inl rk_196) fun r102 s102 h102 =>
 w_istore (p' := 14) f_257_12 (L' := [some (.inr (.inr (40, k0, i0))), some (.inl x1), some (.inl x2), some (.inl x3), some (.inl r101), some (.inl r102)]) rfl rfl
 (w_aload_n (p' := 15) f_257_14 rfl rfl
 (w_getfield (p' := 18) f_257_15 rfl (x := .inr (.inr (46, 0, 0))) rfl rfl
 (w_sipush (p' := 21) f_257_18 rfl
 (w_dup2 (p' := 22) f_257_21 rfl
 (w_iaload (p' := 23) f_257_22 rfl (n := 526) rfl h102.1 rfl
 (w_iconst (p' := 24) f_257_23 rfl
 (w_iadd (p' := 25) f_257_24 rfl
 (w_iastore (p' := 26) f_257_25 rfl (n := 526) rfl h102.2.1 rfl
 (w_aload_n (p' := 27) f_257_26 rfl rfl
 (w_iload (p' := 29) f_257_27 rfl rfl
 (w_iconst (p' := 30) f_257_29 rfl
 (w_iconst (p' := 31) f_257_30 rfl
 (w_callV (p' := 34) f_257_31 rfl rfl rfl rfl rfl (r := []) rfl rfl (kV rk_256 fun s103 h103 =>
 w_aload_n (p' := 35) f_257_34 rfl rfl
 (w_iload (p' := 37) f_257_35 rfl rfl
 (w_iconst (p' := 38) f_257_37 rfl
 (w_aload_n (p' := 39) f_257_38 rfl rfl
 (w_iload (p' := 41) f_257_39 rfl rfl
 (w_iconst (p' := 42) f_257_41 rfl
 (w_callV (p' := 45) f_257_42 rfl rfl rfl rfl rfl (r := [.inl 1, .inl r101, .inr (.inr (40, k0, i0))]) rfl rfl (kI (.inl rk_198) fun r104 s104 h104 =>
 w_callV (p' := 48) f_257_45 rfl rfl rfl rfl rfl (r := []) rfl rfl (kV rk_256 fun s105 h105 =>
 w_aload_n (p' := 49) f_257_48 rfl rfl
 (w_iload (p' := 51) f_257_49 rfl rfl
 (w_iconst (p' := 52) f_257_51 rfl
 (w_aload_n (p' := 53) f_257_52 rfl rfl
 (w_iload_n (p' := 54) f_257_53 rfl rfl
 (w_iconst (p' := 55) f_257_54 rfl
 (w_callV (p' := 58) f_257_55 rfl rfl rfl rfl rfl (r := [.inl 2, .inl r101, .inr (.inr (40, k0, i0))]) rfl rfl (kI (.inl rk_196) fun r106 s106 h106 =>
 w_callV (p' := 61) f_257_58 rfl rfl rfl rfl rfl (r := []) rfl rfl (kV rk_256 fun s107 h107 =>
 w_aload_n (p' := 62) f_257_61 rfl rfl
 (w_iload (p' := 64) f_257_62 rfl rfl
 (w_iconst (p' := 65) f_257_64 rfl
 (w_aload_n (p' := 66) f_257_65 rfl rfl
 (w_iload_n (p' := 67) f_257_66 rfl rfl
 (w_iconst (p' := 68) f_257_67 rfl
 (w_callV (p' := 71) f_257_68 rfl rfl rfl rfl rfl (r := [.inl 3, .inl r101, .inr (.inr (40, k0, i0))]) rfl rfl (kI (.inl rk_196) fun r108 s108 h108 =>
 w_callV (p' := 74) f_257_71 rfl rfl rfl rfl rfl (r := []) rfl rfl (kV rk_256 fun s109 h109 =>
 w_aload_n (p' := 75) f_257_74 rfl rfl
 (w_iload (p' := 77) f_257_75 rfl rfl
 (w_iconst (p' := 78) f_257_77 rfl
 (w_aload_n (p' := 79) f_257_78 rfl rfl
 (w_iload_n (p' := 80) f_257_79 rfl rfl
 (w_iconst (p' := 81) f_257_80 rfl
 (w_callV (p' := 84) f_257_81 rfl rfl rfl rfl rfl (r := [.inl 4, .inl r101, .inr (.inr (40, k0, i0))]) rfl rfl (kI (.inl rk_196) fun r110 s110 h110 =>
 w_callV (p' := 87) f_257_84 rfl rfl rfl rfl rfl (r := []) rfl rfl (kV rk_256 fun s111 h111 =>
 w_aload_n (p' := 88) f_257_87 rfl rfl
 (w_iload (p' := 90) f_257_88 rfl rfl
 (w_iconst (p' := 91) f_257_90 rfl
 (w_aload_n (p' := 92) f_257_91 rfl rfl
 (w_iload_n (p' := 93) f_257_92 rfl rfl
 (w_iconst (p' := 94) f_257_93 rfl
 (w_callV (p' := 97) f_257_94 rfl rfl rfl rfl rfl (r := [.inl 5, .inl r101, .inr (.inr (40, k0, i0))]) rfl rfl (kI (.inl rk_196) fun r112 s112 h112 =>
 w_callV (p' := 100) f_257_97 rfl rfl rfl rfl rfl (r := []) rfl rfl (kV rk_256 fun s113 h113 =>
 w_aload_n (p' := 101) f_257_100 rfl rfl
 (w_iload (p' := 103) f_257_101 rfl rfl
 (w_bipush (p' := 105) f_257_103 rfl
 (w_aload_n (p' := 106) f_257_105 rfl rfl
 (w_iload_n (p' := 107) f_257_106 rfl rfl
 (w_bipush (p' := 109) f_257_107 rfl
 (w_callV (p' := 112) f_257_109 rfl rfl rfl rfl rfl (r := [.inl 6, .inl r101, .inr (.inr (40, k0, i0))]) rfl rfl (kI (.inl rk_196) fun r114 s114 h114 =>
 w_iconst (p' := 113) f_257_112 rfl
 (w_icmp (p' := 120) (q' := 116) f_257_113 rfl rfl
 (fun c115 => w_iconst (p' := 121) f_257_120 rfl
 ((h114.1 c115)))
 (fun c115 => w_iconst (p' := 117) f_257_116 rfl
 (w_goto (p' := 121) f_257_117 rfl
 ((h114.2 c115)))))) h113))))))) h112) h111))))))) h110) h109))))))) h108) h107))))))) h106) h105))))))) h104) h103))))))) h102.2.2)))))))))))))) h101))))) h))
set_option maxRecDepth 100000 in
theorem T_Z_evictNow_121 (k0 i0 x1 x2 x3 x4 x5 t0 t1 t2 kt3 it3 : Int) (σ : ST) (Q : Option AV → ST → Prop) (h :
  wpM m_Z_setCopy [.inr (.inr (40, kt3, it3)), .inl t2, .inl t1, .inl t0] σ (asV fun s101 =>
  ((0 : Int) ≤ 343 ∧ (343 : Int) < 526) ∧
  wpM m_Z_setCopy [.inr (.inr (40, k0, i0)), .inl x4, .inl 7, .inl (s101 46 0 0 343)] s101 (asV fun s102 =>
  wpM m_Z_setCopy [.inr (.inr (40, k0, i0)), .inl x4, .inl 8, .inl 0] s102 (asV fun s103 =>
  ((0 : Int) ≤ 343 ∧ (343 : Int) < 526) ∧
  wpM m_Z_setPage [.inr (.inr (40, k0, i0)), .inl x2, .inl (wr (7 + x3)), .inl (s103 46 0 0 343)] s103 (asV fun s104 =>
  wpM m_Z_ofPage [.inr (.inr (40, k0, i0)), .inl x1, .inl 0] s104 (asI fun r105 s105 =>
  (((r105 ≠ 1 : Prop) →
    wpM m_Z_ofPage [.inr (.inr (40, k0, i0)), .inl x1, .inl 2] s105 (asI fun r106 s106 =>
    wpM m_Z_setRoom [.inr (.inr (40, k0, i0)), .inl x5, .inl (wr (7 + r106)), .inl 2] s106 (asV fun s107 =>
    wpM m_Z_clearPage [.inr (.inr (40, k0, i0)), .inl x1] s107 (asV fun s108 =>
    Q (some (.inl x4)) s108)))) ∧
  (¬ (r105 ≠ 1) →
    wpM m_Z_setRoom [.inr (.inr (40, k0, i0)), .inl x5, .inl 6, .inl 1] s105 (asV fun s109 =>
    wpM m_Z_clearPage [.inr (.inr (40, k0, i0)), .inl x1] s109 (asV fun s110 =>
    Q (some (.inl x4)) s110)))))))))) :
  wp m_Z_evictNow (121, [some (.inr (.inr (40, k0, i0))), some (.inl x1), some (.inl x2), some (.inl x3), some (.inl x4), some (.inl x5)], [.inl t0, .inl t1, .inl t2, .inr (.inr (40, kt3, it3))], σ) Q :=
 w_callV (p' := 124) f_257_121 rfl rfl rfl rfl rfl (r := []) rfl rfl (kV rk_256 fun s101 h101 =>
 w_aload_n (p' := 125) f_257_124 rfl rfl
 (w_iload (p' := 127) f_257_125 rfl rfl
 (w_bipush (p' := 129) f_257_127 rfl
 (w_aload_n (p' := 130) f_257_129 rfl rfl
 (w_getfield (p' := 133) f_257_130 rfl (x := .inr (.inr (46, 0, 0))) rfl rfl
 (w_sipush (p' := 136) f_257_133 rfl
 (w_iaload (p' := 137) f_257_136 rfl (n := 526) rfl h101.1 rfl
 (w_callV (p' := 140) f_257_137 rfl rfl rfl rfl rfl (r := []) rfl rfl (kV rk_256 fun s102 h102 =>
 w_aload_n (p' := 141) f_257_140 rfl rfl
 (w_iload (p' := 143) f_257_141 rfl rfl
 (w_bipush (p' := 145) f_257_143 rfl
 (w_iconst (p' := 146) f_257_145 rfl
 (w_callV (p' := 149) f_257_146 rfl rfl rfl rfl rfl (r := []) rfl rfl (kV rk_256 fun s103 h103 =>
 w_aload_n (p' := 150) f_257_149 rfl rfl
 (w_iload_n (p' := 151) f_257_150 rfl rfl
 (w_bipush (p' := 153) f_257_151 rfl
 (w_iload_n (p' := 154) f_257_153 rfl rfl
 (w_iadd (p' := 155) f_257_154 rfl
 (w_aload_n (p' := 156) f_257_155 rfl rfl
 (w_getfield (p' := 159) f_257_156 rfl (x := .inr (.inr (46, 0, 0))) rfl rfl
 (w_sipush (p' := 162) f_257_159 rfl
 (w_iaload (p' := 163) f_257_162 rfl (n := 526) rfl h103.1 rfl
 (w_callV (p' := 166) f_257_163 rfl rfl rfl rfl rfl (r := []) rfl rfl (kV rk_190 fun s104 h104 =>
 w_aload_n (p' := 167) f_257_166 rfl rfl
 (w_iload_n (p' := 168) f_257_167 rfl rfl
 (w_iconst (p' := 169) f_257_168 rfl
 (w_callV (p' := 172) f_257_169 rfl rfl rfl rfl rfl (r := []) rfl rfl (kI (.inl rk_196) fun r105 s105 h105 =>
 w_iconst (p' := 173) f_257_172 rfl
 (w_icmp (p' := 188) (q' := 176) f_257_173 rfl rfl
 (fun c111 => w_aload_n (p' := 189) f_257_188 rfl rfl
 (w_iload (p' := 191) f_257_189 rfl rfl
 (w_bipush (p' := 193) f_257_191 rfl
 (w_aload_n (p' := 194) f_257_193 rfl rfl
 (w_iload_n (p' := 195) f_257_194 rfl rfl
 (w_iconst (p' := 196) f_257_195 rfl
 (w_callV (p' := 199) f_257_196 rfl rfl rfl rfl rfl (r := [.inl 7, .inl x5, .inr (.inr (40, k0, i0))]) rfl rfl (kI (.inl rk_196) fun r106 s106 h106 =>
 w_iadd (p' := 200) f_257_199 rfl
 (w_iconst (p' := 201) f_257_200 rfl
 (w_callV (p' := 204) f_257_201 rfl rfl rfl rfl rfl (r := []) rfl rfl (kV rk_241 fun s107 h107 =>
 w_aload_n (p' := 205) f_257_204 rfl rfl
 (w_iload_n (p' := 206) f_257_205 rfl rfl
 (w_callV (p' := 209) f_257_206 rfl rfl rfl rfl rfl (r := []) rfl rfl (kV rk_191 fun s108 h108 =>
 w_iload (p' := 211) f_257_209 rfl rfl
 (w_iret f_257_211 rk_257 h108)) h107))) h106))) (h105.1 c111))))))))
 (fun c111 => w_aload_n (p' := 177) f_257_176 rfl rfl
 (w_iload (p' := 179) f_257_177 rfl rfl
 (w_bipush (p' := 181) f_257_179 rfl
 (w_iconst (p' := 182) f_257_181 rfl
 (w_callV (p' := 185) f_257_182 rfl rfl rfl rfl rfl (r := []) rfl rfl (kV rk_241 fun s109 h109 =>
 w_goto (p' := 204) f_257_185 rfl
 (w_aload_n (p' := 205) f_257_204 rfl rfl
 (w_iload_n (p' := 206) f_257_205 rfl rfl
 (w_callV (p' := 209) f_257_206 rfl rfl rfl rfl rfl (r := []) rfl rfl (kV rk_191 fun s110 h110 =>
 w_iload (p' := 211) f_257_209 rfl rfl
 (w_iret f_257_211 rk_257 h110)) h109)))) (h105.2 c111)))))))) h104)))) h103.2)))))))))) h102))))) h101.2)))))))) h
