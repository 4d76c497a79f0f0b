/-! ClosedRoomsModel.loadNow(III)I -/
theorem f_258_0 : fnd 258 0 = some (0, .aload_n 0, 1, 0, 0, 0, 0) := ceB_eq (by decide +kernel)
theorem f_258_1 : fnd 258 1 = some (1, .invokevirtual 246, 3, 197, 1, 10, 0) := ceB_eq (by decide +kernel)
theorem f_258_4 : fnd 258 4 = some (4, .istore 4, 2, 0, 0, 0, 0) := ceB_eq (by decide +kernel)
theorem f_258_6 : fnd 258 6 = some (6, .aload_n 0, 1, 0, 0, 0, 0) := ceB_eq (by decide +kernel)
theorem f_258_7 : fnd 258 7 = some (7, .aload_n 0, 1, 0, 0, 0, 0) := ceB_eq (by decide +kernel)
theorem f_258_8 : fnd 258 8 = some (8, .iload_n 1, 1, 0, 0, 0, 0) := ceB_eq (by decide +kernel)
theorem f_258_9 : fnd 258 9 = some (9, .iconst 1, 1, 0, 0, 0, 0) := ceB_eq (by decide +kernel)
theorem f_258_10 : fnd 258 10 = some (10, .invokevirtual 215, 3, 226, 3, 10, 0) := ceB_eq (by decide +kernel)
theorem f_258_13 : fnd 258 13 = some (13, .invokevirtual 298, 3, 230, 2, 10, 0) := ceB_eq (by decide +kernel)
theorem f_258_16 : fnd 258 16 = some (16, .istore 5, 2, 0, 0, 0, 0) := ceB_eq (by decide +kernel)
theorem f_258_18 : fnd 258 18 = some (18, .aload_n 0, 1, 0, 0, 0, 0) := ceB_eq (by decide +kernel)
theorem f_258_19 : fnd 258 19 = some (19, .iload 4, 2, 0, 0, 0, 0) := ceB_eq (by decide +kernel)
theorem f_258_21 : fnd 258 21 = some (21, .invokevirtual 222, 3, 191, 2, 10, 0) := ceB_eq (by decide +kernel)
theorem f_258_24 : fnd 258 24 = some (24, .aload_n 0, 1, 0, 0, 0, 0) := ceB_eq (by decide +kernel)
theorem f_258_25 : fnd 258 25 = some (25, .iload 4, 2, 0, 0, 0, 0) := ceB_eq (by decide +kernel)
theorem f_258_27 : fnd 258 27 = some (27, .iconst 0, 1, 0, 0, 0, 0) := ceB_eq (by decide +kernel)
theorem f_258_28 : fnd 258 28 = some (28, .aload_n 0, 1, 0, 0, 0, 0) := ceB_eq (by decide +kernel)
theorem f_258_29 : fnd 258 29 = some (29, .iload_n 1, 1, 0, 0, 0, 0) := ceB_eq (by decide +kernel)
theorem f_258_30 : fnd 258 30 = some (30, .iconst 3, 1, 0, 0, 0, 0) := ceB_eq (by decide +kernel)
theorem f_258_31 : fnd 258 31 = some (31, .invokevirtual 215, 3, 226, 3, 10, 0) := ceB_eq (by decide +kernel)
theorem f_258_34 : fnd 258 34 = some (34, .invokevirtual 218, 3, 190, 4, 10, 0) := ceB_eq (by decide +kernel)
theorem f_258_37 : fnd 258 37 = some (37, .aload_n 0, 1, 0, 0, 0, 0) := ceB_eq (by decide +kernel)
theorem f_258_38 : fnd 258 38 = some (38, .iload 4, 2, 0, 0, 0, 0) := ceB_eq (by decide +kernel)
theorem f_258_40 : fnd 258 40 = some (40, .iconst 1, 1, 0, 0, 0, 0) := ceB_eq (by decide +kernel)
theorem f_258_41 : fnd 258 41 = some (41, .iload 5, 2, 0, 0, 0, 0) := ceB_eq (by decide +kernel)
theorem f_258_43 : fnd 258 43 = some (43, .invokevirtual 218, 3, 190, 4, 10, 0) := ceB_eq (by decide +kernel)
theorem f_258_46 : fnd 258 46 = some (46, .aload_n 0, 1, 0, 0, 0, 0) := ceB_eq (by decide +kernel)
theorem f_258_47 : fnd 258 47 = some (47, .iload 4, 2, 0, 0, 0, 0) := ceB_eq (by decide +kernel)
theorem f_258_49 : fnd 258 49 = some (49, .iconst 2, 1, 0, 0, 0, 0) := ceB_eq (by decide +kernel)
theorem f_258_50 : fnd 258 50 = some (50, .aload_n 0, 1, 0, 0, 0, 0) := ceB_eq (by decide +kernel)
theorem f_258_51 : fnd 258 51 = some (51, .iload_n 1, 1, 0, 0, 0, 0) := ceB_eq (by decide +kernel)
theorem f_258_52 : fnd 258 52 = some (52, .iconst 2, 1, 0, 0, 0, 0) := ceB_eq (by decide +kernel)
theorem f_258_53 : fnd 258 53 = some (53, .invokevirtual 215, 3, 226, 3, 10, 0) := ceB_eq (by decide +kernel)
theorem f_258_56 : fnd 258 56 = some (56, .invokevirtual 218, 3, 190, 4, 10, 0) := ceB_eq (by decide +kernel)
theorem f_258_59 : fnd 258 59 = some (59, .aload_n 0, 1, 0, 0, 0, 0) := ceB_eq (by decide +kernel)
theorem f_258_60 : fnd 258 60 = some (60, .iload 4, 2, 0, 0, 0, 0) := ceB_eq (by decide +kernel)
theorem f_258_62 : fnd 258 62 = some (62, .iconst 3, 1, 0, 0, 0, 0) := ceB_eq (by decide +kernel)
theorem f_258_63 : fnd 258 63 = some (63, .aload_n 0, 1, 0, 0, 0, 0) := ceB_eq (by decide +kernel)
theorem f_258_64 : fnd 258 64 = some (64, .iload_n 1, 1, 0, 0, 0, 0) := ceB_eq (by decide +kernel)
theorem f_258_65 : fnd 258 65 = some (65, .iconst 4, 1, 0, 0, 0, 0) := ceB_eq (by decide +kernel)
theorem f_258_66 : fnd 258 66 = some (66, .invokevirtual 215, 3, 226, 3, 10, 0) := ceB_eq (by decide +kernel)
theorem f_258_69 : fnd 258 69 = some (69, .invokevirtual 218, 3, 190, 4, 10, 0) := ceB_eq (by decide +kernel)
theorem f_258_72 : fnd 258 72 = some (72, .aload_n 0, 1, 0, 0, 0, 0) := ceB_eq (by decide +kernel)
theorem f_258_73 : fnd 258 73 = some (73, .iload 4, 2, 0, 0, 0, 0) := ceB_eq (by decide +kernel)
theorem f_258_75 : fnd 258 75 = some (75, .iconst 4, 1, 0, 0, 0, 0) := ceB_eq (by decide +kernel)
theorem f_258_76 : fnd 258 76 = some (76, .aload_n 0, 1, 0, 0, 0, 0) := ceB_eq (by decide +kernel)
theorem f_258_77 : fnd 258 77 = some (77, .iload_n 1, 1, 0, 0, 0, 0) := ceB_eq (by decide +kernel)
theorem f_258_78 : fnd 258 78 = some (78, .iconst 5, 1, 0, 0, 0, 0) := ceB_eq (by decide +kernel)
theorem f_258_79 : fnd 258 79 = some (79, .invokevirtual 215, 3, 226, 3, 10, 0) := ceB_eq (by decide +kernel)
theorem f_258_82 : fnd 258 82 = some (82, .invokevirtual 218, 3, 190, 4, 10, 0) := ceB_eq (by decide +kernel)
theorem f_258_85 : fnd 258 85 = some (85, .aload_n 0, 1, 0, 0, 0, 0) := ceB_eq (by decide +kernel)
theorem f_258_86 : fnd 258 86 = some (86, .iload 4, 2, 0, 0, 0, 0) := ceB_eq (by decide +kernel)
theorem f_258_88 : fnd 258 88 = some (88, .bipush 6, 2, 0, 0, 0, 0) := ceB_eq (by decide +kernel)
theorem f_258_90 : fnd 258 90 = some (90, .aload_n 0, 1, 0, 0, 0, 0) := ceB_eq (by decide +kernel)
theorem f_258_91 : fnd 258 91 = some (91, .iload_n 1, 1, 0, 0, 0, 0) := ceB_eq (by decide +kernel)
theorem f_258_92 : fnd 258 92 = some (92, .bipush 6, 2, 0, 0, 0, 0) := ceB_eq (by decide +kernel)
theorem f_258_94 : fnd 258 94 = some (94, .invokevirtual 215, 3, 226, 3, 10, 0) := ceB_eq (by decide +kernel)
theorem f_258_97 : fnd 258 97 = some (97, .iconst 1, 1, 0, 0, 0, 0) := ceB_eq (by decide +kernel)
theorem f_258_98 : fnd 258 98 = some (98, .if_icmp .ne 7, 3, 0, 0, 0, 0) := ceB_eq (by decide +kernel)
theorem f_258_101 : fnd 258 101 = some (101, .iconst 2, 1, 0, 0, 0, 0) := ceB_eq (by decide +kernel)
theorem f_258_102 : fnd 258 102 = some (102, .goto 4, 3, 0, 0, 0, 0) := ceB_eq (by decide +kernel)
theorem f_258_105 : fnd 258 105 = some (105, .iconst 0, 1, 0, 0, 0, 0) := ceB_eq (by decide +kernel)
theorem f_258_106 : fnd 258 106 = some (106, .invokevirtual 218, 3, 190, 4, 10, 0) := ceB_eq (by decide +kernel)
theorem f_258_109 : fnd 258 109 = some (109, .aload_n 0, 1, 0, 0, 0, 0) := ceB_eq (by decide +kernel)
theorem f_258_110 : fnd 258 110 = some (110, .iload_n 2, 1, 0, 0, 0, 0) := ceB_eq (by decide +kernel)
theorem f_258_111 : fnd 258 111 = some (111, .bipush 7, 2, 0, 0, 0, 0) := ceB_eq (by decide +kernel)
theorem f_258_113 : fnd 258 113 = some (113, .iload_n 3, 1, 0, 0, 0, 0) := ceB_eq (by decide +kernel)
theorem f_258_114 : fnd 258 114 = some (114, .iadd, 1, 0, 0, 0, 0) := ceB_eq (by decide +kernel)
theorem f_258_115 : fnd 258 115 = some (115, .iconst 0, 1, 0, 0, 0, 0) := ceB_eq (by decide +kernel)
theorem f_258_116 : fnd 258 116 = some (116, .invokevirtual 218, 3, 190, 4, 10, 0) := ceB_eq (by decide +kernel)
theorem f_258_119 : fnd 258 119 = some (119, .aload_n 0, 1, 0, 0, 0, 0) := ceB_eq (by decide +kernel)
theorem f_258_120 : fnd 258 120 = some (120, .iload_n 1, 1, 0, 0, 0, 0) := ceB_eq (by decide +kernel)
theorem f_258_121 : fnd 258 121 = some (121, .iconst 3, 1, 0, 0, 0, 0) := ceB_eq (by decide +kernel)
theorem f_258_122 : fnd 258 122 = some (122, .invokevirtual 215, 3, 226, 3, 10, 0) := ceB_eq (by decide +kernel)
theorem f_258_125 : fnd 258 125 = some (125, .iconst 1, 1, 0, 0, 0, 0) := ceB_eq (by decide +kernel)
theorem f_258_126 : fnd 258 126 = some (126, .if_icmp .ne 15, 3, 0, 0, 0, 0) := ceB_eq (by decide +kernel)
theorem f_258_129 : fnd 258 129 = some (129, .aload_n 0, 1, 0, 0, 0, 0) := ceB_eq (by decide +kernel)
theorem f_258_130 : fnd 258 130 = some (130, .iload 5, 2, 0, 0, 0, 0) := ceB_eq (by decide +kernel)
theorem f_258_132 : fnd 258 132 = some (132, .bipush 6, 2, 0, 0, 0, 0) := ceB_eq (by decide +kernel)
theorem f_258_134 : fnd 258 134 = some (134, .iconst 0, 1, 0, 0, 0, 0) := ceB_eq (by decide +kernel)
theorem f_258_135 : fnd 258 135 = some (135, .invokevirtual 361, 3, 241, 4, 10, 0) := ceB_eq (by decide +kernel)
theorem f_258_138 : fnd 258 138 = some (138, .goto 38, 3, 0, 0, 0, 0) := ceB_eq (by decide +kernel)
theorem f_258_141 : fnd 258 141 = some (141, .aload_n 0, 1, 0, 0, 0, 0) := ceB_eq (by decide +kernel)
theorem f_258_142 : fnd 258 142 = some (142, .iload 5, 2, 0, 0, 0, 0) := ceB_eq (by decide +kernel)
theorem f_258_144 : fnd 258 144 = some (144, .bipush 7, 2, 0, 0, 0, 0) := ceB_eq (by decide +kernel)
theorem f_258_146 : fnd 258 146 = some (146, .aload_n 0, 1, 0, 0, 0, 0) := ceB_eq (by decide +kernel)
theorem f_258_147 : fnd 258 147 = some (147, .iload_n 1, 1, 0, 0, 0, 0) := ceB_eq (by decide +kernel)
theorem f_258_148 : fnd 258 148 = some (148, .iconst 2, 1, 0, 0, 0, 0) := ceB_eq (by decide +kernel)
theorem f_258_149 : fnd 258 149 = some (149, .invokevirtual 215, 3, 226, 3, 10, 0) := ceB_eq (by decide +kernel)
theorem f_258_152 : fnd 258 152 = some (152, .iadd, 1, 0, 0, 0, 0) := ceB_eq (by decide +kernel)
theorem f_258_153 : fnd 258 153 = some (153, .iconst 1, 1, 0, 0, 0, 0) := ceB_eq (by decide +kernel)
theorem f_258_154 : fnd 258 154 = some (154, .invokevirtual 361, 3, 241, 4, 10, 0) := ceB_eq (by decide +kernel)
theorem f_258_157 : fnd 258 157 = some (157, .aload_n 0, 1, 0, 0, 0, 0) := ceB_eq (by decide +kernel)
theorem f_258_158 : fnd 258 158 = some (158, .iload 5, 2, 0, 0, 0, 0) := ceB_eq (by decide +kernel)
theorem f_258_160 : fnd 258 160 = some (160, .bipush 15, 2, 0, 0, 0, 0) := ceB_eq (by decide +kernel)
theorem f_258_162 : fnd 258 162 = some (162, .aload_n 0, 1, 0, 0, 0, 0) := ceB_eq (by decide +kernel)
theorem f_258_163 : fnd 258 163 = some (163, .iload_n 1, 1, 0, 0, 0, 0) := ceB_eq (by decide +kernel)
theorem f_258_164 : fnd 258 164 = some (164, .iconst 2, 1, 0, 0, 0, 0) := ceB_eq (by decide +kernel)
theorem f_258_165 : fnd 258 165 = some (165, .invokevirtual 215, 3, 226, 3, 10, 0) := ceB_eq (by decide +kernel)
theorem f_258_168 : fnd 258 168 = some (168, .iadd, 1, 0, 0, 0, 0) := ceB_eq (by decide +kernel)
theorem f_258_169 : fnd 258 169 = some (169, .iload 4, 2, 0, 0, 0, 0) := ceB_eq (by decide +kernel)
theorem f_258_171 : fnd 258 171 = some (171, .iconst 1, 1, 0, 0, 0, 0) := ceB_eq (by decide +kernel)
theorem f_258_172 : fnd 258 172 = some (172, .iadd, 1, 0, 0, 0, 0) := ceB_eq (by decide +kernel)
theorem f_258_173 : fnd 258 173 = some (173, .invokevirtual 361, 3, 241, 4, 10, 0) := ceB_eq (by decide +kernel)
theorem f_258_176 : fnd 258 176 = some (176, .iload 4, 2, 0, 0, 0, 0) := ceB_eq (by decide +kernel)
theorem f_258_178 : fnd 258 178 = some (178, .ireturn, 1, 0, 0, 0, 0) := ceB_eq (by decide +kernel)
theorem rk_258 : rkm 258 = 0 := by decide +kernel
theorem ml_258 : (mth 258).2.1 = 6 := by decide +kernel
set_option maxRecDepth 100000 in
theorem T_Z_loadNow (k0 i0 x1 x2 x3 : Int) (σ : ST) (Q : Option AV → ST → Prop) (h :
  wpM m_Z_freePage [.inr (.inr (40, k0, i0))] σ (asI fun r101 s101 =>
  wpM m_Z_ofCopy [.inr (.inr (40, k0, i0)), .inl x1, .inl 1] s101 (asI fun r102 s102 =>
  wpM m_Z_roomBy [.inr (.inr (40, k0, i0)), .inl r102] s102 (asI fun r103 s103 =>
  wpM m_Z_clearPage [.inr (.inr (40, k0, i0)), .inl r101] s103 (asV fun s104 =>
  wpM m_Z_ofCopy [.inr (.inr (40, k0, i0)), .inl x1, .inl 3] s104 (asI fun r105 s105 =>
  wpM m_Z_setPage [.inr (.inr (40, k0, i0)), .inl r101, .inl 0, .inl r105] s105 (asV fun s106 =>
  wpM m_Z_setPage [.inr (.inr (40, k0, i0)), .inl r101, .inl 1, .inl r103] s106 (asV fun s107 =>
  wpM m_Z_ofCopy [.inr (.inr (40, k0, i0)), .inl x1, .inl 2] s107 (asI fun r108 s108 =>
  wpM m_Z_setPage [.inr (.inr (40, k0, i0)), .inl r101, .inl 2, .inl r108] s108 (asV fun s109 =>
  wpM m_Z_ofCopy [.inr (.inr (40, k0, i0)), .inl x1, .inl 4] s109 (asI fun r110 s110 =>
  wpM m_Z_setPage [.inr (.inr (40, k0, i0)), .inl r101, .inl 3, .inl r110] s110 (asV fun s111 =>
  wpM m_Z_ofCopy [.inr (.inr (40, k0, i0)), .inl x1, .inl 5] s111 (asI fun r112 s112 =>
  wpM m_Z_setPage [.inr (.inr (40, k0, i0)), .inl r101, .inl 4, .inl r112] s112 (asV fun s113 =>
  wpM m_Z_ofCopy [.inr (.inr (40, k0, i0)), .inl x1, .inl 6] s113 (asI fun r114 s114 =>
  (((r114 ≠ 1 : Prop) →
    wp m_Z_loadNow (106, [some (.inr (.inr (40, k0, i0))), some (.inl x1), some (.inl x2), some (.inl x3), some (.inl r101), some (.inl r103)], [.inl 0, .inl 6, .inl r101, .inr (.inr (40, k0, i0))], s114) Q) ∧
  (¬ (r114 ≠ 1) →
    wp m_Z_loadNow (106, [some (.inr (.inr (40, k0, i0))), some (.inl x1), some (.inl x2), some (.inl x3), some (.inl r101), some (.inl r103)], [.inl 2, .inl 6, .inl r101, .inr (.inr (40, k0, i0))], s114) Q))))))))))))))))) :
  wpM m_Z_loadNow [.inr (.inr (40, k0, i0)), .inl x1, .inl x2, .inl x3] σ Q :=
 wpM_of ml_258 (L := [some (.inr (.inr (40, k0, i0))), some (.inl x1), some (.inl x2), some (.inl x3), none, none]) rfl
 (w_aload_n (p' := 1) f_258_0 rfl rfl
 (w_callV (p' := 4) f_258_1 rfl rfl rfl rfl rfl (r := []) rfl rfl (kI (.inl rk_197) fun r101 s101 h101 =>
 w_istore (p' := 6) f_258_4 (L' := [some (.inr (.inr (40, k0, i0))), some (.inl x1), some (.inl x2), some (.inl x3), some (.inl r101), none]) rfl rfl
 (w_aload_n (p' := 7) f_258_6 rfl rfl
 (w_aload_n (p' := 8) f_258_7 rfl rfl
 (w_iload_n (p' := 9) f_258_8 rfl rfl
 (w_iconst (p' := 10) f_258_9 rfl
 (w_callV (p' := 13) f_258_10 rfl rfl rfl rfl rfl (r := [.inr (.inr (40, k0, i0))]) rfl rfl (kI (.inl rk_226) fun r102 s102 h102 =>
 w_callV (p' := 16) f_258_13 rfl rfl rfl rfl rfl (r := []) rfl rfl (kI (.inl rk_230) fun r103 s103 h103 =>
 w_istore (p' := 18) f_258_16 (L' := [some (.inr (.inr (40, k0, i0))), some (.inl x1), some (.inl x2), some (.inl x3), some (.inl r101), some (.inl r103)]) rfl rfl
 (w_aload_n (p' := 19) f_258_18 rfl rfl
 (w_iload (p' := 21) f_258_19 rfl rfl
 (w_callV (p' := 24) f_258_21 rfl rfl rfl rfl rfl (r := []) rfl rfl (kV rk_191 fun s104 h104 =>
 w_aload_n (p' := 25) f_258_24 rfl rfl
 (w_iload (p' := 27) f_258_25 rfl rfl
 (w_iconst (p' := 28) f_258_27 rfl
 (w_aload_n (p' := 29) f_258_28 rfl rfl
 (w_iload_n (p' := 30) f_258_29 rfl rfl
 (w_iconst (p' := 31) f_258_30 rfl
 (w_callV (p' := 34) f_258_31 rfl rfl rfl rfl rfl (r := [.inl 0, .inl r101, .inr (.inr (40, k0, i0))]) rfl rfl (kI (.inl rk_226) fun r105 s105 h105 =>
 w_callV (p' := 37) f_258_34 rfl rfl rfl rfl rfl (r := []) rfl rfl (kV rk_190 fun s106 h106 =>
 w_aload_n (p' := 38) f_258_37 rfl rfl
 (w_iload (p' := 40) f_258_38 rfl rfl
 (w_iconst (p' := 41) f_258_40 rfl
 (w_iload (p' := 43) f_258_41 rfl rfl
 (w_callV (p' := 46) f_258_43 rfl rfl rfl rfl rfl (r := []) rfl rfl (kV rk_190 fun s107 h107 =>
 w_aload_n (p' := 47) f_258_46 rfl rfl
 (w_iload (p' := 49) f_258_47 rfl rfl
 (w_iconst (p' := 50) f_258_49 rfl
 (w_aload_n (p' := 51) f_258_50 rfl rfl
 (w_iload_n (p' := 52) f_258_51 rfl rfl
 (w_iconst (p' := 53) f_258_52 rfl
 (w_callV (p' := 56) f_258_53 rfl rfl rfl rfl rfl (r := [.inl 2, .inl r101, .inr (.inr (40, k0, i0))]) rfl rfl (kI (.inl rk_226) fun r108 s108 h108 =>
 w_callV (p' := 59) f_258_56 rfl rfl rfl rfl rfl (r := []) rfl rfl (kV rk_190 fun s109 h109 =>
 w_aload_n (p' := 60) f_258_59 rfl rfl
 (w_iload (p' := 62) f_258_60 rfl rfl
 (w_iconst (p' := 63) f_258_62 rfl
 (w_aload_n (p' := 64) f_258_63 rfl rfl
 (w_iload_n (p' := 65) f_258_64 rfl rfl
 (w_iconst (p' := 66) f_258_65 rfl
 (w_callV (p' := 69) f_258_66 rfl rfl rfl rfl rfl (r := [.inl 3, .inl r101, .inr (.inr (40, k0, i0))]) rfl rfl (kI (.inl rk_226) fun r110 s110 h110 =>
 w_callV (p' := 72) f_258_69 rfl rfl rfl rfl rfl (r := []) rfl rfl (kV rk_190 fun s111 h111 =>
 w_aload_n (p' := 73) f_258_72 rfl rfl
 (w_iload (p' := 75) f_258_73 rfl rfl
 (w_iconst (p' := 76) f_258_75 rfl
 (w_aload_n (p' := 77) f_258_76 rfl rfl
 (w_iload_n (p' := 78) f_258_77 rfl rfl
 (w_iconst (p' := 79) f_258_78 rfl
 (w_callV (p' := 82) f_258_79 rfl rfl rfl rfl rfl (r := [.inl 4, .inl r101, .inr (.inr (40, k0, i0))]) rfl rfl (kI (.inl rk_226) fun r112 s112 h112 =>
 w_callV (p' := 85) f_258_82 rfl rfl rfl rfl rfl (r := []) rfl rfl (kV rk_190 fun s113 h113 =>
 w_aload_n (p' := 86) f_258_85 rfl rfl
 (w_iload (p' := 88) f_258_86 rfl rfl
 (w_bipush (p' := 90) f_258_88 rfl
 (w_aload_n (p' := 91) f_258_90 rfl rfl
 (w_iload_n (p' := 92) f_258_91 rfl rfl
 (w_bipush (p' := 94) f_258_92 rfl
 (w_callV (p' := 97) f_258_94 rfl rfl rfl rfl rfl (r := [.inl 6, .inl r101, .inr (.inr (40, k0, i0))]) rfl rfl (kI (.inl rk_226) fun r114 s114 h114 =>
 w_iconst (p' := 98) f_258_97 rfl
 (w_icmp (p' := 105) (q' := 101) f_258_98 rfl rfl
 (fun c115 => w_iconst (p' := 106) f_258_105 rfl
 ((h114.1 c115)))
 (fun c115 => w_iconst (p' := 102) f_258_101 rfl
 (w_goto (p' := 106) f_258_102 rfl
 ((h114.2 c115)))))) h113))))))) h112) h111))))))) h110) h109))))))) h108) h107))))))) h106))))) h105) h104))))))) h103)))) h102) h101)))))) h))
set_option maxRecDepth 100000 in
theorem T_Z_loadNow_106 (k0 i0 x1 x2 x3 x4 x5 t0 t1 t2 kt3 it3 : Int) (σ : ST) (Q : Option AV → ST → Prop) (h :
  wpM m_Z_setPage [.inr (.inr (40, kt3, it3)), .inl t2, .inl t1, .inl t0] σ (asV fun s101 =>
  wpM m_Z_setPage [.inr (.inr (40, k0, i0)), .inl x2, .inl (wr (7 + x3)), .inl 0] s101 (asV fun s102 =>
  wpM m_Z_ofCopy [.inr (.inr (40, k0, i0)), .inl x1, .inl 3] s102 (asI fun r103 s103 =>
  (((r103 ≠ 1 : Prop) →
    wpM m_Z_ofCopy [.inr (.inr (40, k0, i0)), .inl x1, .inl 2] s103 (asI fun r104 s104 =>
    wpM m_Z_setRoom [.inr (.inr (40, k0, i0)), .inl x5, .inl (wr (7 + r104)), .inl 1] s104 (asV fun s105 =>
    wpM m_Z_ofCopy [.inr (.inr (40, k0, i0)), .inl x1, .inl 2] s105 (asI fun r106 s106 =>
    wpM m_Z_setRoom [.inr (.inr (40, k0, i0)), .inl x5, .inl (wr (15 + r106)), .inl (wr (x4 + 1))] s106 (asV fun s107 =>
    Q (some (.inl x4)) s107))))) ∧
  (¬ (r103 ≠ 1) →
    wpM m_Z_setRoom [.inr (.inr (40, k0, i0)), .inl x5, .inl 6, .inl 0] s103 (asV fun s108 =>
    Q (some (.inl x4)) s108))))))) :
  wp m_Z_loadNow (106, [some (.inr (.inr (40, k0, i0))), some (.inl x1), some (.inl x2), some (.inl x3), some (.inl x4), some (.inl x5)], [.inl t0, .inl t1, .inl t2, .inr (.inr (40, kt3, it3))], σ) Q :=
 w_callV (p' := 109) f_258_106 rfl rfl rfl rfl rfl (r := []) rfl rfl (kV rk_190 fun s101 h101 =>
 w_aload_n (p' := 110) f_258_109 rfl rfl
 (w_iload_n (p' := 111) f_258_110 rfl rfl
 (w_bipush (p' := 113) f_258_111 rfl
 (w_iload_n (p' := 114) f_258_113 rfl rfl
 (w_iadd (p' := 115) f_258_114 rfl
 (w_iconst (p' := 116) f_258_115 rfl
 (w_callV (p' := 119) f_258_116 rfl rfl rfl rfl rfl (r := []) rfl rfl (kV rk_190 fun s102 h102 =>
 w_aload_n (p' := 120) f_258_119 rfl rfl
 (w_iload_n (p' := 121) f_258_120 rfl rfl
 (w_iconst (p' := 122) f_258_121 rfl
 (w_callV (p' := 125) f_258_122 rfl rfl rfl rfl rfl (r := []) rfl rfl (kI (.inl rk_226) fun r103 s103 h103 =>
 w_iconst (p' := 126) f_258_125 rfl
 (w_icmp (p' := 141) (q' := 129) f_258_126 rfl rfl
 (fun c109 => w_aload_n (p' := 142) f_258_141 rfl rfl
 (w_iload (p' := 144) f_258_142 rfl rfl
 (w_bipush (p' := 146) f_258_144 rfl
 (w_aload_n (p' := 147) f_258_146 rfl rfl
 (w_iload_n (p' := 148) f_258_147 rfl rfl
 (w_iconst (p' := 149) f_258_148 rfl
 (w_callV (p' := 152) f_258_149 rfl rfl rfl rfl rfl (r := [.inl 7, .inl x5, .inr (.inr (40, k0, i0))]) rfl rfl (kI (.inl rk_226) fun r104 s104 h104 =>
 w_iadd (p' := 153) f_258_152 rfl
 (w_iconst (p' := 154) f_258_153 rfl
 (w_callV (p' := 157) f_258_154 rfl rfl rfl rfl rfl (r := []) rfl rfl (kV rk_241 fun s105 h105 =>
 w_aload_n (p' := 158) f_258_157 rfl rfl
 (w_iload (p' := 160) f_258_158 rfl rfl
 (w_bipush (p' := 162) f_258_160 rfl
 (w_aload_n (p' := 163) f_258_162 rfl rfl
 (w_iload_n (p' := 164) f_258_163 rfl rfl
 (w_iconst (p' := 165) f_258_164 rfl
 (w_callV (p' := 168) f_258_165 rfl rfl rfl rfl rfl (r := [.inl 15, .inl x5, .inr (.inr (40, k0, i0))]) rfl rfl (kI (.inl rk_226) fun r106 s106 h106 =>
 w_iadd (p' := 169) f_258_168 rfl
 (w_iload (p' := 171) f_258_169 rfl rfl
 (w_iconst (p' := 172) f_258_171 rfl
 (w_iadd (p' := 173) f_258_172 rfl
 (w_callV (p' := 176) f_258_173 rfl rfl rfl rfl rfl (r := []) rfl rfl (kV rk_241 fun s107 h107 =>
 w_iload (p' := 178) f_258_176 rfl rfl
 (w_iret f_258_178 rk_258 h107)) h106))))) h105))))))) h104))) (h103.1 c109))))))))
 (fun c109 => w_aload_n (p' := 130) f_258_129 rfl rfl
 (w_iload (p' := 132) f_258_130 rfl rfl
 (w_bipush (p' := 134) f_258_132 rfl
 (w_iconst (p' := 135) f_258_134 rfl
 (w_callV (p' := 138) f_258_135 rfl rfl rfl rfl rfl (r := []) rfl rfl (kV rk_241 fun s108 h108 =>
 w_goto (p' := 176) f_258_138 rfl
 (w_iload (p' := 178) f_258_176 rfl rfl
 (w_iret f_258_178 rk_258 h108))) (h103.2 c109)))))))) h102)))) h101))))))) h
/-! ClosedRoomsModel.removeNow(I)I -/
theorem f_259_0 : fnd 259 0 = some (0, .aload_n 0, 1, 0, 0, 0, 0) := ceB_eq (by decide +kernel)
theorem f_259_1 : fnd 259 1 = some (1, .iload_n 1, 1, 0, 0, 0, 0) := ceB_eq (by decide +kernel)
theorem f_259_2 : fnd 259 2 = some (2, .iconst 0, 1, 0, 0, 0, 0) := ceB_eq (by decide +kernel)
theorem f_259_3 : fnd 259 3 = some (3, .invokevirtual 206, 3, 196, 3, 10, 0) := ceB_eq (by decide +kernel)
theorem f_259_6 : fnd 259 6 = some (6, .istore_n 2, 1, 0, 0, 0, 0) := ceB_eq (by decide +kernel)
theorem f_259_7 : fnd 259 7 = some (7, .aload_n 0, 1, 0, 0, 0, 0) := ceB_eq (by decide +kernel)
theorem f_259_8 : fnd 259 8 = some (8, .iload_n 1, 1, 0, 0, 0, 0) := ceB_eq (by decide +kernel)
theorem f_259_9 : fnd 259 9 = some (9, .iconst 1, 1, 0, 0, 0, 0) := ceB_eq (by decide +kernel)
theorem f_259_10 : fnd 259 10 = some (10, .invokevirtual 206, 3, 196, 3, 10, 0) := ceB_eq (by decide +kernel)
theorem f_259_13 : fnd 259 13 = some (13, .istore_n 3, 1, 0, 0, 0, 0) := ceB_eq (by decide +kernel)
theorem f_259_14 : fnd 259 14 = some (14, .iload_n 2, 1, 0, 0, 0, 0) := ceB_eq (by decide +kernel)
theorem f_259_15 : fnd 259 15 = some (15, .iconst 1, 1, 0, 0, 0, 0) := ceB_eq (by decide +kernel)
theorem f_259_16 : fnd 259 16 = some (16, .if_icmp .ne 13, 3, 0, 0, 0, 0) := ceB_eq (by decide +kernel)
theorem f_259_19 : fnd 259 19 = some (19, .aload_n 0, 1, 0, 0, 0, 0) := ceB_eq (by decide +kernel)
theorem f_259_20 : fnd 259 20 = some (20, .iload_n 3, 1, 0, 0, 0, 0) := ceB_eq (by decide +kernel)
theorem f_259_21 : fnd 259 21 = some (21, .iconst 0, 1, 0, 0, 0, 0) := ceB_eq (by decide +kernel)
theorem f_259_22 : fnd 259 22 = some (22, .iconst 0, 1, 0, 0, 0, 0) := ceB_eq (by decide +kernel)
theorem f_259_23 : fnd 259 23 = some (23, .invokevirtual 361, 3, 241, 4, 10, 0) := ceB_eq (by decide +kernel)
theorem f_259_26 : fnd 259 26 = some (26, .goto 23, 3, 0, 0, 0, 0) := ceB_eq (by decide +kernel)
theorem f_259_29 : fnd 259 29 = some (29, .iload_n 2, 1, 0, 0, 0, 0) := ceB_eq (by decide +kernel)
theorem f_259_30 : fnd 259 30 = some (30, .iconst 4, 1, 0, 0, 0, 0) := ceB_eq (by decide +kernel)
theorem f_259_31 : fnd 259 31 = some (31, .if_icmp .eq 18, 3, 0, 0, 0, 0) := ceB_eq (by decide +kernel)
theorem f_259_34 : fnd 259 34 = some (34, .aload_n 0, 1, 0, 0, 0, 0) := ceB_eq (by decide +kernel)
theorem f_259_35 : fnd 259 35 = some (35, .iload_n 3, 1, 0, 0, 0, 0) := ceB_eq (by decide +kernel)
theorem f_259_36 : fnd 259 36 = some (36, .bipush 7, 2, 0, 0, 0, 0) := ceB_eq (by decide +kernel)
theorem f_259_38 : fnd 259 38 = some (38, .aload_n 0, 1, 0, 0, 0, 0) := ceB_eq (by decide +kernel)
theorem f_259_39 : fnd 259 39 = some (39, .iload_n 1, 1, 0, 0, 0, 0) := ceB_eq (by decide +kernel)
theorem f_259_40 : fnd 259 40 = some (40, .iconst 2, 1, 0, 0, 0, 0) := ceB_eq (by decide +kernel)
theorem f_259_41 : fnd 259 41 = some (41, .invokevirtual 206, 3, 196, 3, 10, 0) := ceB_eq (by decide +kernel)
theorem f_259_44 : fnd 259 44 = some (44, .iadd, 1, 0, 0, 0, 0) := ceB_eq (by decide +kernel)
theorem f_259_45 : fnd 259 45 = some (45, .iconst 0, 1, 0, 0, 0, 0) := ceB_eq (by decide +kernel)
theorem f_259_46 : fnd 259 46 = some (46, .invokevirtual 361, 3, 241, 4, 10, 0) := ceB_eq (by decide +kernel)
theorem f_259_49 : fnd 259 49 = some (49, .aload_n 0, 1, 0, 0, 0, 0) := ceB_eq (by decide +kernel)
theorem f_259_50 : fnd 259 50 = some (50, .iload_n 1, 1, 0, 0, 0, 0) := ceB_eq (by decide +kernel)
theorem f_259_51 : fnd 259 51 = some (51, .invokevirtual 222, 3, 191, 2, 10, 0) := ceB_eq (by decide +kernel)
theorem f_259_54 : fnd 259 54 = some (54, .iload_n 2, 1, 0, 0, 0, 0) := ceB_eq (by decide +kernel)
theorem f_259_55 : fnd 259 55 = some (55, .ireturn, 1, 0, 0, 0, 0) := ceB_eq (by decide +kernel)
theorem rk_259 : rkm 259 = 0 := by decide +kernel
theorem ml_259 : (mth 259).2.1 = 4 := by decide +kernel
set_option maxRecDepth 100000 in
theorem T_Z_removeNow (k0 i0 x1 : Int) (σ : ST) (Q : Option AV → ST → Prop) (h :
  wpM m_Z_ofPage [.inr (.inr (40, k0, i0)), .inl x1, .inl 0] σ (asI fun r101 s101 =>
  wpM m_Z_ofPage [.inr (.inr (40, k0, i0)), .inl x1, .inl 1] s101 (asI fun r102 s102 =>
  (((r101 ≠ 1 : Prop) →
    (((r101 = 4 : Prop) →
      wpM m_Z_clearPage [.inr (.inr (40, k0, i0)), .inl x1] s102 (asV fun s103 =>
      Q (some (.inl r101)) s103)) ∧
    (¬ (r101 = 4) →
      wpM m_Z_ofPage [.inr (.inr (40, k0, i0)), .inl x1, .inl 2] s102 (asI fun r104 s104 =>
      wpM m_Z_setRoom [.inr (.inr (40, k0, i0)), .inl r102, .inl (wr (7 + r104)), .inl 0] s104 (asV fun s105 =>
      wpM m_Z_clearPage [.inr (.inr (40, k0, i0)), .inl x1] s105 (asV fun s106 =>
      Q (some (.inl r101)) s106)))))) ∧
  (¬ (r101 ≠ 1) →
    wpM m_Z_setRoom [.inr (.inr (40, k0, i0)), .inl r102, .inl 0, .inl 0] s102 (asV fun s108 =>
    wpM m_Z_clearPage [.inr (.inr (40, k0, i0)), .inl x1] s108 (asV fun s109 =>
    Q (some (.inl r101)) s109))))))) :
  wpM m_Z_removeNow [.inr (.inr (40, k0, i0)), .inl x1] σ Q :=
 wpM_of ml_259 (L := [some (.inr (.inr (40, k0, i0))), some (.inl x1), none, none]) rfl
 (w_aload_n (p' := 1) f_259_0 rfl rfl
 (w_iload_n (p' := 2) f_259_1 rfl rfl
 (w_iconst (p' := 3) f_259_2 rfl
 (w_callV (p' := 6) f_259_3 rfl rfl rfl rfl rfl (r := []) rfl rfl (kI (.inl rk_196) fun r101 s101 h101 =>
 w_istore_n (p' := 7) f_259_6 (L' := [some (.inr (.inr (40, k0, i0))), some (.inl x1), some (.inl r101), none]) rfl rfl
 (w_aload_n (p' := 8) f_259_7 rfl rfl
 (w_iload_n (p' := 9) f_259_8 rfl rfl
 (w_iconst (p' := 10) f_259_9 rfl
 (w_callV (p' := 13) f_259_10 rfl rfl rfl rfl rfl (r := []) rfl rfl (kI (.inl rk_196) fun r102 s102 h102 =>
 w_istore_n (p' := 14) f_259_13 (L' := [some (.inr (.inr (40, k0, i0))), some (.inl x1), some (.inl r101), some (.inl r102)]) rfl rfl
 (w_iload_n (p' := 15) f_259_14 rfl rfl
 (w_iconst (p' := 16) f_259_15 rfl
 (w_icmp (p' := 29) (q' := 19) f_259_16 rfl rfl
 (fun c110 => w_iload_n (p' := 30) f_259_29 rfl rfl
 (w_iconst (p' := 31) f_259_30 rfl
 (w_icmp (p' := 49) (q' := 34) f_259_31 rfl rfl
 (fun c107 => w_aload_n (p' := 50) f_259_49 rfl rfl
 (w_iload_n (p' := 51) f_259_50 rfl rfl
 (w_callV (p' := 54) f_259_51 rfl rfl rfl rfl rfl (r := []) rfl rfl (kV rk_191 fun s103 h103 =>
 w_iload_n (p' := 55) f_259_54 rfl rfl
 (w_iret f_259_55 rk_259 h103)) ((h102.1 c110).1 c107))))
 (fun c107 => w_aload_n (p' := 35) f_259_34 rfl rfl
 (w_iload_n (p' := 36) f_259_35 rfl rfl
 (w_bipush (p' := 38) f_259_36 rfl
 (w_aload_n (p' := 39) f_259_38 rfl rfl
 (w_iload_n (p' := 40) f_259_39 rfl rfl
 (w_iconst (p' := 41) f_259_40 rfl
 (w_callV (p' := 44) f_259_41 rfl rfl rfl rfl rfl (r := [.inl 7, .inl r102, .inr (.inr (40, k0, i0))]) rfl rfl (kI (.inl rk_196) fun r104 s104 h104 =>
 w_iadd (p' := 45) f_259_44 rfl
 (w_iconst (p' := 46) f_259_45 rfl
 (w_callV (p' := 49) f_259_46 rfl rfl rfl rfl rfl (r := []) rfl rfl (kV rk_241 fun s105 h105 =>
 w_aload_n (p' := 50) f_259_49 rfl rfl
 (w_iload_n (p' := 51) f_259_50 rfl rfl
 (w_callV (p' := 54) f_259_51 rfl rfl rfl rfl rfl (r := []) rfl rfl (kV rk_191 fun s106 h106 =>
 w_iload_n (p' := 55) f_259_54 rfl rfl
 (w_iret f_259_55 rk_259 h106)) h105))) h104))) ((h102.1 c110).2 c107)))))))))))
 (fun c110 => w_aload_n (p' := 20) f_259_19 rfl rfl
 (w_iload_n (p' := 21) f_259_20 rfl rfl
 (w_iconst (p' := 22) f_259_21 rfl
 (w_iconst (p' := 23) f_259_22 rfl
 (w_callV (p' := 26) f_259_23 rfl rfl rfl rfl rfl (r := []) rfl rfl (kV rk_241 fun s108 h108 =>
 w_goto (p' := 49) f_259_26 rfl
 (w_aload_n (p' := 50) f_259_49 rfl rfl
 (w_iload_n (p' := 51) f_259_50 rfl rfl
 (w_callV (p' := 54) f_259_51 rfl rfl rfl rfl rfl (r := []) rfl rfl (kV rk_191 fun s109 h109 =>
 w_iload_n (p' := 55) f_259_54 rfl rfl
 (w_iret f_259_55 rk_259 h109)) h108)))) (h102.2 c110)))))))))) h101))))) h))))
/-! ClosedRoomsModel.mapNow(III)I -/
theorem f_260_0 : fnd 260 0 = some (0, .aload_n 0, 1, 0, 0, 0, 0) := ceB_eq (by decide +kernel)
theorem f_260_1 : fnd 260 1 = some (1, .iload_n 1, 1, 0, 0, 0, 0) := ceB_eq (by decide +kernel)
theorem f_260_2 : fnd 260 2 = some (2, .iload_n 2, 1, 0, 0, 0, 0) := ceB_eq (by decide +kernel)
theorem f_260_3 : fnd 260 3 = some (3, .invokevirtual 267, 3, 210, 3, 10, 0) := ceB_eq (by decide +kernel)
theorem f_260_6 : fnd 260 6 = some (6, .istore 4, 2, 0, 0, 0, 0) := ceB_eq (by decide +kernel)
theorem f_260_8 : fnd 260 8 = some (8, .aload_n 0, 1, 0, 0, 0, 0) := ceB_eq (by decide +kernel)
theorem f_260_9 : fnd 260 9 = some (9, .iload_n 1, 1, 0, 0, 0, 0) := ceB_eq (by decide +kernel)
theorem f_260_10 : fnd 260 10 = some (10, .bipush 15, 2, 0, 0, 0, 0) := ceB_eq (by decide +kernel)
theorem f_260_12 : fnd 260 12 = some (12, .iload_n 2, 1, 0, 0, 0, 0) := ceB_eq (by decide +kernel)
theorem f_260_13 : fnd 260 13 = some (13, .iadd, 1, 0, 0, 0, 0) := ceB_eq (by decide +kernel)
theorem f_260_14 : fnd 260 14 = some (14, .iload_n 3, 1, 0, 0, 0, 0) := ceB_eq (by decide +kernel)
theorem f_260_15 : fnd 260 15 = some (15, .iconst 1, 1, 0, 0, 0, 0) := ceB_eq (by decide +kernel)
theorem f_260_16 : fnd 260 16 = some (16, .iadd, 1, 0, 0, 0, 0) := ceB_eq (by decide +kernel)
theorem f_260_17 : fnd 260 17 = some (17, .invokevirtual 361, 3, 241, 4, 10, 0) := ceB_eq (by decide +kernel)
theorem f_260_20 : fnd 260 20 = some (20, .iload 4, 2, 0, 0, 0, 0) := ceB_eq (by decide +kernel)
theorem f_260_22 : fnd 260 22 = some (22, .ireturn, 1, 0, 0, 0, 0) := ceB_eq (by decide +kernel)
theorem rk_260 : rkm 260 = 0 := by decide +kernel
theorem ml_260 : (mth 260).2.1 = 5 := by decide +kernel
set_option maxRecDepth 100000 in
theorem T_Z_mapNow (k0 i0 x1 x2 x3 : Int) (σ : ST) (Q : Option AV → ST → Prop) (h :
  wpM m_Z_mapOf [.inr (.inr (40, k0, i0)), .inl x1, .inl x2] σ (asI fun r101 s101 =>
  wpM m_Z_setRoom [.inr (.inr (40, k0, i0)), .inl x1, .inl (wr (15 + x2)), .inl (wr (x3 + 1))] s101 (asV fun s102 =>
  Q (some (.inl r101)) s102))) :
  wpM m_Z_mapNow [.inr (.inr (40, k0, i0)), .inl x1, .inl x2, .inl x3] σ Q :=
 wpM_of ml_260 (L := [some (.inr (.inr (40, k0, i0))), some (.inl x1), some (.inl x2), some (.inl x3), none]) rfl
 (w_aload_n (p' := 1) f_260_0 rfl rfl
 (w_iload_n (p' := 2) f_260_1 rfl rfl
 (w_iload_n (p' := 3) f_260_2 rfl rfl
 (w_callV (p' := 6) f_260_3 rfl rfl rfl rfl rfl (r := []) rfl rfl (kI (.inl rk_210) fun r101 s101 h101 =>
 w_istore (p' := 8) f_260_6 (L' := [some (.inr (.inr (40, k0, i0))), some (.inl x1), some (.inl x2), some (.inl x3), some (.inl r101)]) rfl rfl
 (w_aload_n (p' := 9) f_260_8 rfl rfl
 (w_iload_n (p' := 10) f_260_9 rfl rfl
 (w_bipush (p' := 12) f_260_10 rfl
 (w_iload_n (p' := 13) f_260_12 rfl rfl
 (w_iadd (p' := 14) f_260_13 rfl
 (w_iload_n (p' := 15) f_260_14 rfl rfl
 (w_iconst (p' := 16) f_260_15 rfl
 (w_iadd (p' := 17) f_260_16 rfl
 (w_callV (p' := 20) f_260_17 rfl rfl rfl rfl rfl (r := []) rfl rfl (kV rk_241 fun s102 h102 =>
 w_iload (p' := 22) f_260_20 rfl rfl
 (w_iret f_260_22 rk_260 h102)) h101)))))))))) h))))
/-! ClosedRoomsModel.doubleNow(I)I -/
theorem f_261_0 : fnd 261 0 = some (0, .aload_n 0, 1, 0, 0, 0, 0) := ceB_eq (by decide +kernel)
theorem f_261_1 : fnd 261 1 = some (1, .invokevirtual 295, 3, 227, 1, 10, 0) := ceB_eq (by decide +kernel)
theorem f_261_4 : fnd 261 4 = some (4, .istore_n 2, 1, 0, 0, 0, 0) := ceB_eq (by decide +kernel)
theorem f_261_5 : fnd 261 5 = some (5, .iconst 0, 1, 0, 0, 0, 0) := ceB_eq (by decide +kernel)
theorem f_261_6 : fnd 261 6 = some (6, .istore_n 3, 1, 0, 0, 0, 0) := ceB_eq (by decide +kernel)
theorem f_261_7 : fnd 261 7 = some (7, .iload_n 3, 1, 0, 0, 0, 0) := ceB_eq (by decide +kernel)
theorem f_261_8 : fnd 261 8 = some (8, .bipush 9, 2, 0, 0, 0, 0) := ceB_eq (by decide +kernel)
theorem f_261_10 : fnd 261 10 = some (10, .if_icmp .ge 21, 3, 0, 0, 0, 0) := ceB_eq (by decide +kernel)
theorem f_261_13 : fnd 261 13 = some (13, .aload_n 0, 1, 0, 0, 0, 0) := ceB_eq (by decide +kernel)
theorem f_261_14 : fnd 261 14 = some (14, .iload_n 2, 1, 0, 0, 0, 0) := ceB_eq (by decide +kernel)
theorem f_261_15 : fnd 261 15 = some (15, .iload_n 3, 1, 0, 0, 0, 0) := ceB_eq (by decide +kernel)
theorem f_261_16 : fnd 261 16 = some (16, .aload_n 0, 1, 0, 0, 0, 0) := ceB_eq (by decide +kernel)
theorem f_261_17 : fnd 261 17 = some (17, .iload_n 1, 1, 0, 0, 0, 0) := ceB_eq (by decide +kernel)
theorem f_261_18 : fnd 261 18 = some (18, .iload_n 3, 1, 0, 0, 0, 0) := ceB_eq (by decide +kernel)
theorem f_261_19 : fnd 261 19 = some (19, .invokevirtual 215, 3, 226, 3, 10, 0) := ceB_eq (by decide +kernel)
theorem f_261_22 : fnd 261 22 = some (22, .invokevirtual 373, 3, 256, 4, 10, 0) := ceB_eq (by decide +kernel)
theorem f_261_25 : fnd 261 25 = some (25, .iinc 3 1, 3, 0, 0, 0, 0) := ceB_eq (by decide +kernel)
theorem f_261_28 : fnd 261 28 = some (28, .goto (-21), 3, 0, 0, 0, 0) := ceB_eq (by decide +kernel)
theorem f_261_31 : fnd 261 31 = some (31, .iload_n 2, 1, 0, 0, 0, 0) := ceB_eq (by decide +kernel)
theorem f_261_32 : fnd 261 32 = some (32, .ireturn, 1, 0, 0, 0, 0) := ceB_eq (by decide +kernel)
theorem rk_261 : rkm 261 = 0 := by decide +kernel
theorem ml_261 : (mth 261).2.1 = 4 := by decide +kernel
set_option maxRecDepth 100000 in
theorem T_Z_doubleNow (k0 i0 x1 : Int) (σ : ST) (Q : Option AV → ST → Prop) (h :
  wpM m_Z_freePlace [.inr (.inr (40, k0, i0))] σ (asI fun r101 s101 =>
  wp m_Z_doubleNow (7, [some (.inr (.inr (40, k0, i0))), some (.inl x1), some (.inl r101), some (.inl 0)], [], s101) Q)) :
  wpM m_Z_doubleNow [.inr (.inr (40, k0, i0)), .inl x1] σ Q :=
 wpM_of ml_261 (L := [some (.inr (.inr (40, k0, i0))), some (.inl x1), none, none]) rfl
 (w_aload_n (p' := 1) f_261_0 rfl rfl
 (w_callV (p' := 4) f_261_1 rfl rfl rfl rfl rfl (r := []) rfl rfl (kI (.inl rk_227) fun r101 s101 h101 =>
 w_istore_n (p' := 5) f_261_4 (L' := [some (.inr (.inr (40, k0, i0))), some (.inl x1), some (.inl r101), none]) rfl rfl
 (w_iconst (p' := 6) f_261_5 rfl
 (w_istore_n (p' := 7) f_261_6 (L' := [some (.inr (.inr (40, k0, i0))), some (.inl x1), some (.inl r101), some (.inl 0)]) rfl rfl
 (h101)))) h))
set_option maxRecDepth 100000 in
theorem T_Z_doubleNow_7 (k0 i0 x1 x2 x3 : Int) (σ : ST) (Q : Option AV → ST → Prop) (h :
  (((9 ≤ x3 : Prop) →
    Q (some (.inl x2)) σ) ∧
  (¬ (9 ≤ x3) →
    wpM m_Z_ofCopy [.inr (.inr (40, k0, i0)), .inl x1, .inl x3] σ (asI fun r101 s101 =>
    wpM m_Z_setCopy [.inr (.inr (40, k0, i0)), .inl x2, .inl x3, .inl r101] s101 (asV fun s102 =>
    wp m_Z_doubleNow (7, [some (.inr (.inr (40, k0, i0))), some (.inl x1), some (.inl x2), some (.inl (wr (x3 + 1)))], [], s102) Q))))) :
  wp m_Z_doubleNow (7, [some (.inr (.inr (40, k0, i0))), some (.inl x1), some (.inl x2), some (.inl x3)], [], σ) Q :=
 w_iload_n (p' := 8) f_261_7 rfl rfl
 (w_bipush (p' := 10) f_261_8 rfl
 (w_icmp (p' := 31) (q' := 13) f_261_10 rfl rfl
 (fun c103 => w_iload_n (p' := 32) f_261_31 rfl rfl
 (w_iret f_261_32 rk_261 (h.1 c103)))
 (fun c103 => w_aload_n (p' := 14) f_261_13 rfl rfl
 (w_iload_n (p' := 15) f_261_14 rfl rfl
 (w_iload_n (p' := 16) f_261_15 rfl rfl
 (w_aload_n (p' := 17) f_261_16 rfl rfl
 (w_iload_n (p' := 18) f_261_17 rfl rfl
 (w_iload_n (p' := 19) f_261_18 rfl rfl
 (w_callV (p' := 22) f_261_19 rfl rfl rfl rfl rfl (r := [.inl x3, .inl x2, .inr (.inr (40, k0, i0))]) rfl rfl (kI (.inl rk_226) fun r101 s101 h101 =>
 w_callV (p' := 25) f_261_22 rfl rfl rfl rfl rfl (r := []) rfl rfl (kV rk_256 fun s102 h102 =>
 w_iinc (p' := 28) f_261_25 rfl (L' := [some (.inr (.inr (40, k0, i0))), some (.inl x1), some (.inl x2), some (.inl (wr (x3 + 1)))]) rfl rfl
 (w_goto (p' := 7) f_261_28 rfl
 (h102))) h101) (h.2 c103))))))))))
/-! ClosedRoomsModel.changeNow(II)I -/
theorem f_262_0 : fnd 262 0 = some (0, .aload_n 0, 1, 0, 0, 0, 0) := ceB_eq (by decide +kernel)
theorem f_262_1 : fnd 262 1 = some (1, .iload_n 1, 1, 0, 0, 0, 0) := ceB_eq (by decide +kernel)
theorem f_262_2 : fnd 262 2 = some (2, .iconst 5, 1, 0, 0, 0, 0) := ceB_eq (by decide +kernel)
theorem f_262_3 : fnd 262 3 = some (3, .invokevirtual 215, 3, 226, 3, 10, 0) := ceB_eq (by decide +kernel)
theorem f_262_6 : fnd 262 6 = some (6, .istore_n 3, 1, 0, 0, 0, 0) := ceB_eq (by decide +kernel)
theorem f_262_7 : fnd 262 7 = some (7, .aload_n 0, 1, 0, 0, 0, 0) := ceB_eq (by decide +kernel)
theorem f_262_8 : fnd 262 8 = some (8, .iload_n 1, 1, 0, 0, 0, 0) := ceB_eq (by decide +kernel)
theorem f_262_9 : fnd 262 9 = some (9, .iconst 5, 1, 0, 0, 0, 0) := ceB_eq (by decide +kernel)
theorem f_262_10 : fnd 262 10 = some (10, .iload_n 2, 1, 0, 0, 0, 0) := ceB_eq (by decide +kernel)
theorem f_262_11 : fnd 262 11 = some (11, .invokevirtual 373, 3, 256, 4, 10, 0) := ceB_eq (by decide +kernel)
theorem f_262_14 : fnd 262 14 = some (14, .aload_n 0, 1, 0, 0, 0, 0) := ceB_eq (by decide +kernel)
theorem f_262_15 : fnd 262 15 = some (15, .iload_n 1, 1, 0, 0, 0, 0) := ceB_eq (by decide +kernel)
theorem f_262_16 : fnd 262 16 = some (16, .bipush 8, 2, 0, 0, 0, 0) := ceB_eq (by decide +kernel)
theorem f_262_18 : fnd 262 18 = some (18, .iconst 1, 1, 0, 0, 0, 0) := ceB_eq (by decide +kernel)
theorem f_262_19 : fnd 262 19 = some (19, .invokevirtual 373, 3, 256, 4, 10, 0) := ceB_eq (by decide +kernel)
theorem f_262_22 : fnd 262 22 = some (22, .iload_n 3, 1, 0, 0, 0, 0) := ceB_eq (by decide +kernel)
theorem f_262_23 : fnd 262 23 = some (23, .ireturn, 1, 0, 0, 0, 0) := ceB_eq (by decide +kernel)
theorem rk_262 : rkm 262 = 0 := by decide +kernel
theorem ml_262 : (mth 262).2.1 = 4 := by decide +kernel
set_option maxRecDepth 100000 in
theorem T_Z_changeNow (k0 i0 x1 x2 : Int) (σ : ST) (Q : Option AV → ST → Prop) (h :
  wpM m_Z_ofCopy [.inr (.inr (40, k0, i0)), .inl x1, .inl 5] σ (asI fun r101 s101 =>
  wpM m_Z_setCopy [.inr (.inr (40, k0, i0)), .inl x1, .inl 5, .inl x2] s101 (asV fun s102 =>
  wpM m_Z_setCopy [.inr (.inr (40, k0, i0)), .inl x1, .inl 8, .inl 1] s102 (asV fun s103 =>
  Q (some (.inl r101)) s103)))) :
  wpM m_Z_changeNow [.inr (.inr (40, k0, i0)), .inl x1, .inl x2] σ Q :=
 wpM_of ml_262 (L := [some (.inr (.inr (40, k0, i0))), some (.inl x1), some (.inl x2), none]) rfl
 (w_aload_n (p' := 1) f_262_0 rfl rfl
 (w_iload_n (p' := 2) f_262_1 rfl rfl
 (w_iconst (p' := 3) f_262_2 rfl
 (w_callV (p' := 6) f_262_3 rfl rfl rfl rfl rfl (r := []) rfl rfl (kI (.inl rk_226) fun r101 s101 h101 =>
 w_istore_n (p' := 7) f_262_6 (L' := [some (.inr (.inr (40, k0, i0))), some (.inl x1), some (.inl x2), some (.inl r101)]) rfl rfl
 (w_aload_n (p' := 8) f_262_7 rfl rfl
 (w_iload_n (p' := 9) f_262_8 rfl rfl
 (w_iconst (p' := 10) f_262_9 rfl
 (w_iload_n (p' := 11) f_262_10 rfl rfl
 (w_callV (p' := 14) f_262_11 rfl rfl rfl rfl rfl (r := []) rfl rfl (kV rk_256 fun s102 h102 =>
 w_aload_n (p' := 15) f_262_14 rfl rfl
 (w_iload_n (p' := 16) f_262_15 rfl rfl
 (w_bipush (p' := 18) f_262_16 rfl
 (w_iconst (p' := 19) f_262_18 rfl
 (w_callV (p' := 22) f_262_19 rfl rfl rfl rfl rfl (r := []) rfl rfl (kV rk_256 fun s103 h103 =>
 w_iload_n (p' := 23) f_262_22 rfl rfl
 (w_iret f_262_23 rk_262 h103)) h102))))) h101)))))) h))))
/-! ClosedRoomsModel.dropNow(I)I -/
theorem f_263_0 : fnd 263 0 = some (0, .aload_n 0, 1, 0, 0, 0, 0) := ceB_eq (by decide +kernel)
theorem f_263_1 : fnd 263 1 = some (1, .iload_n 1, 1, 0, 0, 0, 0) := ceB_eq (by decide +kernel)
theorem f_263_2 : fnd 263 2 = some (2, .iconst 0, 1, 0, 0, 0, 0) := ceB_eq (by decide +kernel)
theorem f_263_3 : fnd 263 3 = some (3, .iconst 0, 1, 0, 0, 0, 0) := ceB_eq (by decide +kernel)
theorem f_263_4 : fnd 263 4 = some (4, .invokevirtual 373, 3, 256, 4, 10, 0) := ceB_eq (by decide +kernel)
theorem f_263_7 : fnd 263 7 = some (7, .aload_n 0, 1, 0, 0, 0, 0) := ceB_eq (by decide +kernel)
theorem f_263_8 : fnd 263 8 = some (8, .iload_n 1, 1, 0, 0, 0, 0) := ceB_eq (by decide +kernel)
theorem f_263_9 : fnd 263 9 = some (9, .bipush 7, 2, 0, 0, 0, 0) := ceB_eq (by decide +kernel)
theorem f_263_11 : fnd 263 11 = some (11, .invokevirtual 215, 3, 226, 3, 10, 0) := ceB_eq (by decide +kernel)
theorem f_263_14 : fnd 263 14 = some (14, .ireturn, 1, 0, 0, 0, 0) := ceB_eq (by decide +kernel)
theorem rk_263 : rkm 263 = 0 := by decide +kernel
theorem ml_263 : (mth 263).2.1 = 2 := by decide +kernel
set_option maxRecDepth 100000 in
theorem T_Z_dropNow (k0 i0 x1 : Int) (σ : ST) (Q : Option AV → ST → Prop) (h :
  wpM m_Z_setCopy [.inr (.inr (40, k0, i0)), .inl x1, .inl 0, .inl 0] σ (asV fun s101 =>
  wpM m_Z_ofCopy [.inr (.inr (40, k0, i0)), .inl x1, .inl 7] s101 (asI fun r102 s102 =>
  Q (some (.inl r102)) s102))) :
  wpM m_Z_dropNow [.inr (.inr (40, k0, i0)), .inl x1] σ Q :=
 wpM_of ml_263 (L := [some (.inr (.inr (40, k0, i0))), some (.inl x1)]) rfl
 (w_aload_n (p' := 1) f_263_0 rfl rfl
 (w_iload_n (p' := 2) f_263_1 rfl rfl
 (w_iconst (p' := 3) f_263_2 rfl
 (w_iconst (p' := 4) f_263_3 rfl
 (w_callV (p' := 7) f_263_4 rfl rfl rfl rfl rfl (r := []) rfl rfl (kV rk_256 fun s101 h101 =>
 w_aload_n (p' := 8) f_263_7 rfl rfl
 (w_iload_n (p' := 9) f_263_8 rfl rfl
 (w_bipush (p' := 11) f_263_9 rfl
 (w_callV (p' := 14) f_263_11 rfl rfl rfl rfl rfl (r := []) rfl rfl (kI (.inl rk_226) fun r102 s102 h102 =>
 w_iret f_263_14 rk_263 h102) h101)))) h)))))
/-! ClosedRoomsModel.tellNow(II)I -/
theorem f_264_0 : fnd 264 0 = some (0, .aload_n 0, 1, 0, 0, 0, 0) := ceB_eq (by decide +kernel)
theorem f_264_1 : fnd 264 1 = some (1, .iload_n 1, 1, 0, 0, 0, 0) := ceB_eq (by decide +kernel)
theorem f_264_2 : fnd 264 2 = some (2, .iconst 0, 1, 0, 0, 0, 0) := ceB_eq (by decide +kernel)
theorem f_264_3 : fnd 264 3 = some (3, .invokevirtual 212, 3, 208, 3, 10, 0) := ceB_eq (by decide +kernel)
theorem f_264_6 : fnd 264 6 = some (6, .istore_n 3, 1, 0, 0, 0, 0) := ceB_eq (by decide +kernel)
theorem f_264_7 : fnd 264 7 = some (7, .aload_n 0, 1, 0, 0, 0, 0) := ceB_eq (by decide +kernel)
theorem f_264_8 : fnd 264 8 = some (8, .iload_n 1, 1, 0, 0, 0, 0) := ceB_eq (by decide +kernel)
theorem f_264_9 : fnd 264 9 = some (9, .iconst 0, 1, 0, 0, 0, 0) := ceB_eq (by decide +kernel)
theorem f_264_10 : fnd 264 10 = some (10, .iload_n 2, 1, 0, 0, 0, 0) := ceB_eq (by decide +kernel)
theorem f_264_11 : fnd 264 11 = some (11, .invokevirtual 234, 3, 192, 4, 10, 0) := ceB_eq (by decide +kernel)
theorem f_264_14 : fnd 264 14 = some (14, .iload_n 3, 1, 0, 0, 0, 0) := ceB_eq (by decide +kernel)
theorem f_264_15 : fnd 264 15 = some (15, .ireturn, 1, 0, 0, 0, 0) := ceB_eq (by decide +kernel)
theorem rk_264 : rkm 264 = 0 := by decide +kernel
theorem ml_264 : (mth 264).2.1 = 4 := by decide +kernel
set_option maxRecDepth 100000 in
theorem T_Z_tellNow (k0 i0 x1 x2 : Int) (σ : ST) (Q : Option AV → ST → Prop) (h :
  wpM m_Z_ofCore [.inr (.inr (40, k0, i0)), .inl x1, .inl 0] σ (asI fun r101 s101 =>
  wpM m_Z_setCore [.inr (.inr (40, k0, i0)), .inl x1, .inl 0, .inl x2] s101 (asV fun s102 =>
  Q (some (.inl r101)) s102))) :
  wpM m_Z_tellNow [.inr (.inr (40, k0, i0)), .inl x1, .inl x2] σ Q :=
 wpM_of ml_264 (L := [some (.inr (.inr (40, k0, i0))), some (.inl x1), some (.inl x2), none]) rfl
 (w_aload_n (p' := 1) f_264_0 rfl rfl
 (w_iload_n (p' := 2) f_264_1 rfl rfl
 (w_iconst (p' := 3) f_264_2 rfl
 (w_callV (p' := 6) f_264_3 rfl rfl rfl rfl rfl (r := []) rfl rfl (kI (.inl rk_208) fun r101 s101 h101 =>
 w_istore_n (p' := 7) f_264_6 (L' := [some (.inr (.inr (40, k0, i0))), some (.inl x1), some (.inl x2), some (.inl r101)]) rfl rfl
 (w_aload_n (p' := 8) f_264_7 rfl rfl
 (w_iload_n (p' := 9) f_264_8 rfl rfl
 (w_iconst (p' := 10) f_264_9 rfl
 (w_iload_n (p' := 11) f_264_10 rfl rfl
 (w_callV (p' := 14) f_264_11 rfl rfl rfl rfl rfl (r := []) rfl rfl (kV rk_192 fun s102 h102 =>
 w_iload_n (p' := 15) f_264_14 rfl rfl
 (w_iret f_264_15 rk_264 h102)) h101)))))) h))))
/-! ClosedRoomsModel.doNow(IIIIII)I -/
theorem f_265_0 : fnd 265 0 = some (0, .iload_n 1, 1, 0, 0, 0, 0) := ceB_eq (by decide +kernel)
theorem f_265_1 : fnd 265 1 = some (1, .tableswitch 231 0 18 #[91, 97, 102, 115, 122, 128, 137, 143, 149, 158, 167, 173, 179, 188, 197, 203, 212, 218, 225], 91, 0, 0, 0, 0) := ceB_eq (by decide +kernel)
theorem f_265_92 : fnd 265 92 = some (92, .aload_n 0, 1, 0, 0, 0, 0) := ceB_eq (by decide +kernel)
theorem f_265_93 : fnd 265 93 = some (93, .iload_n 2, 1, 0, 0, 0, 0) := ceB_eq (by decide +kernel)
theorem f_265_94 : fnd 265 94 = some (94, .invokevirtual 376, 3, 242, 2, 10, 0) := ceB_eq (by decide +kernel)
theorem f_265_97 : fnd 265 97 = some (97, .ireturn, 1, 0, 0, 0, 0) := ceB_eq (by decide +kernel)
theorem f_265_98 : fnd 265 98 = some (98, .aload_n 0, 1, 0, 0, 0, 0) := ceB_eq (by decide +kernel)
theorem f_265_99 : fnd 265 99 = some (99, .invokevirtual 379, 3, 243, 1, 10, 0) := ceB_eq (by decide +kernel)
theorem f_265_102 : fnd 265 102 = some (102, .ireturn, 1, 0, 0, 0, 0) := ceB_eq (by decide +kernel)
theorem f_265_103 : fnd 265 103 = some (103, .aload_n 0, 1, 0, 0, 0, 0) := ceB_eq (by decide +kernel)
theorem f_265_104 : fnd 265 104 = some (104, .iload_n 2, 1, 0, 0, 0, 0) := ceB_eq (by decide +kernel)
theorem f_265_105 : fnd 265 105 = some (105, .iload_n 3, 1, 0, 0, 0, 0) := ceB_eq (by decide +kernel)
theorem f_265_106 : fnd 265 106 = some (106, .iload 4, 2, 0, 0, 0, 0) := ceB_eq (by decide +kernel)
theorem f_265_108 : fnd 265 108 = some (108, .iload 5, 2, 0, 0, 0, 0) := ceB_eq (by decide +kernel)
theorem f_265_110 : fnd 265 110 = some (110, .iload 6, 2, 0, 0, 0, 0) := ceB_eq (by decide +kernel)
theorem f_265_112 : fnd 265 112 = some (112, .invokevirtual 382, 3, 244, 6, 10, 0) := ceB_eq (by decide +kernel)
theorem f_265_115 : fnd 265 115 = some (115, .ireturn, 1, 0, 0, 0, 0) := ceB_eq (by decide +kernel)
theorem f_265_116 : fnd 265 116 = some (116, .aload_n 0, 1, 0, 0, 0, 0) := ceB_eq (by decide +kernel)
theorem f_265_117 : fnd 265 117 = some (117, .iload_n 2, 1, 0, 0, 0, 0) := ceB_eq (by decide +kernel)
theorem f_265_118 : fnd 265 118 = some (118, .iload_n 3, 1, 0, 0, 0, 0) := ceB_eq (by decide +kernel)
theorem f_265_119 : fnd 265 119 = some (119, .invokevirtual 385, 3, 246, 3, 10, 0) := ceB_eq (by decide +kernel)
theorem f_265_122 : fnd 265 122 = some (122, .ireturn, 1, 0, 0, 0, 0) := ceB_eq (by decide +kernel)
theorem f_265_123 : fnd 265 123 = some (123, .aload_n 0, 1, 0, 0, 0, 0) := ceB_eq (by decide +kernel)
theorem f_265_124 : fnd 265 124 = some (124, .iload_n 2, 1, 0, 0, 0, 0) := ceB_eq (by decide +kernel)
theorem f_265_125 : fnd 265 125 = some (125, .invokevirtual 388, 3, 247, 2, 10, 0) := ceB_eq (by decide +kernel)
theorem f_265_128 : fnd 265 128 = some (128, .ireturn, 1, 0, 0, 0, 0) := ceB_eq (by decide +kernel)
theorem f_265_129 : fnd 265 129 = some (129, .aload_n 0, 1, 0, 0, 0, 0) := ceB_eq (by decide +kernel)
theorem f_265_130 : fnd 265 130 = some (130, .iload_n 2, 1, 0, 0, 0, 0) := ceB_eq (by decide +kernel)
theorem f_265_131 : fnd 265 131 = some (131, .iload_n 3, 1, 0, 0, 0, 0) := ceB_eq (by decide +kernel)
theorem f_265_132 : fnd 265 132 = some (132, .iload 4, 2, 0, 0, 0, 0) := ceB_eq (by decide +kernel)
theorem f_265_134 : fnd 265 134 = some (134, .invokevirtual 367, 3, 248, 4, 10, 0) := ceB_eq (by decide +kernel)
theorem f_265_137 : fnd 265 137 = some (137, .ireturn, 1, 0, 0, 0, 0) := ceB_eq (by decide +kernel)
theorem f_265_138 : fnd 265 138 = some (138, .aload_n 0, 1, 0, 0, 0, 0) := ceB_eq (by decide +kernel)
theorem f_265_139 : fnd 265 139 = some (139, .iload_n 2, 1, 0, 0, 0, 0) := ceB_eq (by decide +kernel)
theorem f_265_140 : fnd 265 140 = some (140, .invokevirtual 391, 3, 249, 2, 10, 0) := ceB_eq (by decide +kernel)
theorem f_265_143 : fnd 265 143 = some (143, .ireturn, 1, 0, 0, 0, 0) := ceB_eq (by decide +kernel)
theorem f_265_144 : fnd 265 144 = some (144, .aload_n 0, 1, 0, 0, 0, 0) := ceB_eq (by decide +kernel)
theorem f_265_145 : fnd 265 145 = some (145, .iload_n 2, 1, 0, 0, 0, 0) := ceB_eq (by decide +kernel)
theorem f_265_146 : fnd 265 146 = some (146, .invokevirtual 394, 3, 250, 2, 10, 0) := ceB_eq (by decide +kernel)
theorem f_265_149 : fnd 265 149 = some (149, .ireturn, 1, 0, 0, 0, 0) := ceB_eq (by decide +kernel)
theorem f_265_150 : fnd 265 150 = some (150, .aload_n 0, 1, 0, 0, 0, 0) := ceB_eq (by decide +kernel)
theorem f_265_151 : fnd 265 151 = some (151, .iload_n 2, 1, 0, 0, 0, 0) := ceB_eq (by decide +kernel)
theorem f_265_152 : fnd 265 152 = some (152, .iload_n 3, 1, 0, 0, 0, 0) := ceB_eq (by decide +kernel)
theorem f_265_153 : fnd 265 153 = some (153, .iload 4, 2, 0, 0, 0, 0) := ceB_eq (by decide +kernel)
theorem f_265_155 : fnd 265 155 = some (155, .invokevirtual 397, 3, 251, 4, 10, 0) := ceB_eq (by decide +kernel)
theorem f_265_158 : fnd 265 158 = some (158, .ireturn, 1, 0, 0, 0, 0) := ceB_eq (by decide +kernel)
theorem f_265_159 : fnd 265 159 = some (159, .aload_n 0, 1, 0, 0, 0, 0) := ceB_eq (by decide +kernel)
theorem f_265_160 : fnd 265 160 = some (160, .iload_n 2, 1, 0, 0, 0, 0) := ceB_eq (by decide +kernel)
theorem f_265_161 : fnd 265 161 = some (161, .iload_n 3, 1, 0, 0, 0, 0) := ceB_eq (by decide +kernel)
theorem f_265_162 : fnd 265 162 = some (162, .iload 4, 2, 0, 0, 0, 0) := ceB_eq (by decide +kernel)
theorem f_265_164 : fnd 265 164 = some (164, .invokevirtual 400, 3, 253, 4, 10, 0) := ceB_eq (by decide +kernel)
theorem f_265_167 : fnd 265 167 = some (167, .ireturn, 1, 0, 0, 0, 0) := ceB_eq (by decide +kernel)
theorem f_265_168 : fnd 265 168 = some (168, .aload_n 0, 1, 0, 0, 0, 0) := ceB_eq (by decide +kernel)
theorem f_265_169 : fnd 265 169 = some (169, .iload_n 2, 1, 0, 0, 0, 0) := ceB_eq (by decide +kernel)
theorem f_265_170 : fnd 265 170 = some (170, .invokevirtual 403, 3, 254, 2, 10, 0) := ceB_eq (by decide +kernel)
theorem f_265_173 : fnd 265 173 = some (173, .ireturn, 1, 0, 0, 0, 0) := ceB_eq (by decide +kernel)
theorem f_265_174 : fnd 265 174 = some (174, .aload_n 0, 1, 0, 0, 0, 0) := ceB_eq (by decide +kernel)
theorem f_265_175 : fnd 265 175 = some (175, .iload_n 2, 1, 0, 0, 0, 0) := ceB_eq (by decide +kernel)
theorem f_265_176 : fnd 265 176 = some (176, .invokevirtual 406, 3, 255, 2, 10, 0) := ceB_eq (by decide +kernel)
theorem f_265_179 : fnd 265 179 = some (179, .ireturn, 1, 0, 0, 0, 0) := ceB_eq (by decide +kernel)
theorem f_265_180 : fnd 265 180 = some (180, .aload_n 0, 1, 0, 0, 0, 0) := ceB_eq (by decide +kernel)
theorem f_265_181 : fnd 265 181 = some (181, .iload_n 2, 1, 0, 0, 0, 0) := ceB_eq (by decide +kernel)
theorem f_265_182 : fnd 265 182 = some (182, .iload_n 3, 1, 0, 0, 0, 0) := ceB_eq (by decide +kernel)
theorem f_265_183 : fnd 265 183 = some (183, .iload 4, 2, 0, 0, 0, 0) := ceB_eq (by decide +kernel)
theorem f_265_185 : fnd 265 185 = some (185, .invokevirtual 409, 3, 257, 4, 10, 0) := ceB_eq (by decide +kernel)
theorem f_265_188 : fnd 265 188 = some (188, .ireturn, 1, 0, 0, 0, 0) := ceB_eq (by decide +kernel)
theorem f_265_189 : fnd 265 189 = some (189, .aload_n 0, 1, 0, 0, 0, 0) := ceB_eq (by decide +kernel)
theorem f_265_190 : fnd 265 190 = some (190, .iload_n 2, 1, 0, 0, 0, 0) := ceB_eq (by decide +kernel)
theorem f_265_191 : fnd 265 191 = some (191, .iload_n 3, 1, 0, 0, 0, 0) := ceB_eq (by decide +kernel)
theorem f_265_192 : fnd 265 192 = some (192, .iload 4, 2, 0, 0, 0, 0) := ceB_eq (by decide +kernel)
theorem f_265_194 : fnd 265 194 = some (194, .invokevirtual 412, 3, 258, 4, 10, 0) := ceB_eq (by decide +kernel)
theorem f_265_197 : fnd 265 197 = some (197, .ireturn, 1, 0, 0, 0, 0) := ceB_eq (by decide +kernel)
theorem f_265_198 : fnd 265 198 = some (198, .aload_n 0, 1, 0, 0, 0, 0) := ceB_eq (by decide +kernel)
theorem f_265_199 : fnd 265 199 = some (199, .iload_n 2, 1, 0, 0, 0, 0) := ceB_eq (by decide +kernel)
theorem f_265_200 : fnd 265 200 = some (200, .invokevirtual 415, 3, 259, 2, 10, 0) := ceB_eq (by decide +kernel)
theorem f_265_203 : fnd 265 203 = some (203, .ireturn, 1, 0, 0, 0, 0) := ceB_eq (by decide +kernel)
theorem f_265_204 : fnd 265 204 = some (204, .aload_n 0, 1, 0, 0, 0, 0) := ceB_eq (by decide +kernel)
theorem f_265_205 : fnd 265 205 = some (205, .iload_n 2, 1, 0, 0, 0, 0) := ceB_eq (by decide +kernel)
theorem f_265_206 : fnd 265 206 = some (206, .iload_n 3, 1, 0, 0, 0, 0) := ceB_eq (by decide +kernel)
theorem f_265_207 : fnd 265 207 = some (207, .iload 4, 2, 0, 0, 0, 0) := ceB_eq (by decide +kernel)
theorem f_265_209 : fnd 265 209 = some (209, .invokevirtual 418, 3, 260, 4, 10, 0) := ceB_eq (by decide +kernel)
theorem f_265_212 : fnd 265 212 = some (212, .ireturn, 1, 0, 0, 0, 0) := ceB_eq (by decide +kernel)
theorem f_265_213 : fnd 265 213 = some (213, .aload_n 0, 1, 0, 0, 0, 0) := ceB_eq (by decide +kernel)
theorem f_265_214 : fnd 265 214 = some (214, .iload_n 2, 1, 0, 0, 0, 0) := ceB_eq (by decide +kernel)
theorem f_265_215 : fnd 265 215 = some (215, .invokevirtual 421, 3, 261, 2, 10, 0) := ceB_eq (by decide +kernel)
theorem f_265_218 : fnd 265 218 = some (218, .ireturn, 1, 0, 0, 0, 0) := ceB_eq (by decide +kernel)
theorem f_265_219 : fnd 265 219 = some (219, .aload_n 0, 1, 0, 0, 0, 0) := ceB_eq (by decide +kernel)
theorem f_265_220 : fnd 265 220 = some (220, .iload_n 2, 1, 0, 0, 0, 0) := ceB_eq (by decide +kernel)
theorem f_265_221 : fnd 265 221 = some (221, .iload_n 3, 1, 0, 0, 0, 0) := ceB_eq (by decide +kernel)
theorem f_265_222 : fnd 265 222 = some (222, .invokevirtual 424, 3, 262, 3, 10, 0) := ceB_eq (by decide +kernel)
theorem f_265_225 : fnd 265 225 = some (225, .ireturn, 1, 0, 0, 0, 0) := ceB_eq (by decide +kernel)
theorem f_265_226 : fnd 265 226 = some (226, .aload_n 0, 1, 0, 0, 0, 0) := ceB_eq (by decide +kernel)
theorem f_265_227 : fnd 265 227 = some (227, .iload_n 2, 1, 0, 0, 0, 0) := ceB_eq (by decide +kernel)
theorem f_265_228 : fnd 265 228 = some (228, .invokevirtual 427, 3, 263, 2, 10, 0) := ceB_eq (by decide +kernel)
theorem f_265_231 : fnd 265 231 = some (231, .ireturn, 1, 0, 0, 0, 0) := ceB_eq (by decide +kernel)
theorem f_265_232 : fnd 265 232 = some (232, .aload_n 0, 1, 0, 0, 0, 0) := ceB_eq (by decide +kernel)
theorem f_265_233 : fnd 265 233 = some (233, .iload_n 2, 1, 0, 0, 0, 0) := ceB_eq (by decide +kernel)
theorem f_265_234 : fnd 265 234 = some (234, .iload_n 3, 1, 0, 0, 0, 0) := ceB_eq (by decide +kernel)
theorem f_265_235 : fnd 265 235 = some (235, .invokevirtual 430, 3, 264, 3, 10, 0) := ceB_eq (by decide +kernel)
theorem f_265_238 : fnd 265 238 = some (238, .ireturn, 1, 0, 0, 0, 0) := ceB_eq (by decide +kernel)
theorem rk_265 : rkm 265 = 0 := by decide +kernel
theorem ml_265 : (mth 265).2.1 = 7 := by decide +kernel
set_option maxRecDepth 100000 in
theorem T_Z_doNow (k0 i0 x1 x2 x3 x4 x5 x6 : Int) (σ : ST) (Q : Option AV → ST → Prop) (h :
  ((x1 = 0 →
    wpM m_Z_createNow [.inr (.inr (40, k0, i0)), .inl x2] σ (asI fun r101 s101 =>
    Q (some (.inl r101)) s101)) ∧ (x1 ≠ 0 →
  ((x1 = 1 →
    wpM m_Z_slotsNow [.inr (.inr (40, k0, i0))] σ (asI fun r102 s102 =>
    Q (some (.inl r102)) s102)) ∧ (x1 ≠ 1 →
  ((x1 = 2 →
    wpM m_Z_addNow [.inr (.inr (40, k0, i0)), .inl x2, .inl x3, .inl x4, .inl x5, .inl x6] σ (asI fun r103 s103 =>
    Q (some (.inl r103)) s103)) ∧ (x1 ≠ 2 →
  ((x1 = 3 →
    wpM m_Z_extendNow [.inr (.inr (40, k0, i0)), .inl x2, .inl x3] σ (asI fun r104 s104 =>
    Q (some (.inl r104)) s104)) ∧ (x1 ≠ 3 →
  ((x1 = 4 →
    wpM m_Z_sealNow [.inr (.inr (40, k0, i0)), .inl x2] σ (asI fun r105 s105 =>
    Q (some (.inl r105)) s105)) ∧ (x1 ≠ 4 →
  ((x1 = 5 →
    wpM m_Z_enterNow [.inr (.inr (40, k0, i0)), .inl x2, .inl x3, .inl x4] σ (asI fun r106 s106 =>
    Q (some (.inl r106)) s106)) ∧ (x1 ≠ 5 →
  ((x1 = 6 →
    wpM m_Z_leaveNow [.inr (.inr (40, k0, i0)), .inl x2] σ (asI fun r107 s107 =>
    Q (some (.inl r107)) s107)) ∧ (x1 ≠ 6 →
  ((x1 = 7 →
    wpM m_Z_trapNow [.inr (.inr (40, k0, i0)), .inl x2] σ (asI fun r108 s108 =>
    Q (some (.inl r108)) s108)) ∧ (x1 ≠ 7 →
  ((x1 = 8 →
    wpM m_Z_resumeNow [.inr (.inr (40, k0, i0)), .inl x2, .inl x3, .inl x4] σ (asI fun r109 s109 =>
    Q (some (.inl r109)) s109)) ∧ (x1 ≠ 8 →
  ((x1 = 9 →
    wpM m_Z_touchNow [.inr (.inr (40, k0, i0)), .inl x2, .inl x3, .inl x4] σ (asI fun r110 s110 =>
    Q (some (.inl r110)) s110)) ∧ (x1 ≠ 9 →
  ((x1 = 10 →
    wpM m_Z_blockNow [.inr (.inr (40, k0, i0)), .inl x2] σ (asI fun r111 s111 =>
    Q (some (.inl r111)) s111)) ∧ (x1 ≠ 10 →
  ((x1 = 11 →
    wpM m_Z_trackNow [.inr (.inr (40, k0, i0)), .inl x2] σ (asI fun r112 s112 =>
    Q (some (.inl r112)) s112)) ∧ (x1 ≠ 11 →
  ((x1 = 12 →
    wpM m_Z_evictNow [.inr (.inr (40, k0, i0)), .inl x2, .inl x3, .inl x4] σ (asI fun r113 s113 =>
    Q (some (.inl r113)) s113)) ∧ (x1 ≠ 12 →
  ((x1 = 13 →
    wpM m_Z_loadNow [.inr (.inr (40, k0, i0)), .inl x2, .inl x3, .inl x4] σ (asI fun r114 s114 =>
    Q (some (.inl r114)) s114)) ∧ (x1 ≠ 13 →
  ((x1 = 14 →
    wpM m_Z_removeNow [.inr (.inr (40, k0, i0)), .inl x2] σ (asI fun r115 s115 =>
    Q (some (.inl r115)) s115)) ∧ (x1 ≠ 14 →
  ((x1 = 15 →
    wpM m_Z_mapNow [.inr (.inr (40, k0, i0)), .inl x2, .inl x3, .inl x4] σ (asI fun r116 s116 =>
    Q (some (.inl r116)) s116)) ∧ (x1 ≠ 15 →
  ((x1 = 16 →
    wpM m_Z_doubleNow [.inr (.inr (40, k0, i0)), .inl x2] σ (asI fun r117 s117 =>
    Q (some (.inl r117)) s117)) ∧ (x1 ≠ 16 →
  ((x1 = 17 →
    wpM m_Z_changeNow [.inr (.inr (40, k0, i0)), .inl x2, .inl x3] σ (asI fun r118 s118 =>
    Q (some (.inl r118)) s118)) ∧ (x1 ≠ 17 →
  ((x1 = 18 →
    wpM m_Z_dropNow [.inr (.inr (40, k0, i0)), .inl x2] σ (asI fun r119 s119 =>
    Q (some (.inl r119)) s119)) ∧ (x1 ≠ 18 →
    wpM m_Z_tellNow [.inr (.inr (40, k0, i0)), .inl x2, .inl x3] σ (asI fun r120 s120 =>
    Q (some (.inl r120)) s120)))))))))))))))))))))))))))))))))))))))) :
  wpM m_Z_doNow [.inr (.inr (40, k0, i0)), .inl x1, .inl x2, .inl x3, .inl x4, .inl x5, .inl x6] σ Q :=
 wpM_of ml_265 (L := [some (.inr (.inr (40, k0, i0))), some (.inl x1), some (.inl x2), some (.inl x3), some (.inl x4), some (.inl x5), some (.inl x6)]) rfl
 (w_iload_n (p' := 1) f_265_0 rfl rfl
 (w_switch f_265_1 (cs := [(0, 92), (1, 98), (2, 103), (3, 116), (4, 123), (5, 129), (6, 138), (7, 144), (8, 150), (9, 159), (10, 168), (11, 174), (12, 180), (13, 189), (14, 198), (15, 204), (16, 213), (17, 219), (18, 226)]) rfl (d' := 232) rfl
 (⟨fun c121 => w_aload_n (p' := 93) f_265_92 rfl rfl
 (w_iload_n (p' := 94) f_265_93 rfl rfl
 (w_callV (p' := 97) f_265_94 rfl rfl rfl rfl rfl (r := []) rfl rfl (kI (.inl rk_242) fun r101 s101 h101 =>
 w_iret f_265_97 rk_265 h101) (h.1 c121))), fun c121_0 =>
 ⟨fun c121 => w_aload_n (p' := 99) f_265_98 rfl rfl
 (w_callV (p' := 102) f_265_99 rfl rfl rfl rfl rfl (r := []) rfl rfl (kI (.inl rk_243) fun r102 s102 h102 =>
 w_iret f_265_102 rk_265 h102) ((h.2 c121_0).1 c121)), fun c121_1 =>
 ⟨fun c121 => w_aload_n (p' := 104) f_265_103 rfl rfl
 (w_iload_n (p' := 105) f_265_104 rfl rfl
 (w_iload_n (p' := 106) f_265_105 rfl rfl
 (w_iload (p' := 108) f_265_106 rfl rfl
 (w_iload (p' := 110) f_265_108 rfl rfl
 (w_iload (p' := 112) f_265_110 rfl rfl
 (w_callV (p' := 115) f_265_112 rfl rfl rfl rfl rfl (r := []) rfl rfl (kI (.inl rk_244) fun r103 s103 h103 =>
 w_iret f_265_115 rk_265 h103) (((h.2 c121_0).2 c121_1).1 c121))))))), fun c121_2 =>
 ⟨fun c121 => w_aload_n (p' := 117) f_265_116 rfl rfl
 (w_iload_n (p' := 118) f_265_117 rfl rfl
 (w_iload_n (p' := 119) f_265_118 rfl rfl
 (w_callV (p' := 122) f_265_119 rfl rfl rfl rfl rfl (r := []) rfl rfl (kI (.inl rk_246) fun r104 s104 h104 =>
 w_iret f_265_122 rk_265 h104) ((((h.2 c121_0).2 c121_1).2 c121_2).1 c121)))), fun c121_3 =>
 ⟨fun c121 => w_aload_n (p' := 124) f_265_123 rfl rfl
 (w_iload_n (p' := 125) f_265_124 rfl rfl
 (w_callV (p' := 128) f_265_125 rfl rfl rfl rfl rfl (r := []) rfl rfl (kI (.inl rk_247) fun r105 s105 h105 =>
 w_iret f_265_128 rk_265 h105) (((((h.2 c121_0).2 c121_1).2 c121_2).2 c121_3).1 c121))), fun c121_4 =>
 ⟨fun c121 => w_aload_n (p' := 130) f_265_129 rfl rfl
 (w_iload_n (p' := 131) f_265_130 rfl rfl
 (w_iload_n (p' := 132) f_265_131 rfl rfl
 (w_iload (p' := 134) f_265_132 rfl rfl
 (w_callV (p' := 137) f_265_134 rfl rfl rfl rfl rfl (r := []) rfl rfl (kI (.inl rk_248) fun r106 s106 h106 =>
 w_iret f_265_137 rk_265 h106) ((((((h.2 c121_0).2 c121_1).2 c121_2).2 c121_3).2 c121_4).1 c121))))), fun c121_5 =>
 ⟨fun c121 => w_aload_n (p' := 139) f_265_138 rfl rfl
 (w_iload_n (p' := 140) f_265_139 rfl rfl
 (w_callV (p' := 143) f_265_140 rfl rfl rfl rfl rfl (r := []) rfl rfl (kI (.inl rk_249) fun r107 s107 h107 =>
 w_iret f_265_143 rk_265 h107) (((((((h.2 c121_0).2 c121_1).2 c121_2).2 c121_3).2 c121_4).2 c121_5).1 c121))), fun c121_6 =>
 ⟨fun c121 => w_aload_n (p' := 145) f_265_144 rfl rfl
 (w_iload_n (p' := 146) f_265_145 rfl rfl
 (w_callV (p' := 149) f_265_146 rfl rfl rfl rfl rfl (r := []) rfl rfl (kI (.inl rk_250) fun r108 s108 h108 =>
 w_iret f_265_149 rk_265 h108) ((((((((h.2 c121_0).2 c121_1).2 c121_2).2 c121_3).2 c121_4).2 c121_5).2 c121_6).1 c121))), fun c121_7 =>
 ⟨fun c121 => w_aload_n (p' := 151) f_265_150 rfl rfl
 (w_iload_n (p' := 152) f_265_151 rfl rfl
 (w_iload_n (p' := 153) f_265_152 rfl rfl
 (w_iload (p' := 155) f_265_153 rfl rfl
 (w_callV (p' := 158) f_265_155 rfl rfl rfl rfl rfl (r := []) rfl rfl (kI (.inl rk_251) fun r109 s109 h109 =>
 w_iret f_265_158 rk_265 h109) (((((((((h.2 c121_0).2 c121_1).2 c121_2).2 c121_3).2 c121_4).2 c121_5).2 c121_6).2 c121_7).1 c121))))), fun c121_8 =>
 ⟨fun c121 => w_aload_n (p' := 160) f_265_159 rfl rfl
 (w_iload_n (p' := 161) f_265_160 rfl rfl
 (w_iload_n (p' := 162) f_265_161 rfl rfl
 (w_iload (p' := 164) f_265_162 rfl rfl
 (w_callV (p' := 167) f_265_164 rfl rfl rfl rfl rfl (r := []) rfl rfl (kI (.inl rk_253) fun r110 s110 h110 =>
 w_iret f_265_167 rk_265 h110) ((((((((((h.2 c121_0).2 c121_1).2 c121_2).2 c121_3).2 c121_4).2 c121_5).2 c121_6).2 c121_7).2 c121_8).1 c121))))), fun c121_9 =>
 ⟨fun c121 => w_aload_n (p' := 169) f_265_168 rfl rfl
 (w_iload_n (p' := 170) f_265_169 rfl rfl
 (w_callV (p' := 173) f_265_170 rfl rfl rfl rfl rfl (r := []) rfl rfl (kI (.inl rk_254) fun r111 s111 h111 =>
 w_iret f_265_173 rk_265 h111) (((((((((((h.2 c121_0).2 c121_1).2 c121_2).2 c121_3).2 c121_4).2 c121_5).2 c121_6).2 c121_7).2 c121_8).2 c121_9).1 c121))), fun c121_10 =>
 ⟨fun c121 => w_aload_n (p' := 175) f_265_174 rfl rfl
 (w_iload_n (p' := 176) f_265_175 rfl rfl
 (w_callV (p' := 179) f_265_176 rfl rfl rfl rfl rfl (r := []) rfl rfl (kI (.inl rk_255) fun r112 s112 h112 =>
 w_iret f_265_179 rk_265 h112) ((((((((((((h.2 c121_0).2 c121_1).2 c121_2).2 c121_3).2 c121_4).2 c121_5).2 c121_6).2 c121_7).2 c121_8).2 c121_9).2 c121_10).1 c121))), fun c121_11 =>
 ⟨fun c121 => w_aload_n (p' := 181) f_265_180 rfl rfl
 (w_iload_n (p' := 182) f_265_181 rfl rfl
 (w_iload_n (p' := 183) f_265_182 rfl rfl
 (w_iload (p' := 185) f_265_183 rfl rfl
 (w_callV (p' := 188) f_265_185 rfl rfl rfl rfl rfl (r := []) rfl rfl (kI (.inl rk_257) fun r113 s113 h113 =>
 w_iret f_265_188 rk_265 h113) (((((((((((((h.2 c121_0).2 c121_1).2 c121_2).2 c121_3).2 c121_4).2 c121_5).2 c121_6).2 c121_7).2 c121_8).2 c121_9).2 c121_10).2 c121_11).1 c121))))), fun c121_12 =>
 ⟨fun c121 => w_aload_n (p' := 190) f_265_189 rfl rfl
 (w_iload_n (p' := 191) f_265_190 rfl rfl
 (w_iload_n (p' := 192) f_265_191 rfl rfl
 (w_iload (p' := 194) f_265_192 rfl rfl
 (w_callV (p' := 197) f_265_194 rfl rfl rfl rfl rfl (r := []) rfl rfl (kI (.inl rk_258) fun r114 s114 h114 =>
 w_iret f_265_197 rk_265 h114) ((((((((((((((h.2 c121_0).2 c121_1).2 c121_2).2 c121_3).2 c121_4).2 c121_5).2 c121_6).2 c121_7).2 c121_8).2 c121_9).2 c121_10).2 c121_11).2 c121_12).1 c121))))), fun c121_13 =>
 ⟨fun c121 => w_aload_n (p' := 199) f_265_198 rfl rfl
 (w_iload_n (p' := 200) f_265_199 rfl rfl
 (w_callV (p' := 203) f_265_200 rfl rfl rfl rfl rfl (r := []) rfl rfl (kI (.inl rk_259) fun r115 s115 h115 =>
 w_iret f_265_203 rk_265 h115) (((((((((((((((h.2 c121_0).2 c121_1).2 c121_2).2 c121_3).2 c121_4).2 c121_5).2 c121_6).2 c121_7).2 c121_8).2 c121_9).2 c121_10).2 c121_11).2 c121_12).2 c121_13).1 c121))), fun c121_14 =>
 ⟨fun c121 => w_aload_n (p' := 205) f_265_204 rfl rfl
 (w_iload_n (p' := 206) f_265_205 rfl rfl
 (w_iload_n (p' := 207) f_265_206 rfl rfl
 (w_iload (p' := 209) f_265_207 rfl rfl
 (w_callV (p' := 212) f_265_209 rfl rfl rfl rfl rfl (r := []) rfl rfl (kI (.inl rk_260) fun r116 s116 h116 =>
 w_iret f_265_212 rk_265 h116) ((((((((((((((((h.2 c121_0).2 c121_1).2 c121_2).2 c121_3).2 c121_4).2 c121_5).2 c121_6).2 c121_7).2 c121_8).2 c121_9).2 c121_10).2 c121_11).2 c121_12).2 c121_13).2 c121_14).1 c121))))), fun c121_15 =>
 ⟨fun c121 => w_aload_n (p' := 214) f_265_213 rfl rfl
 (w_iload_n (p' := 215) f_265_214 rfl rfl
 (w_callV (p' := 218) f_265_215 rfl rfl rfl rfl rfl (r := []) rfl rfl (kI (.inl rk_261) fun r117 s117 h117 =>
 w_iret f_265_218 rk_265 h117) (((((((((((((((((h.2 c121_0).2 c121_1).2 c121_2).2 c121_3).2 c121_4).2 c121_5).2 c121_6).2 c121_7).2 c121_8).2 c121_9).2 c121_10).2 c121_11).2 c121_12).2 c121_13).2 c121_14).2 c121_15).1 c121))), fun c121_16 =>
 ⟨fun c121 => w_aload_n (p' := 220) f_265_219 rfl rfl
 (w_iload_n (p' := 221) f_265_220 rfl rfl
 (w_iload_n (p' := 222) f_265_221 rfl rfl
 (w_callV (p' := 225) f_265_222 rfl rfl rfl rfl rfl (r := []) rfl rfl (kI (.inl rk_262) fun r118 s118 h118 =>
 w_iret f_265_225 rk_265 h118) ((((((((((((((((((h.2 c121_0).2 c121_1).2 c121_2).2 c121_3).2 c121_4).2 c121_5).2 c121_6).2 c121_7).2 c121_8).2 c121_9).2 c121_10).2 c121_11).2 c121_12).2 c121_13).2 c121_14).2 c121_15).2 c121_16).1 c121)))), fun c121_17 =>
 ⟨fun c121 => w_aload_n (p' := 227) f_265_226 rfl rfl
 (w_iload_n (p' := 228) f_265_227 rfl rfl
 (w_callV (p' := 231) f_265_228 rfl rfl rfl rfl rfl (r := []) rfl rfl (kI (.inl rk_263) fun r119 s119 h119 =>
 w_iret f_265_231 rk_265 h119) (((((((((((((((((((h.2 c121_0).2 c121_1).2 c121_2).2 c121_3).2 c121_4).2 c121_5).2 c121_6).2 c121_7).2 c121_8).2 c121_9).2 c121_10).2 c121_11).2 c121_12).2 c121_13).2 c121_14).2 c121_15).2 c121_16).2 c121_17).1 c121))), fun c121_18 =>
 w_aload_n (p' := 233) f_265_232 rfl rfl
 (w_iload_n (p' := 234) f_265_233 rfl rfl
 (w_iload_n (p' := 235) f_265_234 rfl rfl
 (w_callV (p' := 238) f_265_235 rfl rfl rfl rfl rfl (r := []) rfl rfl (kI (.inl rk_264) fun r120 s120 h120 =>
 w_iret f_265_238 rk_265 h120) (((((((((((((((((((h.2 c121_0).2 c121_1).2 c121_2).2 c121_3).2 c121_4).2 c121_5).2 c121_6).2 c121_7).2 c121_8).2 c121_9).2 c121_10).2 c121_11).2 c121_12).2 c121_13).2 c121_14).2 c121_15).2 c121_16).2 c121_17).2 c121_18))))⟩⟩⟩⟩⟩⟩⟩⟩⟩⟩⟩⟩⟩⟩⟩⟩⟩⟩⟩)))
/-! ClosedRoomsModel.note(III)V -/
theorem f_266_0 : fnd 266 0 = some (0, .aload_n 0, 1, 0, 0, 0, 0) := ceB_eq (by decide +kernel)
theorem f_266_1 : fnd 266 1 = some (1, .getfield 25, 3, 10, 15, 15, 0) := ceB_eq (by decide +kernel)
theorem f_266_4 : fnd 266 4 = some (4, .sipush 345, 3, 0, 0, 0, 0) := ceB_eq (by decide +kernel)
theorem f_266_7 : fnd 266 7 = some (7, .iaload, 1, 0, 0, 0, 0) := ceB_eq (by decide +kernel)
theorem f_266_8 : fnd 266 8 = some (8, .bipush 60, 2, 0, 0, 0, 0) := ceB_eq (by decide +kernel)
theorem f_266_10 : fnd 266 10 = some (10, .if_icmp .ne 56, 3, 0, 0, 0, 0) := ceB_eq (by decide +kernel)
theorem f_266_13 : fnd 266 13 = some (13, .iconst 3, 1, 0, 0, 0, 0) := ceB_eq (by decide +kernel)
theorem f_266_14 : fnd 266 14 = some (14, .istore 4, 2, 0, 0, 0, 0) := ceB_eq (by decide +kernel)
theorem f_266_16 : fnd 266 16 = some (16, .iload 4, 2, 0, 0, 0, 0) := ceB_eq (by decide +kernel)
theorem f_266_18 : fnd 266 18 = some (18, .sipush 180, 3, 0, 0, 0, 0) := ceB_eq (by decide +kernel)
theorem f_266_21 : fnd 266 21 = some (21, .if_icmp .ge 33, 3, 0, 0, 0, 0) := ceB_eq (by decide +kernel)
theorem f_266_24 : fnd 266 24 = some (24, .aload_n 0, 1, 0, 0, 0, 0) := ceB_eq (by decide +kernel)
theorem f_266_25 : fnd 266 25 = some (25, .getfield 25, 3, 10, 15, 15, 0) := ceB_eq (by decide +kernel)
theorem f_266_28 : fnd 266 28 = some (28, .sipush 346, 3, 0, 0, 0, 0) := ceB_eq (by decide +kernel)
theorem f_266_31 : fnd 266 31 = some (31, .iload 4, 2, 0, 0, 0, 0) := ceB_eq (by decide +kernel)
theorem f_266_33 : fnd 266 33 = some (33, .iadd, 1, 0, 0, 0, 0) := ceB_eq (by decide +kernel)
theorem f_266_34 : fnd 266 34 = some (34, .iconst 3, 1, 0, 0, 0, 0) := ceB_eq (by decide +kernel)
theorem f_266_35 : fnd 266 35 = some (35, .isub, 1, 0, 0, 0, 0) := ceB_eq (by decide +kernel)
theorem f_266_36 : fnd 266 36 = some (36, .aload_n 0, 1, 0, 0, 0, 0) := ceB_eq (by decide +kernel)
theorem f_266_37 : fnd 266 37 = some (37, .getfield 25, 3, 10, 15, 15, 0) := ceB_eq (by decide +kernel)
theorem f_266_40 : fnd 266 40 = some (40, .sipush 346, 3, 0, 0, 0, 0) := ceB_eq (by decide +kernel)
theorem f_266_43 : fnd 266 43 = some (43, .iload 4, 2, 0, 0, 0, 0) := ceB_eq (by decide +kernel)
theorem f_266_45 : fnd 266 45 = some (45, .iadd, 1, 0, 0, 0, 0) := ceB_eq (by decide +kernel)
theorem f_266_46 : fnd 266 46 = some (46, .iaload, 1, 0, 0, 0, 0) := ceB_eq (by decide +kernel)
theorem f_266_47 : fnd 266 47 = some (47, .iastore, 1, 0, 0, 0, 0) := ceB_eq (by decide +kernel)
theorem f_266_48 : fnd 266 48 = some (48, .iinc 4 1, 3, 0, 0, 0, 0) := ceB_eq (by decide +kernel)
theorem f_266_51 : fnd 266 51 = some (51, .goto (-35), 3, 0, 0, 0, 0) := ceB_eq (by decide +kernel)
theorem f_266_54 : fnd 266 54 = some (54, .aload_n 0, 1, 0, 0, 0, 0) := ceB_eq (by decide +kernel)
theorem f_266_55 : fnd 266 55 = some (55, .getfield 25, 3, 10, 15, 15, 0) := ceB_eq (by decide +kernel)
theorem f_266_58 : fnd 266 58 = some (58, .sipush 345, 3, 0, 0, 0, 0) := ceB_eq (by decide +kernel)
theorem f_266_61 : fnd 266 61 = some (61, .dup2, 1, 0, 0, 0, 0) := ceB_eq (by decide +kernel)
theorem f_266_62 : fnd 266 62 = some (62, .iaload, 1, 0, 0, 0, 0) := ceB_eq (by decide +kernel)
theorem f_266_63 : fnd 266 63 = some (63, .iconst 1, 1, 0, 0, 0, 0) := ceB_eq (by decide +kernel)
theorem f_266_64 : fnd 266 64 = some (64, .isub, 1, 0, 0, 0, 0) := ceB_eq (by decide +kernel)
theorem f_266_65 : fnd 266 65 = some (65, .iastore, 1, 0, 0, 0, 0) := ceB_eq (by decide +kernel)
theorem f_266_66 : fnd 266 66 = some (66, .sipush 346, 3, 0, 0, 0, 0) := ceB_eq (by decide +kernel)
theorem f_266_69 : fnd 266 69 = some (69, .iconst 3, 1, 0, 0, 0, 0) := ceB_eq (by decide +kernel)
theorem f_266_70 : fnd 266 70 = some (70, .aload_n 0, 1, 0, 0, 0, 0) := ceB_eq (by decide +kernel)
theorem f_266_71 : fnd 266 71 = some (71, .getfield 25, 3, 10, 15, 15, 0) := ceB_eq (by decide +kernel)
theorem f_266_74 : fnd 266 74 = some (74, .sipush 345, 3, 0, 0, 0, 0) := ceB_eq (by decide +kernel)
theorem f_266_77 : fnd 266 77 = some (77, .iaload, 1, 0, 0, 0, 0) := ceB_eq (by decide +kernel)
theorem f_266_78 : fnd 266 78 = some (78, .imul, 1, 0, 0, 0, 0) := ceB_eq (by decide +kernel)
theorem f_266_79 : fnd 266 79 = some (79, .iadd, 1, 0, 0, 0, 0) := ceB_eq (by decide +kernel)
theorem f_266_80 : fnd 266 80 = some (80, .istore 4, 2, 0, 0, 0, 0) := ceB_eq (by decide +kernel)
theorem f_266_82 : fnd 266 82 = some (82, .aload_n 0, 1, 0, 0, 0, 0) := ceB_eq (by decide +kernel)
theorem f_266_83 : fnd 266 83 = some (83, .getfield 25, 3, 10, 15, 15, 0) := ceB_eq (by decide +kernel)
theorem f_266_86 : fnd 266 86 = some (86, .iload 4, 2, 0, 0, 0, 0) := ceB_eq (by decide +kernel)
theorem f_266_88 : fnd 266 88 = some (88, .iload_n 1, 1, 0, 0, 0, 0) := ceB_eq (by decide +kernel)
theorem f_266_89 : fnd 266 89 = some (89, .iastore, 1, 0, 0, 0, 0) := ceB_eq (by decide +kernel)
theorem f_266_90 : fnd 266 90 = some (90, .aload_n 0, 1, 0, 0, 0, 0) := ceB_eq (by decide +kernel)
theorem f_266_91 : fnd 266 91 = some (91, .getfield 25, 3, 10, 15, 15, 0) := ceB_eq (by decide +kernel)
theorem f_266_94 : fnd 266 94 = some (94, .iload 4, 2, 0, 0, 0, 0) := ceB_eq (by decide +kernel)
theorem f_266_96 : fnd 266 96 = some (96, .iconst 1, 1, 0, 0, 0, 0) := ceB_eq (by decide +kernel)
theorem f_266_97 : fnd 266 97 = some (97, .iadd, 1, 0, 0, 0, 0) := ceB_eq (by decide +kernel)
theorem f_266_98 : fnd 266 98 = some (98, .iload_n 2, 1, 0, 0, 0, 0) := ceB_eq (by decide +kernel)
theorem f_266_99 : fnd 266 99 = some (99, .iastore, 1, 0, 0, 0, 0) := ceB_eq (by decide +kernel)
theorem f_266_100 : fnd 266 100 = some (100, .aload_n 0, 1, 0, 0, 0, 0) := ceB_eq (by decide +kernel)
theorem f_266_101 : fnd 266 101 = some (101, .getfield 25, 3, 10, 15, 15, 0) := ceB_eq (by decide +kernel)
theorem f_266_104 : fnd 266 104 = some (104, .iload 4, 2, 0, 0, 0, 0) := ceB_eq (by decide +kernel)
theorem f_266_106 : fnd 266 106 = some (106, .iconst 2, 1, 0, 0, 0, 0) := ceB_eq (by decide +kernel)
theorem f_266_107 : fnd 266 107 = some (107, .iadd, 1, 0, 0, 0, 0) := ceB_eq (by decide +kernel)
theorem f_266_108 : fnd 266 108 = some (108, .iload_n 3, 1, 0, 0, 0, 0) := ceB_eq (by decide +kernel)
theorem f_266_109 : fnd 266 109 = some (109, .iastore, 1, 0, 0, 0, 0) := ceB_eq (by decide +kernel)
theorem f_266_110 : fnd 266 110 = some (110, .aload_n 0, 1, 0, 0, 0, 0) := ceB_eq (by decide +kernel)
theorem f_266_111 : fnd 266 111 = some (111, .getfield 25, 3, 10, 15, 15, 0) := ceB_eq (by decide +kernel)
theorem f_266_114 : fnd 266 114 = some (114, .sipush 345, 3, 0, 0, 0, 0) := ceB_eq (by decide +kernel)
theorem f_266_117 : fnd 266 117 = some (117, .dup2, 1, 0, 0, 0, 0) := ceB_eq (by decide +kernel)
theorem f_266_118 : fnd 266 118 = some (118, .iaload, 1, 0, 0, 0, 0) := ceB_eq (by decide +kernel)
theorem f_266_119 : fnd 266 119 = some (119, .iconst 1, 1, 0, 0, 0, 0) := ceB_eq (by decide +kernel)
theorem f_266_120 : fnd 266 120 = some (120, .iadd, 1, 0, 0, 0, 0) := ceB_eq (by decide +kernel)
theorem f_266_121 : fnd 266 121 = some (121, .iastore, 1, 0, 0, 0, 0) := ceB_eq (by decide +kernel)
theorem f_266_122 : fnd 266 122 = some (122, .return_, 1, 0, 0, 0, 0) := ceB_eq (by decide +kernel)
theorem rk_266 : rkm 266 = 4 := by decide +kernel
theorem ml_266 : (mth 266).2.1 = 5 := by decide +kernel
set_option maxRecDepth 100000 in
theorem T_Z_note (k0 i0 x1 x2 x3 : Int) (σ : ST) (Q : Option AV → ST → Prop) (h :
  ((0 : Int) ≤ 345 ∧ (345 : Int) < 526) ∧
  ((((σ 46 0 0 345) ≠ 60 : Prop) →
    wp m_Z_note (66, [some (.inr (.inr (40, k0, i0))), some (.inl x1), some (.inl x2), some (.inl x3), none], [], σ) Q) ∧
  (¬ ((σ 46 0 0 345) ≠ 60) →
    wp m_Z_note (16, [some (.inr (.inr (40, k0, i0))), some (.inl x1), some (.inl x2), some (.inl x3), some (.inl 3)], [], σ) Q))) :
  wpM m_Z_note [.inr (.inr (40, k0, i0)), .inl x1, .inl x2, .inl x3] σ Q :=
 wpM_of ml_266 (L := [some (.inr (.inr (40, k0, i0))), some (.inl x1), some (.inl x2), some (.inl x3), none]) rfl
 (w_aload_n (p' := 1) f_266_0 rfl rfl
 (w_getfield (p' := 4) f_266_1 rfl (x := .inr (.inr (46, 0, 0))) rfl rfl
 (w_sipush (p' := 7) f_266_4 rfl
 (w_iaload (p' := 8) f_266_7 rfl (n := 526) rfl h.1 rfl
 (w_bipush (p' := 10) f_266_8 rfl
 (w_icmp (p' := 66) (q' := 13) f_266_10 rfl rfl
 (fun c101 => (h.2.1 c101))
 (fun c101 => w_iconst (p' := 14) f_266_13 rfl
 (w_istore (p' := 16) f_266_14 (L' := [some (.inr (.inr (40, k0, i0))), some (.inl x1), some (.inl x2), some (.inl x3), some (.inl 3)]) rfl rfl
 ((h.2.2 c101))))))))))
set_option maxRecDepth 100000 in
theorem T_Z_note_16 (k0 i0 x1 x2 x3 x4 : Int) (σ : ST) (Q : Option AV → ST → Prop) (h :
  (((180 ≤ x4 : Prop) →
    ((0 : Int) ≤ 345 ∧ (345 : Int) < 526) ∧
    ((0 : Int) ≤ 345 ∧ (345 : Int) < 526) ∧
    wp m_Z_note (66, [some (.inr (.inr (40, k0, i0))), some (.inl x1), some (.inl x2), some (.inl x3), some (.inl x4)], [], (up σ 46 0 0 345 (wr ((σ 46 0 0 345) - 1)))) Q) ∧
  (¬ (180 ≤ x4) →
    ((0 : Int) ≤ (wr (346 + x4)) ∧ ((wr (346 + x4)) : Int) < 526) ∧
    ((0 : Int) ≤ (wr ((wr (346 + x4)) - 3)) ∧ ((wr ((wr (346 + x4)) - 3)) : Int) < 526) ∧
    wp m_Z_note (16, [some (.inr (.inr (40, k0, i0))), some (.inl x1), some (.inl x2), some (.inl x3), some (.inl (wr (x4 + 1)))], [], (up σ 46 0 0 (wr ((wr (346 + x4)) - 3)) (σ 46 0 0 (wr (346 + x4))))) Q))) :
  wp m_Z_note (16, [some (.inr (.inr (40, k0, i0))), some (.inl x1), some (.inl x2), some (.inl x3), some (.inl x4)], [], σ) Q :=
 w_iload (p' := 18) f_266_16 rfl rfl
 (w_sipush (p' := 21) f_266_18 rfl
 (w_icmp (p' := 54) (q' := 24) f_266_21 rfl rfl
 (fun c101 => w_aload_n (p' := 55) f_266_54 rfl rfl
 (w_getfield (p' := 58) f_266_55 rfl (x := .inr (.inr (46, 0, 0))) rfl rfl
 (w_sipush (p' := 61) f_266_58 rfl
 (w_dup2 (p' := 62) f_266_61 rfl
 (w_iaload (p' := 63) f_266_62 rfl (n := 526) rfl (h.1 c101).1 rfl
 (w_iconst (p' := 64) f_266_63 rfl
 (w_isub (p' := 65) f_266_64 rfl
 (w_iastore (p' := 66) f_266_65 rfl (n := 526) rfl (h.1 c101).2.1 rfl
 ((h.1 c101).2.2)))))))))
 (fun c101 => w_aload_n (p' := 25) f_266_24 rfl rfl
 (w_getfield (p' := 28) f_266_25 rfl (x := .inr (.inr (46, 0, 0))) rfl rfl
 (w_sipush (p' := 31) f_266_28 rfl
 (w_iload (p' := 33) f_266_31 rfl rfl
 (w_iadd (p' := 34) f_266_33 rfl
 (w_iconst (p' := 35) f_266_34 rfl
 (w_isub (p' := 36) f_266_35 rfl
 (w_aload_n (p' := 37) f_266_36 rfl rfl
 (w_getfield (p' := 40) f_266_37 rfl (x := .inr (.inr (46, 0, 0))) rfl rfl
 (w_sipush (p' := 43) f_266_40 rfl
 (w_iload (p' := 45) f_266_43 rfl rfl
 (w_iadd (p' := 46) f_266_45 rfl
 (w_iaload (p' := 47) f_266_46 rfl (n := 526) rfl (h.2 c101).1 rfl
 (w_iastore (p' := 48) f_266_47 rfl (n := 526) rfl (h.2 c101).2.1 rfl
 (w_iinc (p' := 51) f_266_48 rfl (L' := [some (.inr (.inr (40, k0, i0))), some (.inl x1), some (.inl x2), some (.inl x3), some (.inl (wr (x4 + 1)))]) rfl rfl
 (w_goto (p' := 16) f_266_51 rfl
 ((h.2 c101).2.2)))))))))))))))))))
set_option maxRecDepth 100000 in
theorem T_Z_note_66 (k0 i0 x1 x2 x3 : Int) (o4 : Option AV) (σ : ST) (Q : Option AV → ST → Prop) (h :
  ((0 : Int) ≤ 345 ∧ (345 : Int) < 526) ∧
  ((0 : Int) ≤ (wr (346 + (wr (3 * (σ 46 0 0 345))))) ∧ ((wr (346 + (wr (3 * (σ 46 0 0 345))))) : Int) < 526) ∧
  ((0 : Int) ≤ (wr ((wr (346 + (wr (3 * (σ 46 0 0 345))))) + 1)) ∧ ((wr ((wr (346 + (wr (3 * (σ 46 0 0 345))))) + 1)) : Int) < 526) ∧
  ((0 : Int) ≤ (wr ((wr (346 + (wr (3 * (σ 46 0 0 345))))) + 2)) ∧ ((wr ((wr (346 + (wr (3 * (σ 46 0 0 345))))) + 2)) : Int) < 526) ∧
  ((0 : Int) ≤ 345 ∧ (345 : Int) < 526) ∧
  ((0 : Int) ≤ 345 ∧ (345 : Int) < 526) ∧
  Q none (up (up (up (up σ 46 0 0 (wr (346 + (wr (3 * (σ 46 0 0 345))))) x1) 46 0 0 (wr ((wr (346 + (wr (3 * (σ 46 0 0 345))))) + 1)) x2) 46 0 0 (wr ((wr (346 + (wr (3 * (σ 46 0 0 345))))) + 2)) x3) 46 0 0 345 (wr (((up (up (up σ 46 0 0 (wr (346 + (wr (3 * (σ 46 0 0 345))))) x1) 46 0 0 (wr ((wr (346 + (wr (3 * (σ 46 0 0 345))))) + 1)) x2) 46 0 0 (wr ((wr (346 + (wr (3 * (σ 46 0 0 345))))) + 2)) x3) 46 0 0 345) + 1)))) :
  wp m_Z_note (66, [some (.inr (.inr (40, k0, i0))), some (.inl x1), some (.inl x2), some (.inl x3), o4], [], σ) Q :=
 w_sipush (p' := 69) f_266_66 rfl
 (w_iconst (p' := 70) f_266_69 rfl
 (w_aload_n (p' := 71) f_266_70 rfl rfl
 (w_getfield (p' := 74) f_266_71 rfl (x := .inr (.inr (46, 0, 0))) rfl rfl
 (w_sipush (p' := 77) f_266_74 rfl
 (w_iaload (p' := 78) f_266_77 rfl (n := 526) rfl h.1 rfl
 (w_imul (p' := 79) f_266_78 rfl
 (w_iadd (p' := 80) f_266_79 rfl
 (w_istore (p' := 82) f_266_80 (L' := [some (.inr (.inr (40, k0, i0))), some (.inl x1), some (.inl x2), some (.inl x3), some (.inl (wr (346 + (wr (3 * (σ 46 0 0 345))))))]) rfl rfl
 (w_aload_n (p' := 83) f_266_82 rfl rfl
 (w_getfield (p' := 86) f_266_83 rfl (x := .inr (.inr (46, 0, 0))) rfl rfl
 (w_iload (p' := 88) f_266_86 rfl rfl
 (w_iload_n (p' := 89) f_266_88 rfl rfl
 (w_iastore (p' := 90) f_266_89 rfl (n := 526) rfl h.2.1 rfl
 (w_aload_n (p' := 91) f_266_90 rfl rfl
 (w_getfield (p' := 94) f_266_91 rfl (x := .inr (.inr (46, 0, 0))) rfl rfl
 (w_iload (p' := 96) f_266_94 rfl rfl
 (w_iconst (p' := 97) f_266_96 rfl
 (w_iadd (p' := 98) f_266_97 rfl
 (w_iload_n (p' := 99) f_266_98 rfl rfl
 (w_iastore (p' := 100) f_266_99 rfl (n := 526) rfl h.2.2.1 rfl
 (w_aload_n (p' := 101) f_266_100 rfl rfl
 (w_getfield (p' := 104) f_266_101 rfl (x := .inr (.inr (46, 0, 0))) rfl rfl
 (w_iload (p' := 106) f_266_104 rfl rfl
 (w_iconst (p' := 107) f_266_106 rfl
 (w_iadd (p' := 108) f_266_107 rfl
 (w_iload_n (p' := 109) f_266_108 rfl rfl
 (w_iastore (p' := 110) f_266_109 rfl (n := 526) rfl h.2.2.2.1 rfl
 (w_aload_n (p' := 111) f_266_110 rfl rfl
 (w_getfield (p' := 114) f_266_111 rfl (x := .inr (.inr (46, 0, 0))) rfl rfl
 (w_sipush (p' := 117) f_266_114 rfl
 (w_dup2 (p' := 118) f_266_117 rfl
 (w_iaload (p' := 119) f_266_118 rfl (n := 526) rfl h.2.2.2.2.1 rfl
 (w_iconst (p' := 120) f_266_119 rfl
 (w_iadd (p' := 121) f_266_120 rfl
 (w_iastore (p' := 122) f_266_121 rfl (n := 526) rfl h.2.2.2.2.2.1 rfl
 (w_vret f_266_122 rk_266 h.2.2.2.2.2.2))))))))))))))))))))))))))))))))))))
/-! ClosedRoomsModel.act(IIIIII)I -/
theorem f_267_0 : fnd 267 0 = some (0, .aload_n 0, 1, 0, 0, 0, 0) := ceB_eq (by decide +kernel)
theorem f_267_1 : fnd 267 1 = some (1, .invokevirtual 433, 3, 240, 1, 10, 0) := ceB_eq (by decide +kernel)
theorem f_267_4 : fnd 267 4 = some (4, .aload_n 0, 1, 0, 0, 0, 0) := ceB_eq (by decide +kernel)
theorem f_267_5 : fnd 267 5 = some (5, .iload_n 1, 1, 0, 0, 0, 0) := ceB_eq (by decide +kernel)
theorem f_267_6 : fnd 267 6 = some (6, .iload_n 2, 1, 0, 0, 0, 0) := ceB_eq (by decide +kernel)
theorem f_267_7 : fnd 267 7 = some (7, .iload_n 3, 1, 0, 0, 0, 0) := ceB_eq (by decide +kernel)
theorem f_267_8 : fnd 267 8 = some (8, .iload 4, 2, 0, 0, 0, 0) := ceB_eq (by decide +kernel)
theorem f_267_10 : fnd 267 10 = some (10, .iload 5, 2, 0, 0, 0, 0) := ceB_eq (by decide +kernel)
theorem f_267_12 : fnd 267 12 = some (12, .iload 6, 2, 0, 0, 0, 0) := ceB_eq (by decide +kernel)
theorem f_267_14 : fnd 267 14 = some (14, .invokevirtual 436, 3, 265, 7, 10, 0) := ceB_eq (by decide +kernel)
theorem f_267_17 : fnd 267 17 = some (17, .istore 7, 2, 0, 0, 0, 0) := ceB_eq (by decide +kernel)
theorem f_267_19 : fnd 267 19 = some (19, .aload_n 0, 1, 0, 0, 0, 0) := ceB_eq (by decide +kernel)
theorem f_267_20 : fnd 267 20 = some (20, .iload_n 1, 1, 0, 0, 0, 0) := ceB_eq (by decide +kernel)
theorem f_267_21 : fnd 267 21 = some (21, .iload_n 1, 1, 0, 0, 0, 0) := ceB_eq (by decide +kernel)
theorem f_267_22 : fnd 267 22 = some (22, .iconst 1, 1, 0, 0, 0, 0) := ceB_eq (by decide +kernel)
theorem f_267_23 : fnd 267 23 = some (23, .if_icmp .ne 7, 3, 0, 0, 0, 0) := ceB_eq (by decide +kernel)
theorem f_267_26 : fnd 267 26 = some (26, .iconst (-1), 1, 0, 0, 0, 0) := ceB_eq (by decide +kernel)
theorem f_267_27 : fnd 267 27 = some (27, .goto 4, 3, 0, 0, 0, 0) := ceB_eq (by decide +kernel)
theorem f_267_30 : fnd 267 30 = some (30, .iload_n 2, 1, 0, 0, 0, 0) := ceB_eq (by decide +kernel)
theorem f_267_31 : fnd 267 31 = some (31, .iload 7, 2, 0, 0, 0, 0) := ceB_eq (by decide +kernel)
theorem f_267_33 : fnd 267 33 = some (33, .invokevirtual 439, 3, 266, 4, 10, 0) := ceB_eq (by decide +kernel)
theorem f_267_36 : fnd 267 36 = some (36, .iload 7, 2, 0, 0, 0, 0) := ceB_eq (by decide +kernel)
theorem f_267_38 : fnd 267 38 = some (38, .ireturn, 1, 0, 0, 0, 0) := ceB_eq (by decide +kernel)
theorem rk_267 : rkm 267 = 0 := by decide +kernel
theorem ml_267 : (mth 267).2.1 = 8 := by decide +kernel
set_option maxRecDepth 100000 in
theorem T_Z_act (k0 i0 x1 x2 x3 x4 x5 x6 : Int) (σ : ST) (Q : Option AV → ST → Prop) (h :
  wpM m_Z_keep [.inr (.inr (40, k0, i0))] σ (asV fun s101 =>
  wpM m_Z_doNow [.inr (.inr (40, k0, i0)), .inl x1, .inl x2, .inl x3, .inl x4, .inl x5, .inl x6] s101 (asI fun r102 s102 =>
  (((x1 ≠ 1 : Prop) →
    wpM m_Z_note [.inr (.inr (40, k0, i0)), .inl x1, .inl x2, .inl r102] s102 (asV fun s103 =>
    Q (some (.inl r102)) s103)) ∧
  (¬ (x1 ≠ 1) →
    wpM m_Z_note [.inr (.inr (40, k0, i0)), .inl x1, .inl (-1), .inl r102] s102 (asV fun s104 =>
    Q (some (.inl r102)) s104)))))) :
  wpM m_Z_act [.inr (.inr (40, k0, i0)), .inl x1, .inl x2, .inl x3, .inl x4, .inl x5, .inl x6] σ Q :=
 wpM_of ml_267 (L := [some (.inr (.inr (40, k0, i0))), some (.inl x1), some (.inl x2), some (.inl x3), some (.inl x4), some (.inl x5), some (.inl x6), none]) rfl
 (w_aload_n (p' := 1) f_267_0 rfl rfl
 (w_callV (p' := 4) f_267_1 rfl rfl rfl rfl rfl (r := []) rfl rfl (kV rk_240 fun s101 h101 =>
 w_aload_n (p' := 5) f_267_4 rfl rfl
 (w_iload_n (p' := 6) f_267_5 rfl rfl
 (w_iload_n (p' := 7) f_267_6 rfl rfl
 (w_iload_n (p' := 8) f_267_7 rfl rfl
 (w_iload (p' := 10) f_267_8 rfl rfl
 (w_iload (p' := 12) f_267_10 rfl rfl
 (w_iload (p' := 14) f_267_12 rfl rfl
 (w_callV (p' := 17) f_267_14 rfl rfl rfl rfl rfl (r := []) rfl rfl (kI (.inl rk_265) fun r102 s102 h102 =>
 w_istore (p' := 19) f_267_17 (L' := [some (.inr (.inr (40, k0, i0))), some (.inl x1), some (.inl x2), some (.inl x3), some (.inl x4), some (.inl x5), some (.inl x6), some (.inl r102)]) rfl rfl
 (w_aload_n (p' := 20) f_267_19 rfl rfl
 (w_iload_n (p' := 21) f_267_20 rfl rfl
 (w_iload_n (p' := 22) f_267_21 rfl rfl
 (w_iconst (p' := 23) f_267_22 rfl
 (w_icmp (p' := 30) (q' := 26) f_267_23 rfl rfl
 (fun c105 => w_iload_n (p' := 31) f_267_30 rfl rfl
 (w_iload (p' := 33) f_267_31 rfl rfl
 (w_callV (p' := 36) f_267_33 rfl rfl rfl rfl rfl (r := []) rfl rfl (kV rk_266 fun s103 h103 =>
 w_iload (p' := 38) f_267_36 rfl rfl
 (w_iret f_267_38 rk_267 h103)) (h102.1 c105))))
 (fun c105 => w_iconst (p' := 27) f_267_26 rfl
 (w_goto (p' := 31) f_267_27 rfl
 (w_iload (p' := 33) f_267_31 rfl rfl
 (w_callV (p' := 36) f_267_33 rfl rfl rfl rfl rfl (r := []) rfl rfl (kV rk_266 fun s104 h104 =>
 w_iload (p' := 38) f_267_36 rfl rfl
 (w_iret f_267_38 rk_267 h104)) (h102.2 c105))))))))))) h101)))))))) h))
/-! ClosedRoomsModel.hand(IIIIIII)I -/
theorem f_268_0 : fnd 268 0 = some (0, .aload_n 0, 1, 0, 0, 0, 0) := ceB_eq (by decide +kernel)
theorem f_268_1 : fnd 268 1 = some (1, .iload_n 2, 1, 0, 0, 0, 0) := ceB_eq (by decide +kernel)
theorem f_268_2 : fnd 268 2 = some (2, .iload_n 3, 1, 0, 0, 0, 0) := ceB_eq (by decide +kernel)
theorem f_268_3 : fnd 268 3 = some (3, .iload 4, 2, 0, 0, 0, 0) := ceB_eq (by decide +kernel)
theorem f_268_5 : fnd 268 5 = some (5, .iload 5, 2, 0, 0, 0, 0) := ceB_eq (by decide +kernel)
theorem f_268_7 : fnd 268 7 = some (7, .iload 6, 2, 0, 0, 0, 0) := ceB_eq (by decide +kernel)
theorem f_268_9 : fnd 268 9 = some (9, .iload 7, 2, 0, 0, 0, 0) := ceB_eq (by decide +kernel)
theorem f_268_11 : fnd 268 11 = some (11, .invokevirtual 442, 3, 239, 7, 10, 0) := ceB_eq (by decide +kernel)
theorem f_268_14 : fnd 268 14 = some (14, .istore 8, 2, 0, 0, 0, 0) := ceB_eq (by decide +kernel)
theorem f_268_16 : fnd 268 16 = some (16, .iload 8, 2, 0, 0, 0, 0) := ceB_eq (by decide +kernel)
theorem f_268_18 : fnd 268 18 = some (18, .iconst (-1), 1, 0, 0, 0, 0) := ceB_eq (by decide +kernel)
theorem f_268_19 : fnd 268 19 = some (19, .if_icmp .eq 16, 3, 0, 0, 0, 0) := ceB_eq (by decide +kernel)
theorem f_268_22 : fnd 268 22 = some (22, .aload_n 0, 1, 0, 0, 0, 0) := ceB_eq (by decide +kernel)
theorem f_268_23 : fnd 268 23 = some (23, .getfield 28, 3, 10, 16, 16, 0) := ceB_eq (by decide +kernel)
theorem f_268_26 : fnd 268 26 = some (26, .iload 8, 2, 0, 0, 0, 0) := ceB_eq (by decide +kernel)
theorem f_268_28 : fnd 268 28 = some (28, .dup2, 1, 0, 0, 0, 0) := ceB_eq (by decide +kernel)
theorem f_268_29 : fnd 268 29 = some (29, .iaload, 1, 0, 0, 0, 0) := ceB_eq (by decide +kernel)
theorem f_268_30 : fnd 268 30 = some (30, .iconst 1, 1, 0, 0, 0, 0) := ceB_eq (by decide +kernel)
theorem f_268_31 : fnd 268 31 = some (31, .iadd, 1, 0, 0, 0, 0) := ceB_eq (by decide +kernel)
theorem f_268_32 : fnd 268 32 = some (32, .iastore, 1, 0, 0, 0, 0) := ceB_eq (by decide +kernel)
theorem f_268_33 : fnd 268 33 = some (33, .iload_n 1, 1, 0, 0, 0, 0) := ceB_eq (by decide +kernel)
theorem f_268_34 : fnd 268 34 = some (34, .ireturn, 1, 0, 0, 0, 0) := ceB_eq (by decide +kernel)
theorem f_268_35 : fnd 268 35 = some (35, .aload_n 0, 1, 0, 0, 0, 0) := ceB_eq (by decide +kernel)
theorem f_268_36 : fnd 268 36 = some (36, .iload_n 2, 1, 0, 0, 0, 0) := ceB_eq (by decide +kernel)
theorem f_268_37 : fnd 268 37 = some (37, .iload_n 3, 1, 0, 0, 0, 0) := ceB_eq (by decide +kernel)
theorem f_268_38 : fnd 268 38 = some (38, .iload 4, 2, 0, 0, 0, 0) := ceB_eq (by decide +kernel)
theorem f_268_40 : fnd 268 40 = some (40, .iload 5, 2, 0, 0, 0, 0) := ceB_eq (by decide +kernel)
theorem f_268_42 : fnd 268 42 = some (42, .iload 6, 2, 0, 0, 0, 0) := ceB_eq (by decide +kernel)
theorem f_268_44 : fnd 268 44 = some (44, .iload 7, 2, 0, 0, 0, 0) := ceB_eq (by decide +kernel)
theorem f_268_46 : fnd 268 46 = some (46, .invokevirtual 445, 3, 267, 7, 10, 0) := ceB_eq (by decide +kernel)
theorem f_268_49 : fnd 268 49 = some (49, .ireturn, 1, 0, 0, 0, 0) := ceB_eq (by decide +kernel)
theorem rk_268 : rkm 268 = 0 := by decide +kernel
theorem ml_268 : (mth 268).2.1 = 9 := by decide +kernel
set_option maxRecDepth 100000 in
theorem T_Z_hand (k0 i0 x1 x2 x3 x4 x5 x6 x7 : Int) (σ : ST) (Q : Option AV → ST → Prop) (h :
  wpM m_Z_whyNot [.inr (.inr (40, k0, i0)), .inl x2, .inl x3, .inl x4, .inl x5, .inl x6, .inl x7] σ (asI fun r101 s101 =>
  (((r101 = (-1) : Prop) →
    wpM m_Z_act [.inr (.inr (40, k0, i0)), .inl x2, .inl x3, .inl x4, .inl x5, .inl x6, .inl x7] s101 (asI fun r102 s102 =>
    Q (some (.inl r102)) s102)) ∧
  (¬ (r101 = (-1)) →
    ((0 : Int) ≤ r101 ∧ (r101 : Int) < 5) ∧
    ((0 : Int) ≤ r101 ∧ (r101 : Int) < 5) ∧
    Q (some (.inl x1)) (up s101 47 0 0 r101 (wr ((s101 47 0 0 r101) + 1))))))) :
  wpM m_Z_hand [.inr (.inr (40, k0, i0)), .inl x1, .inl x2, .inl x3, .inl x4, .inl x5, .inl x6, .inl x7] σ Q :=
 wpM_of ml_268 (L := [some (.inr (.inr (40, k0, i0))), some (.inl x1), some (.inl x2), some (.inl x3), some (.inl x4), some (.inl x5), some (.inl x6), some (.inl x7), none]) rfl
 (w_aload_n (p' := 1) f_268_0 rfl rfl
 (w_iload_n (p' := 2) f_268_1 rfl rfl
 (w_iload_n (p' := 3) f_268_2 rfl rfl
 (w_iload (p' := 5) f_268_3 rfl rfl
 (w_iload (p' := 7) f_268_5 rfl rfl
 (w_iload (p' := 9) f_268_7 rfl rfl
 (w_iload (p' := 11) f_268_9 rfl rfl
 (w_callV (p' := 14) f_268_11 rfl rfl rfl rfl rfl (r := []) rfl rfl (kI (.inl rk_239) fun r101 s101 h101 =>
 w_istore (p' := 16) f_268_14 (L' := [some (.inr (.inr (40, k0, i0))), some (.inl x1), some (.inl x2), some (.inl x3), some (.inl x4), some (.inl x5), some (.inl x6), some (.inl x7), some (.inl r101)]) rfl rfl
 (w_iload (p' := 18) f_268_16 rfl rfl
 (w_iconst (p' := 19) f_268_18 rfl
 (w_icmp (p' := 35) (q' := 22) f_268_19 rfl rfl
 (fun c103 => w_aload_n (p' := 36) f_268_35 rfl rfl
 (w_iload_n (p' := 37) f_268_36 rfl rfl
 (w_iload_n (p' := 38) f_268_37 rfl rfl
 (w_iload (p' := 40) f_268_38 rfl rfl
 (w_iload (p' := 42) f_268_40 rfl rfl
 (w_iload (p' := 44) f_268_42 rfl rfl
 (w_iload (p' := 46) f_268_44 rfl rfl
 (w_callV (p' := 49) f_268_46 rfl rfl rfl rfl rfl (r := []) rfl rfl (kI (.inl rk_267) fun r102 s102 h102 =>
 w_iret f_268_49 rk_268 h102) (h101.1 c103)))))))))
 (fun c103 => w_aload_n (p' := 23) f_268_22 rfl rfl
 (w_getfield (p' := 26) f_268_23 rfl (x := .inr (.inr (47, 0, 0))) rfl rfl
 (w_iload (p' := 28) f_268_26 rfl rfl
 (w_dup2 (p' := 29) f_268_28 rfl
 (w_iaload (p' := 30) f_268_29 rfl (n := 5) rfl (h101.2 c103).1 rfl
 (w_iconst (p' := 31) f_268_30 rfl
 (w_iadd (p' := 32) f_268_31 rfl
 (w_iastore (p' := 33) f_268_32 rfl (n := 5) rfl (h101.2 c103).2.1 rfl
 (w_iload_n (p' := 34) f_268_33 rfl rfl
 (w_iret f_268_34 rk_268 (h101.2 c103).2.2)))))))))))))) h))))))))
/-! ClosedRoomsModel.create(I)I -/
theorem f_269_0 : fnd 269 0 = some (0, .aload_n 0, 1, 0, 0, 0, 0) := ceB_eq (by decide +kernel)
theorem f_269_1 : fnd 269 1 = some (1, .iconst (-1), 1, 0, 0, 0, 0) := ceB_eq (by decide +kernel)
theorem f_269_2 : fnd 269 2 = some (2, .iconst 0, 1, 0, 0, 0, 0) := ceB_eq (by decide +kernel)
theorem f_269_3 : fnd 269 3 = some (3, .iload_n 1, 1, 0, 0, 0, 0) := ceB_eq (by decide +kernel)
theorem f_269_4 : fnd 269 4 = some (4, .iconst 0, 1, 0, 0, 0, 0) := ceB_eq (by decide +kernel)
theorem f_269_5 : fnd 269 5 = some (5, .iconst 0, 1, 0, 0, 0, 0) := ceB_eq (by decide +kernel)
theorem f_269_6 : fnd 269 6 = some (6, .iconst 0, 1, 0, 0, 0, 0) := ceB_eq (by decide +kernel)
theorem f_269_7 : fnd 269 7 = some (7, .iconst 0, 1, 0, 0, 0, 0) := ceB_eq (by decide +kernel)
theorem f_269_8 : fnd 269 8 = some (8, .invokevirtual 448, 3, 268, 8, 10, 0) := ceB_eq (by decide +kernel)
theorem f_269_11 : fnd 269 11 = some (11, .ireturn, 1, 0, 0, 0, 0) := ceB_eq (by decide +kernel)
theorem rk_269 : rkm 269 = 0 := by decide +kernel
theorem ml_269 : (mth 269).2.1 = 2 := by decide +kernel
set_option maxRecDepth 100000 in
theorem T_Z_create (k0 i0 x1 : Int) (σ : ST) (Q : Option AV → ST → Prop) (h :
  wpM m_Z_hand [.inr (.inr (40, k0, i0)), .inl (-1), .inl 0, .inl x1, .inl 0, .inl 0, .inl 0, .inl 0] σ (asI fun r101 s101 =>
  Q (some (.inl r101)) s101)) :
  wpM m_Z_create [.inr (.inr (40, k0, i0)), .inl x1] σ Q :=
 wpM_of ml_269 (L := [some (.inr (.inr (40, k0, i0))), some (.inl x1)]) rfl
 (w_aload_n (p' := 1) f_269_0 rfl rfl
 (w_iconst (p' := 2) f_269_1 rfl
 (w_iconst (p' := 3) f_269_2 rfl
 (w_iload_n (p' := 4) f_269_3 rfl rfl
 (w_iconst (p' := 5) f_269_4 rfl
 (w_iconst (p' := 6) f_269_5 rfl
 (w_iconst (p' := 7) f_269_6 rfl
 (w_iconst (p' := 8) f_269_7 rfl
 (w_callV (p' := 11) f_269_8 rfl rfl rfl rfl rfl (r := []) rfl rfl (kI (.inl rk_268) fun r101 s101 h101 =>
 w_iret f_269_11 rk_269 h101) h)))))))))
/-! ClosedRoomsModel.slots()I -/
theorem f_270_0 : fnd 270 0 = some (0, .aload_n 0, 1, 0, 0, 0, 0) := ceB_eq (by decide +kernel)
theorem f_270_1 : fnd 270 1 = some (1, .iconst (-1), 1, 0, 0, 0, 0) := ceB_eq (by decide +kernel)
theorem f_270_2 : fnd 270 2 = some (2, .iconst 1, 1, 0, 0, 0, 0) := ceB_eq (by decide +kernel)
theorem f_270_3 : fnd 270 3 = some (3, .iconst 0, 1, 0, 0, 0, 0) := ceB_eq (by decide +kernel)
theorem f_270_4 : fnd 270 4 = some (4, .iconst 0, 1, 0, 0, 0, 0) := ceB_eq (by decide +kernel)
theorem f_270_5 : fnd 270 5 = some (5, .iconst 0, 1, 0, 0, 0, 0) := ceB_eq (by decide +kernel)
theorem f_270_6 : fnd 270 6 = some (6, .iconst 0, 1, 0, 0, 0, 0) := ceB_eq (by decide +kernel)
theorem f_270_7 : fnd 270 7 = some (7, .iconst 0, 1, 0, 0, 0, 0) := ceB_eq (by decide +kernel)
theorem f_270_8 : fnd 270 8 = some (8, .invokevirtual 448, 3, 268, 8, 10, 0) := ceB_eq (by decide +kernel)
theorem f_270_11 : fnd 270 11 = some (11, .ireturn, 1, 0, 0, 0, 0) := ceB_eq (by decide +kernel)
theorem rk_270 : rkm 270 = 0 := by decide +kernel
theorem ml_270 : (mth 270).2.1 = 1 := by decide +kernel
set_option maxRecDepth 100000 in
theorem T_Z_slots (k0 i0 : Int) (σ : ST) (Q : Option AV → ST → Prop) (h :
  wpM m_Z_hand [.inr (.inr (40, k0, i0)), .inl (-1), .inl 1, .inl 0, .inl 0, .inl 0, .inl 0, .inl 0] σ (asI fun r101 s101 =>
  Q (some (.inl r101)) s101)) :
  wpM m_Z_slots [.inr (.inr (40, k0, i0))] σ Q :=
 wpM_of ml_270 (L := [some (.inr (.inr (40, k0, i0)))]) rfl
 (w_aload_n (p' := 1) f_270_0 rfl rfl
 (w_iconst (p' := 2) f_270_1 rfl
 (w_iconst (p' := 3) f_270_2 rfl
 (w_iconst (p' := 4) f_270_3 rfl
 (w_iconst (p' := 5) f_270_4 rfl
 (w_iconst (p' := 6) f_270_5 rfl
 (w_iconst (p' := 7) f_270_6 rfl
 (w_iconst (p' := 8) f_270_7 rfl
 (w_callV (p' := 11) f_270_8 rfl rfl rfl rfl rfl (r := []) rfl rfl (kI (.inl rk_268) fun r101 s101 h101 =>
 w_iret f_270_11 rk_270 h101) h)))))))))
/-! ClosedRoomsModel.add(IIIII)I -/
theorem f_271_0 : fnd 271 0 = some (0, .aload_n 0, 1, 0, 0, 0, 0) := ceB_eq (by decide +kernel)
theorem f_271_1 : fnd 271 1 = some (1, .iconst (-1), 1, 0, 0, 0, 0) := ceB_eq (by decide +kernel)
theorem f_271_2 : fnd 271 2 = some (2, .iconst 2, 1, 0, 0, 0, 0) := ceB_eq (by decide +kernel)
theorem f_271_3 : fnd 271 3 = some (3, .iload_n 1, 1, 0, 0, 0, 0) := ceB_eq (by decide +kernel)
theorem f_271_4 : fnd 271 4 = some (4, .iload_n 2, 1, 0, 0, 0, 0) := ceB_eq (by decide +kernel)
theorem f_271_5 : fnd 271 5 = some (5, .iload_n 3, 1, 0, 0, 0, 0) := ceB_eq (by decide +kernel)
theorem f_271_6 : fnd 271 6 = some (6, .iload 4, 2, 0, 0, 0, 0) := ceB_eq (by decide +kernel)
theorem f_271_8 : fnd 271 8 = some (8, .iload 5, 2, 0, 0, 0, 0) := ceB_eq (by decide +kernel)
theorem f_271_10 : fnd 271 10 = some (10, .invokevirtual 448, 3, 268, 8, 10, 0) := ceB_eq (by decide +kernel)
theorem f_271_13 : fnd 271 13 = some (13, .ireturn, 1, 0, 0, 0, 0) := ceB_eq (by decide +kernel)
theorem rk_271 : rkm 271 = 0 := by decide +kernel
theorem ml_271 : (mth 271).2.1 = 6 := by decide +kernel
set_option maxRecDepth 100000 in
theorem T_Z_add (k0 i0 x1 x2 x3 x4 x5 : Int) (σ : ST) (Q : Option AV → ST → Prop) (h :
  wpM m_Z_hand [.inr (.inr (40, k0, i0)), .inl (-1), .inl 2, .inl x1, .inl x2, .inl x3, .inl x4, .inl x5] σ (asI fun r101 s101 =>
  Q (some (.inl r101)) s101)) :
  wpM m_Z_add [.inr (.inr (40, k0, i0)), .inl x1, .inl x2, .inl x3, .inl x4, .inl x5] σ Q :=
 wpM_of ml_271 (L := [some (.inr (.inr (40, k0, i0))), some (.inl x1), some (.inl x2), some (.inl x3), some (.inl x4), some (.inl x5)]) rfl
 (w_aload_n (p' := 1) f_271_0 rfl rfl
 (w_iconst (p' := 2) f_271_1 rfl
 (w_iconst (p' := 3) f_271_2 rfl
 (w_iload_n (p' := 4) f_271_3 rfl rfl
 (w_iload_n (p' := 5) f_271_4 rfl rfl
 (w_iload_n (p' := 6) f_271_5 rfl rfl
 (w_iload (p' := 8) f_271_6 rfl rfl
 (w_iload (p' := 10) f_271_8 rfl rfl
 (w_callV (p' := 13) f_271_10 rfl rfl rfl rfl rfl (r := []) rfl rfl (kI (.inl rk_268) fun r101 s101 h101 =>
 w_iret f_271_13 rk_271 h101) h)))))))))
/-! ClosedRoomsModel.extend(II)I -/
theorem f_272_0 : fnd 272 0 = some (0, .aload_n 0, 1, 0, 0, 0, 0) := ceB_eq (by decide +kernel)
theorem f_272_1 : fnd 272 1 = some (1, .ldc_w 452, 3, 0, 0, 0, (-1000000)) := ceB_eq (by decide +kernel)
theorem f_272_4 : fnd 272 4 = some (4, .iconst 3, 1, 0, 0, 0, 0) := ceB_eq (by decide +kernel)
theorem f_272_5 : fnd 272 5 = some (5, .iload_n 1, 1, 0, 0, 0, 0) := ceB_eq (by decide +kernel)
theorem f_272_6 : fnd 272 6 = some (6, .iload_n 2, 1, 0, 0, 0, 0) := ceB_eq (by decide +kernel)
theorem f_272_7 : fnd 272 7 = some (7, .iconst 0, 1, 0, 0, 0, 0) := ceB_eq (by decide +kernel)
theorem f_272_8 : fnd 272 8 = some (8, .iconst 0, 1, 0, 0, 0, 0) := ceB_eq (by decide +kernel)
theorem f_272_9 : fnd 272 9 = some (9, .iconst 0, 1, 0, 0, 0, 0) := ceB_eq (by decide +kernel)
theorem f_272_10 : fnd 272 10 = some (10, .invokevirtual 448, 3, 268, 8, 10, 0) := ceB_eq (by decide +kernel)
theorem f_272_13 : fnd 272 13 = some (13, .ireturn, 1, 0, 0, 0, 0) := ceB_eq (by decide +kernel)
theorem rk_272 : rkm 272 = 0 := by decide +kernel
theorem ml_272 : (mth 272).2.1 = 3 := by decide +kernel
set_option maxRecDepth 100000 in
theorem T_Z_extend (k0 i0 x1 x2 : Int) (σ : ST) (Q : Option AV → ST → Prop) (h :
  wpM m_Z_hand [.inr (.inr (40, k0, i0)), .inl (-1000000), .inl 3, .inl x1, .inl x2, .inl 0, .inl 0, .inl 0] σ (asI fun r101 s101 =>
  Q (some (.inl r101)) s101)) :
  wpM m_Z_extend [.inr (.inr (40, k0, i0)), .inl x1, .inl x2] σ Q :=
 wpM_of ml_272 (L := [some (.inr (.inr (40, k0, i0))), some (.inl x1), some (.inl x2)]) rfl
 (w_aload_n (p' := 1) f_272_0 rfl rfl
 (w_ldc_w (p' := 4) f_272_1 rfl
 (w_iconst (p' := 5) f_272_4 rfl
 (w_iload_n (p' := 6) f_272_5 rfl rfl
 (w_iload_n (p' := 7) f_272_6 rfl rfl
 (w_iconst (p' := 8) f_272_7 rfl
 (w_iconst (p' := 9) f_272_8 rfl
 (w_iconst (p' := 10) f_272_9 rfl
 (w_callV (p' := 13) f_272_10 rfl rfl rfl rfl rfl (r := []) rfl rfl (kI (.inl rk_268) fun r101 s101 h101 =>
 w_iret f_272_13 rk_272 h101) h)))))))))
/-! ClosedRoomsModel.seal(II)I -/
theorem f_273_0 : fnd 273 0 = some (0, .aload_n 0, 1, 0, 0, 0, 0) := ceB_eq (by decide +kernel)
theorem f_273_1 : fnd 273 1 = some (1, .iconst (-1), 1, 0, 0, 0, 0) := ceB_eq (by decide +kernel)
theorem f_273_2 : fnd 273 2 = some (2, .iconst 4, 1, 0, 0, 0, 0) := ceB_eq (by decide +kernel)
theorem f_273_3 : fnd 273 3 = some (3, .iload_n 1, 1, 0, 0, 0, 0) := ceB_eq (by decide +kernel)
theorem f_273_4 : fnd 273 4 = some (4, .iload_n 2, 1, 0, 0, 0, 0) := ceB_eq (by decide +kernel)
theorem f_273_5 : fnd 273 5 = some (5, .iconst 0, 1, 0, 0, 0, 0) := ceB_eq (by decide +kernel)
theorem f_273_6 : fnd 273 6 = some (6, .iconst 0, 1, 0, 0, 0, 0) := ceB_eq (by decide +kernel)
theorem f_273_7 : fnd 273 7 = some (7, .iconst 0, 1, 0, 0, 0, 0) := ceB_eq (by decide +kernel)
theorem f_273_8 : fnd 273 8 = some (8, .invokevirtual 448, 3, 268, 8, 10, 0) := ceB_eq (by decide +kernel)
theorem f_273_11 : fnd 273 11 = some (11, .ireturn, 1, 0, 0, 0, 0) := ceB_eq (by decide +kernel)
theorem rk_273 : rkm 273 = 0 := by decide +kernel
theorem ml_273 : (mth 273).2.1 = 3 := by decide +kernel
set_option maxRecDepth 100000 in
theorem T_Z_seal (k0 i0 x1 x2 : Int) (σ : ST) (Q : Option AV → ST → Prop) (h :
  wpM m_Z_hand [.inr (.inr (40, k0, i0)), .inl (-1), .inl 4, .inl x1, .inl x2, .inl 0, .inl 0, .inl 0] σ (asI fun r101 s101 =>
  Q (some (.inl r101)) s101)) :
  wpM m_Z_seal [.inr (.inr (40, k0, i0)), .inl x1, .inl x2] σ Q :=
 wpM_of ml_273 (L := [some (.inr (.inr (40, k0, i0))), some (.inl x1), some (.inl x2)]) rfl
 (w_aload_n (p' := 1) f_273_0 rfl rfl
 (w_iconst (p' := 2) f_273_1 rfl
 (w_iconst (p' := 3) f_273_2 rfl
 (w_iload_n (p' := 4) f_273_3 rfl rfl
 (w_iload_n (p' := 5) f_273_4 rfl rfl
 (w_iconst (p' := 6) f_273_5 rfl
 (w_iconst (p' := 7) f_273_6 rfl
 (w_iconst (p' := 8) f_273_7 rfl
 (w_callV (p' := 11) f_273_8 rfl rfl rfl rfl rfl (r := []) rfl rfl (kI (.inl rk_268) fun r101 s101 h101 =>
 w_iret f_273_11 rk_273 h101) h)))))))))
/-! ClosedRoomsModel.enter(III)I -/
theorem f_274_0 : fnd 274 0 = some (0, .aload_n 0, 1, 0, 0, 0, 0) := ceB_eq (by decide +kernel)
theorem f_274_1 : fnd 274 1 = some (1, .iconst (-1), 1, 0, 0, 0, 0) := ceB_eq (by decide +kernel)
theorem f_274_2 : fnd 274 2 = some (2, .iconst 5, 1, 0, 0, 0, 0) := ceB_eq (by decide +kernel)
theorem f_274_3 : fnd 274 3 = some (3, .iload_n 1, 1, 0, 0, 0, 0) := ceB_eq (by decide +kernel)
theorem f_274_4 : fnd 274 4 = some (4, .iload_n 2, 1, 0, 0, 0, 0) := ceB_eq (by decide +kernel)
theorem f_274_5 : fnd 274 5 = some (5, .iload_n 3, 1, 0, 0, 0, 0) := ceB_eq (by decide +kernel)
theorem f_274_6 : fnd 274 6 = some (6, .iconst 0, 1, 0, 0, 0, 0) := ceB_eq (by decide +kernel)
theorem f_274_7 : fnd 274 7 = some (7, .iconst 0, 1, 0, 0, 0, 0) := ceB_eq (by decide +kernel)
theorem f_274_8 : fnd 274 8 = some (8, .invokevirtual 448, 3, 268, 8, 10, 0) := ceB_eq (by decide +kernel)
theorem f_274_11 : fnd 274 11 = some (11, .ireturn, 1, 0, 0, 0, 0) := ceB_eq (by decide +kernel)
theorem rk_274 : rkm 274 = 0 := by decide +kernel
theorem ml_274 : (mth 274).2.1 = 4 := by decide +kernel
set_option maxRecDepth 100000 in
theorem T_Z_enter (k0 i0 x1 x2 x3 : Int) (σ : ST) (Q : Option AV → ST → Prop) (h :
  wpM m_Z_hand [.inr (.inr (40, k0, i0)), .inl (-1), .inl 5, .inl x1, .inl x2, .inl x3, .inl 0, .inl 0] σ (asI fun r101 s101 =>
  Q (some (.inl r101)) s101)) :
  wpM m_Z_enter [.inr (.inr (40, k0, i0)), .inl x1, .inl x2, .inl x3] σ Q :=
 wpM_of ml_274 (L := [some (.inr (.inr (40, k0, i0))), some (.inl x1), some (.inl x2), some (.inl x3)]) rfl
 (w_aload_n (p' := 1) f_274_0 rfl rfl
 (w_iconst (p' := 2) f_274_1 rfl
 (w_iconst (p' := 3) f_274_2 rfl
 (w_iload_n (p' := 4) f_274_3 rfl rfl
 (w_iload_n (p' := 5) f_274_4 rfl rfl
 (w_iload_n (p' := 6) f_274_5 rfl rfl
 (w_iconst (p' := 7) f_274_6 rfl
 (w_iconst (p' := 8) f_274_7 rfl
 (w_callV (p' := 11) f_274_8 rfl rfl rfl rfl rfl (r := []) rfl rfl (kI (.inl rk_268) fun r101 s101 h101 =>
 w_iret f_274_11 rk_274 h101) h)))))))))
/-! ClosedRoomsModel.leave(I)I -/
theorem f_275_0 : fnd 275 0 = some (0, .aload_n 0, 1, 0, 0, 0, 0) := ceB_eq (by decide +kernel)
theorem f_275_1 : fnd 275 1 = some (1, .iconst (-1), 1, 0, 0, 0, 0) := ceB_eq (by decide +kernel)
theorem f_275_2 : fnd 275 2 = some (2, .bipush 6, 2, 0, 0, 0, 0) := ceB_eq (by decide +kernel)
theorem f_275_4 : fnd 275 4 = some (4, .iload_n 1, 1, 0, 0, 0, 0) := ceB_eq (by decide +kernel)
theorem f_275_5 : fnd 275 5 = some (5, .iconst 0, 1, 0, 0, 0, 0) := ceB_eq (by decide +kernel)
theorem f_275_6 : fnd 275 6 = some (6, .iconst 0, 1, 0, 0, 0, 0) := ceB_eq (by decide +kernel)
theorem f_275_7 : fnd 275 7 = some (7, .iconst 0, 1, 0, 0, 0, 0) := ceB_eq (by decide +kernel)
theorem f_275_8 : fnd 275 8 = some (8, .iconst 0, 1, 0, 0, 0, 0) := ceB_eq (by decide +kernel)
theorem f_275_9 : fnd 275 9 = some (9, .invokevirtual 448, 3, 268, 8, 10, 0) := ceB_eq (by decide +kernel)
theorem f_275_12 : fnd 275 12 = some (12, .ireturn, 1, 0, 0, 0, 0) := ceB_eq (by decide +kernel)
theorem rk_275 : rkm 275 = 0 := by decide +kernel
theorem ml_275 : (mth 275).2.1 = 2 := by decide +kernel
set_option maxRecDepth 100000 in
theorem T_Z_leave (k0 i0 x1 : Int) (σ : ST) (Q : Option AV → ST → Prop) (h :
  wpM m_Z_hand [.inr (.inr (40, k0, i0)), .inl (-1), .inl 6, .inl x1, .inl 0, .inl 0, .inl 0, .inl 0] σ (asI fun r101 s101 =>
  Q (some (.inl r101)) s101)) :
  wpM m_Z_leave [.inr (.inr (40, k0, i0)), .inl x1] σ Q :=
 wpM_of ml_275 (L := [some (.inr (.inr (40, k0, i0))), some (.inl x1)]) rfl
 (w_aload_n (p' := 1) f_275_0 rfl rfl
 (w_iconst (p' := 2) f_275_1 rfl
 (w_bipush (p' := 4) f_275_2 rfl
 (w_iload_n (p' := 5) f_275_4 rfl rfl
 (w_iconst (p' := 6) f_275_5 rfl
 (w_iconst (p' := 7) f_275_6 rfl
 (w_iconst (p' := 8) f_275_7 rfl
 (w_iconst (p' := 9) f_275_8 rfl
 (w_callV (p' := 12) f_275_9 rfl rfl rfl rfl rfl (r := []) rfl rfl (kI (.inl rk_268) fun r101 s101 h101 =>
 w_iret f_275_12 rk_275 h101) h)))))))))
/-! ClosedRoomsModel.trap(I)I -/
theorem f_276_0 : fnd 276 0 = some (0, .aload_n 0, 1, 0, 0, 0, 0) := ceB_eq (by decide +kernel)
theorem f_276_1 : fnd 276 1 = some (1, .iconst (-1), 1, 0, 0, 0, 0) := ceB_eq (by decide +kernel)
theorem f_276_2 : fnd 276 2 = some (2, .bipush 7, 2, 0, 0, 0, 0) := ceB_eq (by decide +kernel)
theorem f_276_4 : fnd 276 4 = some (4, .iload_n 1, 1, 0, 0, 0, 0) := ceB_eq (by decide +kernel)
theorem f_276_5 : fnd 276 5 = some (5, .iconst 0, 1, 0, 0, 0, 0) := ceB_eq (by decide +kernel)
theorem f_276_6 : fnd 276 6 = some (6, .iconst 0, 1, 0, 0, 0, 0) := ceB_eq (by decide +kernel)
theorem f_276_7 : fnd 276 7 = some (7, .iconst 0, 1, 0, 0, 0, 0) := ceB_eq (by decide +kernel)
theorem f_276_8 : fnd 276 8 = some (8, .iconst 0, 1, 0, 0, 0, 0) := ceB_eq (by decide +kernel)
theorem f_276_9 : fnd 276 9 = some (9, .invokevirtual 448, 3, 268, 8, 10, 0) := ceB_eq (by decide +kernel)
theorem f_276_12 : fnd 276 12 = some (12, .ireturn, 1, 0, 0, 0, 0) := ceB_eq (by decide +kernel)
theorem rk_276 : rkm 276 = 0 := by decide +kernel
theorem ml_276 : (mth 276).2.1 = 2 := by decide +kernel
set_option maxRecDepth 100000 in
theorem T_Z_trap (k0 i0 x1 : Int) (σ : ST) (Q : Option AV → ST → Prop) (h :
  wpM m_Z_hand [.inr (.inr (40, k0, i0)), .inl (-1), .inl 7, .inl x1, .inl 0, .inl 0, .inl 0, .inl 0] σ (asI fun r101 s101 =>
  Q (some (.inl r101)) s101)) :
  wpM m_Z_trap [.inr (.inr (40, k0, i0)), .inl x1] σ Q :=
 wpM_of ml_276 (L := [some (.inr (.inr (40, k0, i0))), some (.inl x1)]) rfl
 (w_aload_n (p' := 1) f_276_0 rfl rfl
 (w_iconst (p' := 2) f_276_1 rfl
 (w_bipush (p' := 4) f_276_2 rfl
 (w_iload_n (p' := 5) f_276_4 rfl rfl
 (w_iconst (p' := 6) f_276_5 rfl
 (w_iconst (p' := 7) f_276_6 rfl
 (w_iconst (p' := 8) f_276_7 rfl
 (w_iconst (p' := 9) f_276_8 rfl
 (w_callV (p' := 12) f_276_9 rfl rfl rfl rfl rfl (r := []) rfl rfl (kI (.inl rk_268) fun r101 s101 h101 =>
 w_iret f_276_12 rk_276 h101) h)))))))))
/-! ClosedRoomsModel.resume(III)I -/
theorem f_277_0 : fnd 277 0 = some (0, .aload_n 0, 1, 0, 0, 0, 0) := ceB_eq (by decide +kernel)
theorem f_277_1 : fnd 277 1 = some (1, .iconst (-1), 1, 0, 0, 0, 0) := ceB_eq (by decide +kernel)
theorem f_277_2 : fnd 277 2 = some (2, .bipush 8, 2, 0, 0, 0, 0) := ceB_eq (by decide +kernel)
theorem f_277_4 : fnd 277 4 = some (4, .iload_n 1, 1, 0, 0, 0, 0) := ceB_eq (by decide +kernel)
theorem f_277_5 : fnd 277 5 = some (5, .iload_n 2, 1, 0, 0, 0, 0) := ceB_eq (by decide +kernel)
theorem f_277_6 : fnd 277 6 = some (6, .iload_n 3, 1, 0, 0, 0, 0) := ceB_eq (by decide +kernel)
theorem f_277_7 : fnd 277 7 = some (7, .iconst 0, 1, 0, 0, 0, 0) := ceB_eq (by decide +kernel)
theorem f_277_8 : fnd 277 8 = some (8, .iconst 0, 1, 0, 0, 0, 0) := ceB_eq (by decide +kernel)
theorem f_277_9 : fnd 277 9 = some (9, .invokevirtual 448, 3, 268, 8, 10, 0) := ceB_eq (by decide +kernel)
theorem f_277_12 : fnd 277 12 = some (12, .ireturn, 1, 0, 0, 0, 0) := ceB_eq (by decide +kernel)
theorem rk_277 : rkm 277 = 0 := by decide +kernel
theorem ml_277 : (mth 277).2.1 = 4 := by decide +kernel
set_option maxRecDepth 100000 in
theorem T_Z_resume (k0 i0 x1 x2 x3 : Int) (σ : ST) (Q : Option AV → ST → Prop) (h :
  wpM m_Z_hand [.inr (.inr (40, k0, i0)), .inl (-1), .inl 8, .inl x1, .inl x2, .inl x3, .inl 0, .inl 0] σ (asI fun r101 s101 =>
  Q (some (.inl r101)) s101)) :
  wpM m_Z_resume [.inr (.inr (40, k0, i0)), .inl x1, .inl x2, .inl x3] σ Q :=
 wpM_of ml_277 (L := [some (.inr (.inr (40, k0, i0))), some (.inl x1), some (.inl x2), some (.inl x3)]) rfl
 (w_aload_n (p' := 1) f_277_0 rfl rfl
 (w_iconst (p' := 2) f_277_1 rfl
 (w_bipush (p' := 4) f_277_2 rfl
 (w_iload_n (p' := 5) f_277_4 rfl rfl
 (w_iload_n (p' := 6) f_277_5 rfl rfl
 (w_iload_n (p' := 7) f_277_6 rfl rfl
 (w_iconst (p' := 8) f_277_7 rfl
 (w_iconst (p' := 9) f_277_8 rfl
 (w_callV (p' := 12) f_277_9 rfl rfl rfl rfl rfl (r := []) rfl rfl (kI (.inl rk_268) fun r101 s101 h101 =>
 w_iret f_277_12 rk_277 h101) h)))))))))
/-! ClosedRoomsModel.touch(III)I -/
theorem f_278_0 : fnd 278 0 = some (0, .aload_n 0, 1, 0, 0, 0, 0) := ceB_eq (by decide +kernel)
theorem f_278_1 : fnd 278 1 = some (1, .iconst (-1), 1, 0, 0, 0, 0) := ceB_eq (by decide +kernel)
theorem f_278_2 : fnd 278 2 = some (2, .bipush 9, 2, 0, 0, 0, 0) := ceB_eq (by decide +kernel)
theorem f_278_4 : fnd 278 4 = some (4, .iload_n 1, 1, 0, 0, 0, 0) := ceB_eq (by decide +kernel)
theorem f_278_5 : fnd 278 5 = some (5, .iload_n 2, 1, 0, 0, 0, 0) := ceB_eq (by decide +kernel)
theorem f_278_6 : fnd 278 6 = some (6, .iload_n 3, 1, 0, 0, 0, 0) := ceB_eq (by decide +kernel)
theorem f_278_7 : fnd 278 7 = some (7, .iconst 0, 1, 0, 0, 0, 0) := ceB_eq (by decide +kernel)
theorem f_278_8 : fnd 278 8 = some (8, .iconst 0, 1, 0, 0, 0, 0) := ceB_eq (by decide +kernel)
theorem f_278_9 : fnd 278 9 = some (9, .invokevirtual 448, 3, 268, 8, 10, 0) := ceB_eq (by decide +kernel)
theorem f_278_12 : fnd 278 12 = some (12, .ireturn, 1, 0, 0, 0, 0) := ceB_eq (by decide +kernel)
theorem rk_278 : rkm 278 = 0 := by decide +kernel
theorem ml_278 : (mth 278).2.1 = 4 := by decide +kernel
set_option maxRecDepth 100000 in
theorem T_Z_touch (k0 i0 x1 x2 x3 : Int) (σ : ST) (Q : Option AV → ST → Prop) (h :
  wpM m_Z_hand [.inr (.inr (40, k0, i0)), .inl (-1), .inl 9, .inl x1, .inl x2, .inl x3, .inl 0, .inl 0] σ (asI fun r101 s101 =>
  Q (some (.inl r101)) s101)) :
  wpM m_Z_touch [.inr (.inr (40, k0, i0)), .inl x1, .inl x2, .inl x3] σ Q :=
 wpM_of ml_278 (L := [some (.inr (.inr (40, k0, i0))), some (.inl x1), some (.inl x2), some (.inl x3)]) rfl
 (w_aload_n (p' := 1) f_278_0 rfl rfl
 (w_iconst (p' := 2) f_278_1 rfl
 (w_bipush (p' := 4) f_278_2 rfl
 (w_iload_n (p' := 5) f_278_4 rfl rfl
 (w_iload_n (p' := 6) f_278_5 rfl rfl
 (w_iload_n (p' := 7) f_278_6 rfl rfl
 (w_iconst (p' := 8) f_278_7 rfl
 (w_iconst (p' := 9) f_278_8 rfl
 (w_callV (p' := 12) f_278_9 rfl rfl rfl rfl rfl (r := []) rfl rfl (kI (.inl rk_268) fun r101 s101 h101 =>
 w_iret f_278_12 rk_278 h101) h)))))))))
/-! ClosedRoomsModel.block(I)I -/
theorem f_279_0 : fnd 279 0 = some (0, .aload_n 0, 1, 0, 0, 0, 0) := ceB_eq (by decide +kernel)
theorem f_279_1 : fnd 279 1 = some (1, .iconst (-1), 1, 0, 0, 0, 0) := ceB_eq (by decide +kernel)
theorem f_279_2 : fnd 279 2 = some (2, .bipush 10, 2, 0, 0, 0, 0) := ceB_eq (by decide +kernel)
theorem f_279_4 : fnd 279 4 = some (4, .iload_n 1, 1, 0, 0, 0, 0) := ceB_eq (by decide +kernel)
theorem f_279_5 : fnd 279 5 = some (5, .iconst 0, 1, 0, 0, 0, 0) := ceB_eq (by decide +kernel)
theorem f_279_6 : fnd 279 6 = some (6, .iconst 0, 1, 0, 0, 0, 0) := ceB_eq (by decide +kernel)
theorem f_279_7 : fnd 279 7 = some (7, .iconst 0, 1, 0, 0, 0, 0) := ceB_eq (by decide +kernel)
theorem f_279_8 : fnd 279 8 = some (8, .iconst 0, 1, 0, 0, 0, 0) := ceB_eq (by decide +kernel)
theorem f_279_9 : fnd 279 9 = some (9, .invokevirtual 448, 3, 268, 8, 10, 0) := ceB_eq (by decide +kernel)
theorem f_279_12 : fnd 279 12 = some (12, .ireturn, 1, 0, 0, 0, 0) := ceB_eq (by decide +kernel)
theorem rk_279 : rkm 279 = 0 := by decide +kernel
theorem ml_279 : (mth 279).2.1 = 2 := by decide +kernel
set_option maxRecDepth 100000 in
theorem T_Z_block (k0 i0 x1 : Int) (σ : ST) (Q : Option AV → ST → Prop) (h :
  wpM m_Z_hand [.inr (.inr (40, k0, i0)), .inl (-1), .inl 10, .inl x1, .inl 0, .inl 0, .inl 0, .inl 0] σ (asI fun r101 s101 =>
  Q (some (.inl r101)) s101)) :
  wpM m_Z_block [.inr (.inr (40, k0, i0)), .inl x1] σ Q :=
 wpM_of ml_279 (L := [some (.inr (.inr (40, k0, i0))), some (.inl x1)]) rfl
 (w_aload_n (p' := 1) f_279_0 rfl rfl
 (w_iconst (p' := 2) f_279_1 rfl
 (w_bipush (p' := 4) f_279_2 rfl
 (w_iload_n (p' := 5) f_279_4 rfl rfl
 (w_iconst (p' := 6) f_279_5 rfl
 (w_iconst (p' := 7) f_279_6 rfl
 (w_iconst (p' := 8) f_279_7 rfl
 (w_iconst (p' := 9) f_279_8 rfl
 (w_callV (p' := 12) f_279_9 rfl rfl rfl rfl rfl (r := []) rfl rfl (kI (.inl rk_268) fun r101 s101 h101 =>
 w_iret f_279_12 rk_279 h101) h)))))))))
/-! ClosedRoomsModel.track(I)I -/
theorem f_280_0 : fnd 280 0 = some (0, .aload_n 0, 1, 0, 0, 0, 0) := ceB_eq (by decide +kernel)
theorem f_280_1 : fnd 280 1 = some (1, .iconst (-1), 1, 0, 0, 0, 0) := ceB_eq (by decide +kernel)
theorem f_280_2 : fnd 280 2 = some (2, .bipush 11, 2, 0, 0, 0, 0) := ceB_eq (by decide +kernel)
theorem f_280_4 : fnd 280 4 = some (4, .iload_n 1, 1, 0, 0, 0, 0) := ceB_eq (by decide +kernel)
theorem f_280_5 : fnd 280 5 = some (5, .iconst 0, 1, 0, 0, 0, 0) := ceB_eq (by decide +kernel)
theorem f_280_6 : fnd 280 6 = some (6, .iconst 0, 1, 0, 0, 0, 0) := ceB_eq (by decide +kernel)
theorem f_280_7 : fnd 280 7 = some (7, .iconst 0, 1, 0, 0, 0, 0) := ceB_eq (by decide +kernel)
theorem f_280_8 : fnd 280 8 = some (8, .iconst 0, 1, 0, 0, 0, 0) := ceB_eq (by decide +kernel)
theorem f_280_9 : fnd 280 9 = some (9, .invokevirtual 448, 3, 268, 8, 10, 0) := ceB_eq (by decide +kernel)
theorem f_280_12 : fnd 280 12 = some (12, .ireturn, 1, 0, 0, 0, 0) := ceB_eq (by decide +kernel)
theorem rk_280 : rkm 280 = 0 := by decide +kernel
theorem ml_280 : (mth 280).2.1 = 2 := by decide +kernel
set_option maxRecDepth 100000 in
theorem T_Z_track (k0 i0 x1 : Int) (σ : ST) (Q : Option AV → ST → Prop) (h :
  wpM m_Z_hand [.inr (.inr (40, k0, i0)), .inl (-1), .inl 11, .inl x1, .inl 0, .inl 0, .inl 0, .inl 0] σ (asI fun r101 s101 =>
  Q (some (.inl r101)) s101)) :
  wpM m_Z_track [.inr (.inr (40, k0, i0)), .inl x1] σ Q :=
 wpM_of ml_280 (L := [some (.inr (.inr (40, k0, i0))), some (.inl x1)]) rfl
 (w_aload_n (p' := 1) f_280_0 rfl rfl
 (w_iconst (p' := 2) f_280_1 rfl
 (w_bipush (p' := 4) f_280_2 rfl
 (w_iload_n (p' := 5) f_280_4 rfl rfl
 (w_iconst (p' := 6) f_280_5 rfl
 (w_iconst (p' := 7) f_280_6 rfl
 (w_iconst (p' := 8) f_280_7 rfl
 (w_iconst (p' := 9) f_280_8 rfl
 (w_callV (p' := 12) f_280_9 rfl rfl rfl rfl rfl (r := []) rfl rfl (kI (.inl rk_268) fun r101 s101 h101 =>
 w_iret f_280_12 rk_280 h101) h)))))))))
/-! ClosedRoomsModel.evict(III)I -/
theorem f_281_0 : fnd 281 0 = some (0, .aload_n 0, 1, 0, 0, 0, 0) := ceB_eq (by decide +kernel)
theorem f_281_1 : fnd 281 1 = some (1, .iconst (-1), 1, 0, 0, 0, 0) := ceB_eq (by decide +kernel)
theorem f_281_2 : fnd 281 2 = some (2, .bipush 12, 2, 0, 0, 0, 0) := ceB_eq (by decide +kernel)
theorem f_281_4 : fnd 281 4 = some (4, .iload_n 1, 1, 0, 0, 0, 0) := ceB_eq (by decide +kernel)
theorem f_281_5 : fnd 281 5 = some (5, .iload_n 2, 1, 0, 0, 0, 0) := ceB_eq (by decide +kernel)
theorem f_281_6 : fnd 281 6 = some (6, .iload_n 3, 1, 0, 0, 0, 0) := ceB_eq (by decide +kernel)
theorem f_281_7 : fnd 281 7 = some (7, .iconst 0, 1, 0, 0, 0, 0) := ceB_eq (by decide +kernel)
theorem f_281_8 : fnd 281 8 = some (8, .iconst 0, 1, 0, 0, 0, 0) := ceB_eq (by decide +kernel)
theorem f_281_9 : fnd 281 9 = some (9, .invokevirtual 448, 3, 268, 8, 10, 0) := ceB_eq (by decide +kernel)
theorem f_281_12 : fnd 281 12 = some (12, .ireturn, 1, 0, 0, 0, 0) := ceB_eq (by decide +kernel)
theorem rk_281 : rkm 281 = 0 := by decide +kernel
theorem ml_281 : (mth 281).2.1 = 4 := by decide +kernel
set_option maxRecDepth 100000 in
theorem T_Z_evict (k0 i0 x1 x2 x3 : Int) (σ : ST) (Q : Option AV → ST → Prop) (h :
  wpM m_Z_hand [.inr (.inr (40, k0, i0)), .inl (-1), .inl 12, .inl x1, .inl x2, .inl x3, .inl 0, .inl 0] σ (asI fun r101 s101 =>
  Q (some (.inl r101)) s101)) :
  wpM m_Z_evict [.inr (.inr (40, k0, i0)), .inl x1, .inl x2, .inl x3] σ Q :=
 wpM_of ml_281 (L := [some (.inr (.inr (40, k0, i0))), some (.inl x1), some (.inl x2), some (.inl x3)]) rfl
 (w_aload_n (p' := 1) f_281_0 rfl rfl
 (w_iconst (p' := 2) f_281_1 rfl
 (w_bipush (p' := 4) f_281_2 rfl
 (w_iload_n (p' := 5) f_281_4 rfl rfl
 (w_iload_n (p' := 6) f_281_5 rfl rfl
 (w_iload_n (p' := 7) f_281_6 rfl rfl
 (w_iconst (p' := 8) f_281_7 rfl
 (w_iconst (p' := 9) f_281_8 rfl
 (w_callV (p' := 12) f_281_9 rfl rfl rfl rfl rfl (r := []) rfl rfl (kI (.inl rk_268) fun r101 s101 h101 =>
 w_iret f_281_12 rk_281 h101) h)))))))))
/-! ClosedRoomsModel.load(III)I -/
theorem f_282_0 : fnd 282 0 = some (0, .aload_n 0, 1, 0, 0, 0, 0) := ceB_eq (by decide +kernel)
theorem f_282_1 : fnd 282 1 = some (1, .iconst (-1), 1, 0, 0, 0, 0) := ceB_eq (by decide +kernel)
theorem f_282_2 : fnd 282 2 = some (2, .bipush 13, 2, 0, 0, 0, 0) := ceB_eq (by decide +kernel)
theorem f_282_4 : fnd 282 4 = some (4, .iload_n 1, 1, 0, 0, 0, 0) := ceB_eq (by decide +kernel)
theorem f_282_5 : fnd 282 5 = some (5, .iload_n 2, 1, 0, 0, 0, 0) := ceB_eq (by decide +kernel)
theorem f_282_6 : fnd 282 6 = some (6, .iload_n 3, 1, 0, 0, 0, 0) := ceB_eq (by decide +kernel)
theorem f_282_7 : fnd 282 7 = some (7, .iconst 0, 1, 0, 0, 0, 0) := ceB_eq (by decide +kernel)
theorem f_282_8 : fnd 282 8 = some (8, .iconst 0, 1, 0, 0, 0, 0) := ceB_eq (by decide +kernel)
theorem f_282_9 : fnd 282 9 = some (9, .invokevirtual 448, 3, 268, 8, 10, 0) := ceB_eq (by decide +kernel)
theorem f_282_12 : fnd 282 12 = some (12, .ireturn, 1, 0, 0, 0, 0) := ceB_eq (by decide +kernel)
theorem rk_282 : rkm 282 = 0 := by decide +kernel
theorem ml_282 : (mth 282).2.1 = 4 := by decide +kernel
set_option maxRecDepth 100000 in
theorem T_Z_load (k0 i0 x1 x2 x3 : Int) (σ : ST) (Q : Option AV → ST → Prop) (h :
  wpM m_Z_hand [.inr (.inr (40, k0, i0)), .inl (-1), .inl 13, .inl x1, .inl x2, .inl x3, .inl 0, .inl 0] σ (asI fun r101 s101 =>
  Q (some (.inl r101)) s101)) :
  wpM m_Z_load [.inr (.inr (40, k0, i0)), .inl x1, .inl x2, .inl x3] σ Q :=
 wpM_of ml_282 (L := [some (.inr (.inr (40, k0, i0))), some (.inl x1), some (.inl x2), some (.inl x3)]) rfl
 (w_aload_n (p' := 1) f_282_0 rfl rfl
 (w_iconst (p' := 2) f_282_1 rfl
 (w_bipush (p' := 4) f_282_2 rfl
 (w_iload_n (p' := 5) f_282_4 rfl rfl
 (w_iload_n (p' := 6) f_282_5 rfl rfl
 (w_iload_n (p' := 7) f_282_6 rfl rfl
 (w_iconst (p' := 8) f_282_7 rfl
 (w_iconst (p' := 9) f_282_8 rfl
 (w_callV (p' := 12) f_282_9 rfl rfl rfl rfl rfl (r := []) rfl rfl (kI (.inl rk_268) fun r101 s101 h101 =>
 w_iret f_282_12 rk_282 h101) h)))))))))
/-! ClosedRoomsModel.remove(I)I -/
theorem f_283_0 : fnd 283 0 = some (0, .aload_n 0, 1, 0, 0, 0, 0) := ceB_eq (by decide +kernel)
theorem f_283_1 : fnd 283 1 = some (1, .iconst (-1), 1, 0, 0, 0, 0) := ceB_eq (by decide +kernel)
theorem f_283_2 : fnd 283 2 = some (2, .bipush 14, 2, 0, 0, 0, 0) := ceB_eq (by decide +kernel)
theorem f_283_4 : fnd 283 4 = some (4, .iload_n 1, 1, 0, 0, 0, 0) := ceB_eq (by decide +kernel)
theorem f_283_5 : fnd 283 5 = some (5, .iconst 0, 1, 0, 0, 0, 0) := ceB_eq (by decide +kernel)
theorem f_283_6 : fnd 283 6 = some (6, .iconst 0, 1, 0, 0, 0, 0) := ceB_eq (by decide +kernel)
theorem f_283_7 : fnd 283 7 = some (7, .iconst 0, 1, 0, 0, 0, 0) := ceB_eq (by decide +kernel)
theorem f_283_8 : fnd 283 8 = some (8, .iconst 0, 1, 0, 0, 0, 0) := ceB_eq (by decide +kernel)
theorem f_283_9 : fnd 283 9 = some (9, .invokevirtual 448, 3, 268, 8, 10, 0) := ceB_eq (by decide +kernel)
theorem f_283_12 : fnd 283 12 = some (12, .ireturn, 1, 0, 0, 0, 0) := ceB_eq (by decide +kernel)
theorem rk_283 : rkm 283 = 0 := by decide +kernel
theorem ml_283 : (mth 283).2.1 = 2 := by decide +kernel
set_option maxRecDepth 100000 in
theorem T_Z_remove (k0 i0 x1 : Int) (σ : ST) (Q : Option AV → ST → Prop) (h :
  wpM m_Z_hand [.inr (.inr (40, k0, i0)), .inl (-1), .inl 14, .inl x1, .inl 0, .inl 0, .inl 0, .inl 0] σ (asI fun r101 s101 =>
  Q (some (.inl r101)) s101)) :
  wpM m_Z_remove [.inr (.inr (40, k0, i0)), .inl x1] σ Q :=
 wpM_of ml_283 (L := [some (.inr (.inr (40, k0, i0))), some (.inl x1)]) rfl
 (w_aload_n (p' := 1) f_283_0 rfl rfl
 (w_iconst (p' := 2) f_283_1 rfl
 (w_bipush (p' := 4) f_283_2 rfl
 (w_iload_n (p' := 5) f_283_4 rfl rfl
 (w_iconst (p' := 6) f_283_5 rfl
 (w_iconst (p' := 7) f_283_6 rfl
 (w_iconst (p' := 8) f_283_7 rfl
 (w_iconst (p' := 9) f_283_8 rfl
 (w_callV (p' := 12) f_283_9 rfl rfl rfl rfl rfl (r := []) rfl rfl (kI (.inl rk_268) fun r101 s101 h101 =>
 w_iret f_283_12 rk_283 h101) h)))))))))
/-! ClosedRoomsModel.map(III)I -/
theorem f_284_0 : fnd 284 0 = some (0, .aload_n 0, 1, 0, 0, 0, 0) := ceB_eq (by decide +kernel)
theorem f_284_1 : fnd 284 1 = some (1, .ldc_w 452, 3, 0, 0, 0, (-1000000)) := ceB_eq (by decide +kernel)
theorem f_284_4 : fnd 284 4 = some (4, .bipush 15, 2, 0, 0, 0, 0) := ceB_eq (by decide +kernel)
theorem f_284_6 : fnd 284 6 = some (6, .iload_n 1, 1, 0, 0, 0, 0) := ceB_eq (by decide +kernel)
theorem f_284_7 : fnd 284 7 = some (7, .iload_n 2, 1, 0, 0, 0, 0) := ceB_eq (by decide +kernel)
theorem f_284_8 : fnd 284 8 = some (8, .iload_n 3, 1, 0, 0, 0, 0) := ceB_eq (by decide +kernel)
theorem f_284_9 : fnd 284 9 = some (9, .iconst 0, 1, 0, 0, 0, 0) := ceB_eq (by decide +kernel)
theorem f_284_10 : fnd 284 10 = some (10, .iconst 0, 1, 0, 0, 0, 0) := ceB_eq (by decide +kernel)
theorem f_284_11 : fnd 284 11 = some (11, .invokevirtual 448, 3, 268, 8, 10, 0) := ceB_eq (by decide +kernel)
theorem f_284_14 : fnd 284 14 = some (14, .ireturn, 1, 0, 0, 0, 0) := ceB_eq (by decide +kernel)
theorem rk_284 : rkm 284 = 0 := by decide +kernel
theorem ml_284 : (mth 284).2.1 = 4 := by decide +kernel
set_option maxRecDepth 100000 in
theorem T_Z_map (k0 i0 x1 x2 x3 : Int) (σ : ST) (Q : Option AV → ST → Prop) (h :
  wpM m_Z_hand [.inr (.inr (40, k0, i0)), .inl (-1000000), .inl 15, .inl x1, .inl x2, .inl x3, .inl 0, .inl 0] σ (asI fun r101 s101 =>
  Q (some (.inl r101)) s101)) :
  wpM m_Z_map [.inr (.inr (40, k0, i0)), .inl x1, .inl x2, .inl x3] σ Q :=
 wpM_of ml_284 (L := [some (.inr (.inr (40, k0, i0))), some (.inl x1), some (.inl x2), some (.inl x3)]) rfl
 (w_aload_n (p' := 1) f_284_0 rfl rfl
 (w_ldc_w (p' := 4) f_284_1 rfl
 (w_bipush (p' := 6) f_284_4 rfl
 (w_iload_n (p' := 7) f_284_6 rfl rfl
 (w_iload_n (p' := 8) f_284_7 rfl rfl
 (w_iload_n (p' := 9) f_284_8 rfl rfl
 (w_iconst (p' := 10) f_284_9 rfl
 (w_iconst (p' := 11) f_284_10 rfl
 (w_callV (p' := 14) f_284_11 rfl rfl rfl rfl rfl (r := []) rfl rfl (kI (.inl rk_268) fun r101 s101 h101 =>
 w_iret f_284_14 rk_284 h101) h)))))))))
/-! ClosedRoomsModel.twice(I)I -/
theorem f_285_0 : fnd 285 0 = some (0, .aload_n 0, 1, 0, 0, 0, 0) := ceB_eq (by decide +kernel)
theorem f_285_1 : fnd 285 1 = some (1, .iconst (-1), 1, 0, 0, 0, 0) := ceB_eq (by decide +kernel)
theorem f_285_2 : fnd 285 2 = some (2, .bipush 16, 2, 0, 0, 0, 0) := ceB_eq (by decide +kernel)
theorem f_285_4 : fnd 285 4 = some (4, .iload_n 1, 1, 0, 0, 0, 0) := ceB_eq (by decide +kernel)
theorem f_285_5 : fnd 285 5 = some (5, .iconst 0, 1, 0, 0, 0, 0) := ceB_eq (by decide +kernel)
theorem f_285_6 : fnd 285 6 = some (6, .iconst 0, 1, 0, 0, 0, 0) := ceB_eq (by decide +kernel)
theorem f_285_7 : fnd 285 7 = some (7, .iconst 0, 1, 0, 0, 0, 0) := ceB_eq (by decide +kernel)
theorem f_285_8 : fnd 285 8 = some (8, .iconst 0, 1, 0, 0, 0, 0) := ceB_eq (by decide +kernel)
theorem f_285_9 : fnd 285 9 = some (9, .invokevirtual 448, 3, 268, 8, 10, 0) := ceB_eq (by decide +kernel)
theorem f_285_12 : fnd 285 12 = some (12, .ireturn, 1, 0, 0, 0, 0) := ceB_eq (by decide +kernel)
theorem rk_285 : rkm 285 = 0 := by decide +kernel
theorem ml_285 : (mth 285).2.1 = 2 := by decide +kernel
set_option maxRecDepth 100000 in
theorem T_Z_twice (k0 i0 x1 : Int) (σ : ST) (Q : Option AV → ST → Prop) (h :
  wpM m_Z_hand [.inr (.inr (40, k0, i0)), .inl (-1), .inl 16, .inl x1, .inl 0, .inl 0, .inl 0, .inl 0] σ (asI fun r101 s101 =>
  Q (some (.inl r101)) s101)) :
  wpM m_Z_twice [.inr (.inr (40, k0, i0)), .inl x1] σ Q :=
 wpM_of ml_285 (L := [some (.inr (.inr (40, k0, i0))), some (.inl x1)]) rfl
 (w_aload_n (p' := 1) f_285_0 rfl rfl
 (w_iconst (p' := 2) f_285_1 rfl
 (w_bipush (p' := 4) f_285_2 rfl
 (w_iload_n (p' := 5) f_285_4 rfl rfl
 (w_iconst (p' := 6) f_285_5 rfl
 (w_iconst (p' := 7) f_285_6 rfl
 (w_iconst (p' := 8) f_285_7 rfl
 (w_iconst (p' := 9) f_285_8 rfl
 (w_callV (p' := 12) f_285_9 rfl rfl rfl rfl rfl (r := []) rfl rfl (kI (.inl rk_268) fun r101 s101 h101 =>
 w_iret f_285_12 rk_285 h101) h)))))))))
/-! ClosedRoomsModel.change(II)I -/
theorem f_286_0 : fnd 286 0 = some (0, .aload_n 0, 1, 0, 0, 0, 0) := ceB_eq (by decide +kernel)
theorem f_286_1 : fnd 286 1 = some (1, .iconst (-1), 1, 0, 0, 0, 0) := ceB_eq (by decide +kernel)
theorem f_286_2 : fnd 286 2 = some (2, .bipush 17, 2, 0, 0, 0, 0) := ceB_eq (by decide +kernel)
theorem f_286_4 : fnd 286 4 = some (4, .iload_n 1, 1, 0, 0, 0, 0) := ceB_eq (by decide +kernel)
theorem f_286_5 : fnd 286 5 = some (5, .iload_n 2, 1, 0, 0, 0, 0) := ceB_eq (by decide +kernel)
theorem f_286_6 : fnd 286 6 = some (6, .iconst 0, 1, 0, 0, 0, 0) := ceB_eq (by decide +kernel)
theorem f_286_7 : fnd 286 7 = some (7, .iconst 0, 1, 0, 0, 0, 0) := ceB_eq (by decide +kernel)
theorem f_286_8 : fnd 286 8 = some (8, .iconst 0, 1, 0, 0, 0, 0) := ceB_eq (by decide +kernel)
theorem f_286_9 : fnd 286 9 = some (9, .invokevirtual 448, 3, 268, 8, 10, 0) := ceB_eq (by decide +kernel)
theorem f_286_12 : fnd 286 12 = some (12, .ireturn, 1, 0, 0, 0, 0) := ceB_eq (by decide +kernel)
theorem rk_286 : rkm 286 = 0 := by decide +kernel
theorem ml_286 : (mth 286).2.1 = 3 := by decide +kernel
set_option maxRecDepth 100000 in
theorem T_Z_change (k0 i0 x1 x2 : Int) (σ : ST) (Q : Option AV → ST → Prop) (h :
  wpM m_Z_hand [.inr (.inr (40, k0, i0)), .inl (-1), .inl 17, .inl x1, .inl x2, .inl 0, .inl 0, .inl 0] σ (asI fun r101 s101 =>
  Q (some (.inl r101)) s101)) :
  wpM m_Z_change [.inr (.inr (40, k0, i0)), .inl x1, .inl x2] σ Q :=
 wpM_of ml_286 (L := [some (.inr (.inr (40, k0, i0))), some (.inl x1), some (.inl x2)]) rfl
 (w_aload_n (p' := 1) f_286_0 rfl rfl
 (w_iconst (p' := 2) f_286_1 rfl
 (w_bipush (p' := 4) f_286_2 rfl
 (w_iload_n (p' := 5) f_286_4 rfl rfl
 (w_iload_n (p' := 6) f_286_5 rfl rfl
 (w_iconst (p' := 7) f_286_6 rfl
 (w_iconst (p' := 8) f_286_7 rfl
 (w_iconst (p' := 9) f_286_8 rfl
 (w_callV (p' := 12) f_286_9 rfl rfl rfl rfl rfl (r := []) rfl rfl (kI (.inl rk_268) fun r101 s101 h101 =>
 w_iret f_286_12 rk_286 h101) h)))))))))
/-! ClosedRoomsModel.drop(I)I -/
theorem f_287_0 : fnd 287 0 = some (0, .aload_n 0, 1, 0, 0, 0, 0) := ceB_eq (by decide +kernel)
theorem f_287_1 : fnd 287 1 = some (1, .iconst (-1), 1, 0, 0, 0, 0) := ceB_eq (by decide +kernel)
theorem f_287_2 : fnd 287 2 = some (2, .bipush 18, 2, 0, 0, 0, 0) := ceB_eq (by decide +kernel)
theorem f_287_4 : fnd 287 4 = some (4, .iload_n 1, 1, 0, 0, 0, 0) := ceB_eq (by decide +kernel)
theorem f_287_5 : fnd 287 5 = some (5, .iconst 0, 1, 0, 0, 0, 0) := ceB_eq (by decide +kernel)
theorem f_287_6 : fnd 287 6 = some (6, .iconst 0, 1, 0, 0, 0, 0) := ceB_eq (by decide +kernel)
theorem f_287_7 : fnd 287 7 = some (7, .iconst 0, 1, 0, 0, 0, 0) := ceB_eq (by decide +kernel)
theorem f_287_8 : fnd 287 8 = some (8, .iconst 0, 1, 0, 0, 0, 0) := ceB_eq (by decide +kernel)
theorem f_287_9 : fnd 287 9 = some (9, .invokevirtual 448, 3, 268, 8, 10, 0) := ceB_eq (by decide +kernel)
theorem f_287_12 : fnd 287 12 = some (12, .ireturn, 1, 0, 0, 0, 0) := ceB_eq (by decide +kernel)
theorem rk_287 : rkm 287 = 0 := by decide +kernel
theorem ml_287 : (mth 287).2.1 = 2 := by decide +kernel
set_option maxRecDepth 100000 in
theorem T_Z_drop (k0 i0 x1 : Int) (σ : ST) (Q : Option AV → ST → Prop) (h :
  wpM m_Z_hand [.inr (.inr (40, k0, i0)), .inl (-1), .inl 18, .inl x1, .inl 0, .inl 0, .inl 0, .inl 0] σ (asI fun r101 s101 =>
  Q (some (.inl r101)) s101)) :
  wpM m_Z_drop [.inr (.inr (40, k0, i0)), .inl x1] σ Q :=
 wpM_of ml_287 (L := [some (.inr (.inr (40, k0, i0))), some (.inl x1)]) rfl
 (w_aload_n (p' := 1) f_287_0 rfl rfl
 (w_iconst (p' := 2) f_287_1 rfl
 (w_bipush (p' := 4) f_287_2 rfl
 (w_iload_n (p' := 5) f_287_4 rfl rfl
 (w_iconst (p' := 6) f_287_5 rfl
 (w_iconst (p' := 7) f_287_6 rfl
 (w_iconst (p' := 8) f_287_7 rfl
 (w_iconst (p' := 9) f_287_8 rfl
 (w_callV (p' := 12) f_287_9 rfl rfl rfl rfl rfl (r := []) rfl rfl (kI (.inl rk_268) fun r101 s101 h101 =>
 w_iret f_287_12 rk_287 h101) h)))))))))
/-! ClosedRoomsModel.tell(II)I -/
theorem f_288_0 : fnd 288 0 = some (0, .aload_n 0, 1, 0, 0, 0, 0) := ceB_eq (by decide +kernel)
theorem f_288_1 : fnd 288 1 = some (1, .iconst (-1), 1, 0, 0, 0, 0) := ceB_eq (by decide +kernel)
theorem f_288_2 : fnd 288 2 = some (2, .bipush 19, 2, 0, 0, 0, 0) := ceB_eq (by decide +kernel)
theorem f_288_4 : fnd 288 4 = some (4, .iload_n 1, 1, 0, 0, 0, 0) := ceB_eq (by decide +kernel)
theorem f_288_5 : fnd 288 5 = some (5, .iload_n 2, 1, 0, 0, 0, 0) := ceB_eq (by decide +kernel)
theorem f_288_6 : fnd 288 6 = some (6, .iconst 0, 1, 0, 0, 0, 0) := ceB_eq (by decide +kernel)
theorem f_288_7 : fnd 288 7 = some (7, .iconst 0, 1, 0, 0, 0, 0) := ceB_eq (by decide +kernel)
theorem f_288_8 : fnd 288 8 = some (8, .iconst 0, 1, 0, 0, 0, 0) := ceB_eq (by decide +kernel)
theorem f_288_9 : fnd 288 9 = some (9, .invokevirtual 448, 3, 268, 8, 10, 0) := ceB_eq (by decide +kernel)
theorem f_288_12 : fnd 288 12 = some (12, .ireturn, 1, 0, 0, 0, 0) := ceB_eq (by decide +kernel)
theorem rk_288 : rkm 288 = 0 := by decide +kernel
theorem ml_288 : (mth 288).2.1 = 3 := by decide +kernel
set_option maxRecDepth 100000 in
theorem T_Z_tell (k0 i0 x1 x2 : Int) (σ : ST) (Q : Option AV → ST → Prop) (h :
  wpM m_Z_hand [.inr (.inr (40, k0, i0)), .inl (-1), .inl 19, .inl x1, .inl x2, .inl 0, .inl 0, .inl 0] σ (asI fun r101 s101 =>
  Q (some (.inl r101)) s101)) :
  wpM m_Z_tell [.inr (.inr (40, k0, i0)), .inl x1, .inl x2] σ Q :=
 wpM_of ml_288 (L := [some (.inr (.inr (40, k0, i0))), some (.inl x1), some (.inl x2)]) rfl
 (w_aload_n (p' := 1) f_288_0 rfl rfl
 (w_iconst (p' := 2) f_288_1 rfl
 (w_bipush (p' := 4) f_288_2 rfl
 (w_iload_n (p' := 5) f_288_4 rfl rfl
 (w_iload_n (p' := 6) f_288_5 rfl rfl
 (w_iconst (p' := 7) f_288_6 rfl
 (w_iconst (p' := 8) f_288_7 rfl
 (w_iconst (p' := 9) f_288_8 rfl
 (w_callV (p' := 12) f_288_9 rfl rfl rfl rfl rfl (r := []) rfl rfl (kI (.inl rk_268) fun r101 s101 h101 =>
 w_iret f_288_12 rk_288 h101) h)))))))))
/-! ClosedRoomsModel.status(I)I -/
theorem f_289_0 : fnd 289 0 = some (0, .iload_n 1, 1, 0, 0, 0, 0) := ceB_eq (by decide +kernel)
theorem f_289_1 : fnd 289 1 = some (1, .iconst 0, 1, 0, 0, 0, 0) := ceB_eq (by decide +kernel)
theorem f_289_2 : fnd 289 2 = some (2, .iconst 4, 1, 0, 0, 0, 0) := ceB_eq (by decide +kernel)
theorem f_289_3 : fnd 289 3 = some (3, .invokestatic 54, 3, 168, 3, 10, 0) := ceB_eq (by decide +kernel)
theorem f_289_6 : fnd 289 6 = some (6, .ifCond .eq 12, 3, 0, 0, 0, 0) := ceB_eq (by decide +kernel)
theorem f_289_9 : fnd 289 9 = some (9, .aload_n 0, 1, 0, 0, 0, 0) := ceB_eq (by decide +kernel)
theorem f_289_10 : fnd 289 10 = some (10, .getfield 28, 3, 10, 16, 16, 0) := ceB_eq (by decide +kernel)
theorem f_289_13 : fnd 289 13 = some (13, .iload_n 1, 1, 0, 0, 0, 0) := ceB_eq (by decide +kernel)
theorem f_289_14 : fnd 289 14 = some (14, .iaload, 1, 0, 0, 0, 0) := ceB_eq (by decide +kernel)
theorem f_289_15 : fnd 289 15 = some (15, .goto 4, 3, 0, 0, 0, 0) := ceB_eq (by decide +kernel)
theorem f_289_18 : fnd 289 18 = some (18, .iconst (-1), 1, 0, 0, 0, 0) := ceB_eq (by decide +kernel)
theorem f_289_19 : fnd 289 19 = some (19, .ireturn, 1, 0, 0, 0, 0) := ceB_eq (by decide +kernel)
theorem rk_289 : rkm 289 = 0 := by decide +kernel
theorem ml_289 : (mth 289).2.1 = 2 := by decide +kernel
set_option maxRecDepth 100000 in
theorem T_Z_status (k0 i0 x1 : Int) (σ : ST) (Q : Option AV → ST → Prop) (h :
  wpM m_Z_in [.inl x1, .inl 0, .inl 4] σ (asI fun r101 s101 =>
  (((r101 = 0 : Prop) →
    Q (some (.inl (-1))) s101) ∧
  (¬ (r101 = 0) →
    ((0 : Int) ≤ x1 ∧ (x1 : Int) < 5) ∧
    Q (some (.inl (s101 47 0 0 x1))) s101)))) :
  wpM m_Z_status [.inr (.inr (40, k0, i0)), .inl x1] σ Q :=
 wpM_of ml_289 (L := [some (.inr (.inr (40, k0, i0))), some (.inl x1)]) rfl
 (w_iload_n (p' := 1) f_289_0 rfl rfl
 (w_iconst (p' := 2) f_289_1 rfl
 (w_iconst (p' := 3) f_289_2 rfl
 (w_callS (p' := 6) f_289_3 rfl rfl rfl (r := []) rfl rfl (kI (.inr rk_168) fun r101 s101 h101 =>
 w_if (p' := 18) (q' := 9) f_289_6 rfl rfl
 (fun c102 => w_iconst (p' := 19) f_289_18 rfl
 (w_iret f_289_19 rk_289 (h101.1 c102)))
 (fun c102 => w_aload_n (p' := 10) f_289_9 rfl rfl
 (w_getfield (p' := 13) f_289_10 rfl (x := .inr (.inr (47, 0, 0))) rfl rfl
 (w_iload_n (p' := 14) f_289_13 rfl rfl
 (w_iaload (p' := 15) f_289_14 rfl (n := 5) rfl (h101.2 c102).1 rfl
 (w_goto (p' := 19) f_289_15 rfl
 (w_iret f_289_19 rk_289 (h101.2 c102).2))))))) h))))
/-! ClosedRoomsModel.undo()I -/
theorem f_290_0 : fnd 290 0 = some (0, .aload_n 0, 1, 0, 0, 0, 0) := ceB_eq (by decide +kernel)
theorem f_290_1 : fnd 290 1 = some (1, .getfield 228, 3, 10, 18, 18, 0) := ceB_eq (by decide +kernel)
theorem f_290_4 : fnd 290 4 = some (4, .ifCond .ne 5, 3, 0, 0, 0, 0) := ceB_eq (by decide +kernel)
theorem f_290_7 : fnd 290 7 = some (7, .iconst (-1), 1, 0, 0, 0, 0) := ceB_eq (by decide +kernel)
theorem f_290_8 : fnd 290 8 = some (8, .ireturn, 1, 0, 0, 0, 0) := ceB_eq (by decide +kernel)
theorem f_290_9 : fnd 290 9 = some (9, .aload_n 0, 1, 0, 0, 0, 0) := ceB_eq (by decide +kernel)
theorem f_290_10 : fnd 290 10 = some (10, .dup, 1, 0, 0, 0, 0) := ceB_eq (by decide +kernel)
theorem f_290_11 : fnd 290 11 = some (11, .getfield 228, 3, 10, 18, 18, 0) := ceB_eq (by decide +kernel)
theorem f_290_14 : fnd 290 14 = some (14, .iconst 1, 1, 0, 0, 0, 0) := ceB_eq (by decide +kernel)
theorem f_290_15 : fnd 290 15 = some (15, .isub, 1, 0, 0, 0, 0) := ceB_eq (by decide +kernel)
theorem f_290_16 : fnd 290 16 = some (16, .putfield 228, 3, 10, 18, 18, 0) := ceB_eq (by decide +kernel)
theorem f_290_19 : fnd 290 19 = some (19, .iconst 0, 1, 0, 0, 0, 0) := ceB_eq (by decide +kernel)
theorem f_290_20 : fnd 290 20 = some (20, .istore_n 1, 1, 0, 0, 0, 0) := ceB_eq (by decide +kernel)
theorem f_290_21 : fnd 290 21 = some (21, .iload_n 1, 1, 0, 0, 0, 0) := ceB_eq (by decide +kernel)
theorem f_290_22 : fnd 290 22 = some (22, .sipush 526, 3, 0, 0, 0, 0) := ceB_eq (by decide +kernel)
theorem f_290_25 : fnd 290 25 = some (25, .if_icmp .ge 30, 3, 0, 0, 0, 0) := ceB_eq (by decide +kernel)
theorem f_290_28 : fnd 290 28 = some (28, .aload_n 0, 1, 0, 0, 0, 0) := ceB_eq (by decide +kernel)
theorem f_290_29 : fnd 290 29 = some (29, .getfield 25, 3, 10, 15, 15, 0) := ceB_eq (by decide +kernel)
theorem f_290_32 : fnd 290 32 = some (32, .iload_n 1, 1, 0, 0, 0, 0) := ceB_eq (by decide +kernel)
theorem f_290_33 : fnd 290 33 = some (33, .aload_n 0, 1, 0, 0, 0, 0) := ceB_eq (by decide +kernel)
theorem f_290_34 : fnd 290 34 = some (34, .getfield 31, 3, 10, 17, 17, 0) := ceB_eq (by decide +kernel)
theorem f_290_37 : fnd 290 37 = some (37, .sipush 526, 3, 0, 0, 0, 0) := ceB_eq (by decide +kernel)
theorem f_290_40 : fnd 290 40 = some (40, .aload_n 0, 1, 0, 0, 0, 0) := ceB_eq (by decide +kernel)
theorem f_290_41 : fnd 290 41 = some (41, .getfield 228, 3, 10, 18, 18, 0) := ceB_eq (by decide +kernel)
theorem f_290_44 : fnd 290 44 = some (44, .imul, 1, 0, 0, 0, 0) := ceB_eq (by decide +kernel)
theorem f_290_45 : fnd 290 45 = some (45, .iload_n 1, 1, 0, 0, 0, 0) := ceB_eq (by decide +kernel)
theorem f_290_46 : fnd 290 46 = some (46, .iadd, 1, 0, 0, 0, 0) := ceB_eq (by decide +kernel)
theorem f_290_47 : fnd 290 47 = some (47, .iaload, 1, 0, 0, 0, 0) := ceB_eq (by decide +kernel)
theorem f_290_48 : fnd 290 48 = some (48, .iastore, 1, 0, 0, 0, 0) := ceB_eq (by decide +kernel)
theorem f_290_49 : fnd 290 49 = some (49, .iinc 1 1, 3, 0, 0, 0, 0) := ceB_eq (by decide +kernel)
theorem f_290_52 : fnd 290 52 = some (52, .goto (-31), 3, 0, 0, 0, 0) := ceB_eq (by decide +kernel)
theorem f_290_55 : fnd 290 55 = some (55, .aload_n 0, 1, 0, 0, 0, 0) := ceB_eq (by decide +kernel)
theorem f_290_56 : fnd 290 56 = some (56, .getfield 228, 3, 10, 18, 18, 0) := ceB_eq (by decide +kernel)
theorem f_290_59 : fnd 290 59 = some (59, .ireturn, 1, 0, 0, 0, 0) := ceB_eq (by decide +kernel)
theorem rk_290 : rkm 290 = 0 := by decide +kernel
theorem ml_290 : (mth 290).2.1 = 2 := by decide +kernel
set_option maxRecDepth 100000 in
theorem T_Z_undo (k0 i0 : Int) (σ : ST) (Q : Option AV → ST → Prop) (h :
  ((((σ 40 k0 i0 18) ≠ 0 : Prop) →
    wp m_Z_undo (21, [some (.inr (.inr (40, k0, i0))), some (.inl 0)], [], (up σ 40 k0 i0 18 (wr ((σ 40 k0 i0 18) - 1)))) Q) ∧
  (¬ ((σ 40 k0 i0 18) ≠ 0) →
    Q (some (.inl (-1))) σ))) :
  wpM m_Z_undo [.inr (.inr (40, k0, i0))] σ Q :=
 wpM_of ml_290 (L := [some (.inr (.inr (40, k0, i0))), none]) rfl
 (w_aload_n (p' := 1) f_290_0 rfl rfl
 (w_getfield (p' := 4) f_290_1 rfl (x := .inl (σ 40 k0 i0 18)) rfl rfl
 (w_if (p' := 9) (q' := 7) f_290_4 rfl rfl
 (fun c101 => w_aload_n (p' := 10) f_290_9 rfl rfl
 (w_dupR (p' := 11) f_290_10 rfl
 (w_getfield (p' := 14) f_290_11 rfl (x := .inl (σ 40 k0 i0 18)) rfl rfl
 (w_iconst (p' := 15) f_290_14 rfl
 (w_isub (p' := 16) f_290_15 rfl
 (w_putI (p' := 19) f_290_16 rfl rfl (c' := 18) rfl rfl
 (w_iconst (p' := 20) f_290_19 rfl
 (w_istore_n (p' := 21) f_290_20 (L' := [some (.inr (.inr (40, k0, i0))), some (.inl 0)]) rfl rfl
 ((h.1 c101))))))))))
 (fun c101 => w_iconst (p' := 8) f_290_7 rfl
 (w_iret f_290_8 rk_290 (h.2 c101))))))
set_option maxRecDepth 100000 in
theorem T_Z_undo_21 (k0 i0 x1 : Int) (σ : ST) (Q : Option AV → ST → Prop) (h :
  (((526 ≤ x1 : Prop) →
    Q (some (.inl (σ 40 k0 i0 18))) σ) ∧
  (¬ (526 ≤ x1) →
    ((0 : Int) ≤ (wr ((wr (526 * (σ 40 k0 i0 18))) + x1)) ∧ ((wr ((wr (526 * (σ 40 k0 i0 18))) + x1)) : Int) < 21040) ∧
    ((0 : Int) ≤ x1 ∧ (x1 : Int) < 526) ∧
    wp m_Z_undo (21, [some (.inr (.inr (40, k0, i0))), some (.inl (wr (x1 + 1)))], [], (up σ 46 0 0 x1 (σ 48 0 0 (wr ((wr (526 * (σ 40 k0 i0 18))) + x1))))) Q))) :
  wp m_Z_undo (21, [some (.inr (.inr (40, k0, i0))), some (.inl x1)], [], σ) Q :=
 w_iload_n (p' := 22) f_290_21 rfl rfl
 (w_sipush (p' := 25) f_290_22 rfl
 (w_icmp (p' := 55) (q' := 28) f_290_25 rfl rfl
 (fun c101 => w_aload_n (p' := 56) f_290_55 rfl rfl
 (w_getfield (p' := 59) f_290_56 rfl (x := .inl (σ 40 k0 i0 18)) rfl rfl
 (w_iret f_290_59 rk_290 (h.1 c101))))
 (fun c101 => w_aload_n (p' := 29) f_290_28 rfl rfl
 (w_getfield (p' := 32) f_290_29 rfl (x := .inr (.inr (46, 0, 0))) rfl rfl
 (w_iload_n (p' := 33) f_290_32 rfl rfl
 (w_aload_n (p' := 34) f_290_33 rfl rfl
 (w_getfield (p' := 37) f_290_34 rfl (x := .inr (.inr (48, 0, 0))) rfl rfl
 (w_sipush (p' := 40) f_290_37 rfl
 (w_aload_n (p' := 41) f_290_40 rfl rfl
 (w_getfield (p' := 44) f_290_41 rfl (x := .inl (σ 40 k0 i0 18)) rfl rfl
 (w_imul (p' := 45) f_290_44 rfl
 (w_iload_n (p' := 46) f_290_45 rfl rfl
 (w_iadd (p' := 47) f_290_46 rfl
 (w_iaload (p' := 48) f_290_47 rfl (n := 21040) rfl (h.2 c101).1 rfl
 (w_iastore (p' := 49) f_290_48 rfl (n := 526) rfl (h.2 c101).2.1 rfl
 (w_iinc (p' := 52) f_290_49 rfl (L' := [some (.inr (.inr (40, k0, i0))), some (.inl (wr (x1 + 1)))]) rfl rfl
 (w_goto (p' := 21) f_290_52 rfl
 ((h.2 c101).2.2))))))))))))))))))
/-! ClosedRoomsModel.log(II)I -/
theorem f_291_0 : fnd 291 0 = some (0, .iload_n 1, 1, 0, 0, 0, 0) := ceB_eq (by decide +kernel)
theorem f_291_1 : fnd 291 1 = some (1, .iconst 0, 1, 0, 0, 0, 0) := ceB_eq (by decide +kernel)
theorem f_291_2 : fnd 291 2 = some (2, .aload_n 0, 1, 0, 0, 0, 0) := ceB_eq (by decide +kernel)
theorem f_291_3 : fnd 291 3 = some (3, .getfield 25, 3, 10, 15, 15, 0) := ceB_eq (by decide +kernel)
theorem f_291_6 : fnd 291 6 = some (6, .sipush 345, 3, 0, 0, 0, 0) := ceB_eq (by decide +kernel)
theorem f_291_9 : fnd 291 9 = some (9, .iaload, 1, 0, 0, 0, 0) := ceB_eq (by decide +kernel)
theorem f_291_10 : fnd 291 10 = some (10, .iconst 1, 1, 0, 0, 0, 0) := ceB_eq (by decide +kernel)
theorem f_291_11 : fnd 291 11 = some (11, .isub, 1, 0, 0, 0, 0) := ceB_eq (by decide +kernel)
theorem f_291_12 : fnd 291 12 = some (12, .invokestatic 54, 3, 168, 3, 10, 0) := ceB_eq (by decide +kernel)
theorem f_291_15 : fnd 291 15 = some (15, .ifCond .eq 40, 3, 0, 0, 0, 0) := ceB_eq (by decide +kernel)
theorem f_291_18 : fnd 291 18 = some (18, .iload_n 2, 1, 0, 0, 0, 0) := ceB_eq (by decide +kernel)
theorem f_291_19 : fnd 291 19 = some (19, .iconst 0, 1, 0, 0, 0, 0) := ceB_eq (by decide +kernel)
theorem f_291_20 : fnd 291 20 = some (20, .iconst 2, 1, 0, 0, 0, 0) := ceB_eq (by decide +kernel)
theorem f_291_21 : fnd 291 21 = some (21, .invokestatic 54, 3, 168, 3, 10, 0) := ceB_eq (by decide +kernel)
theorem f_291_24 : fnd 291 24 = some (24, .ifCond .eq 31, 3, 0, 0, 0, 0) := ceB_eq (by decide +kernel)
theorem f_291_27 : fnd 291 27 = some (27, .aload_n 0, 1, 0, 0, 0, 0) := ceB_eq (by decide +kernel)
theorem f_291_28 : fnd 291 28 = some (28, .getfield 25, 3, 10, 15, 15, 0) := ceB_eq (by decide +kernel)
theorem f_291_31 : fnd 291 31 = some (31, .sipush 346, 3, 0, 0, 0, 0) := ceB_eq (by decide +kernel)
theorem f_291_34 : fnd 291 34 = some (34, .iconst 3, 1, 0, 0, 0, 0) := ceB_eq (by decide +kernel)
theorem f_291_35 : fnd 291 35 = some (35, .aload_n 0, 1, 0, 0, 0, 0) := ceB_eq (by decide +kernel)
theorem f_291_36 : fnd 291 36 = some (36, .getfield 25, 3, 10, 15, 15, 0) := ceB_eq (by decide +kernel)
theorem f_291_39 : fnd 291 39 = some (39, .sipush 345, 3, 0, 0, 0, 0) := ceB_eq (by decide +kernel)
theorem f_291_42 : fnd 291 42 = some (42, .iaload, 1, 0, 0, 0, 0) := ceB_eq (by decide +kernel)
theorem f_291_43 : fnd 291 43 = some (43, .iconst 1, 1, 0, 0, 0, 0) := ceB_eq (by decide +kernel)
theorem f_291_44 : fnd 291 44 = some (44, .isub, 1, 0, 0, 0, 0) := ceB_eq (by decide +kernel)
theorem f_291_45 : fnd 291 45 = some (45, .iload_n 1, 1, 0, 0, 0, 0) := ceB_eq (by decide +kernel)
theorem f_291_46 : fnd 291 46 = some (46, .isub, 1, 0, 0, 0, 0) := ceB_eq (by decide +kernel)
theorem f_291_47 : fnd 291 47 = some (47, .imul, 1, 0, 0, 0, 0) := ceB_eq (by decide +kernel)
theorem f_291_48 : fnd 291 48 = some (48, .iadd, 1, 0, 0, 0, 0) := ceB_eq (by decide +kernel)
theorem f_291_49 : fnd 291 49 = some (49, .iload_n 2, 1, 0, 0, 0, 0) := ceB_eq (by decide +kernel)
theorem f_291_50 : fnd 291 50 = some (50, .iadd, 1, 0, 0, 0, 0) := ceB_eq (by decide +kernel)
theorem f_291_51 : fnd 291 51 = some (51, .iaload, 1, 0, 0, 0, 0) := ceB_eq (by decide +kernel)
theorem f_291_52 : fnd 291 52 = some (52, .goto 6, 3, 0, 0, 0, 0) := ceB_eq (by decide +kernel)
theorem f_291_55 : fnd 291 55 = some (55, .ldc_w 452, 3, 0, 0, 0, (-1000000)) := ceB_eq (by decide +kernel)
theorem f_291_58 : fnd 291 58 = some (58, .ireturn, 1, 0, 0, 0, 0) := ceB_eq (by decide +kernel)
theorem rk_291 : rkm 291 = 0 := by decide +kernel
theorem ml_291 : (mth 291).2.1 = 3 := by decide +kernel
set_option maxRecDepth 100000 in
theorem T_Z_log (k0 i0 x1 x2 : Int) (σ : ST) (Q : Option AV → ST → Prop) (h :
  ((0 : Int) ≤ 345 ∧ (345 : Int) < 526) ∧
  wpM m_Z_in [.inl x1, .inl 0, .inl (wr ((σ 46 0 0 345) - 1))] σ (asI fun r101 s101 =>
  (((r101 = 0 : Prop) →
    Q (some (.inl (-1000000))) s101) ∧
  (¬ (r101 = 0) →
    wpM m_Z_in [.inl x2, .inl 0, .inl 2] s101 (asI fun r102 s102 =>
    (((r102 = 0 : Prop) →
      Q (some (.inl (-1000000))) s102) ∧
    (¬ (r102 = 0) →
      ((0 : Int) ≤ 345 ∧ (345 : Int) < 526) ∧
      ((0 : Int) ≤ (wr ((wr (346 + (wr (3 * (wr ((wr ((s102 46 0 0 345) - 1)) - x1)))))) + x2)) ∧ ((wr ((wr (346 + (wr (3 * (wr ((wr ((s102 46 0 0 345) - 1)) - x1)))))) + x2)) : Int) < 526) ∧
      Q (some (.inl (s102 46 0 0 (wr ((wr (346 + (wr (3 * (wr ((wr ((s102 46 0 0 345) - 1)) - x1)))))) + x2))))) s102))))))) :
  wpM m_Z_log [.inr (.inr (40, k0, i0)), .inl x1, .inl x2] σ Q :=
 wpM_of ml_291 (L := [some (.inr (.inr (40, k0, i0))), some (.inl x1), some (.inl x2)]) rfl
 (w_iload_n (p' := 1) f_291_0 rfl rfl
 (w_iconst (p' := 2) f_291_1 rfl
 (w_aload_n (p' := 3) f_291_2 rfl rfl
 (w_getfield (p' := 6) f_291_3 rfl (x := .inr (.inr (46, 0, 0))) rfl rfl
 (w_sipush (p' := 9) f_291_6 rfl
 (w_iaload (p' := 10) f_291_9 rfl (n := 526) rfl h.1 rfl
 (w_iconst (p' := 11) f_291_10 rfl
 (w_isub (p' := 12) f_291_11 rfl
 (w_callS (p' := 15) f_291_12 rfl rfl rfl (r := []) rfl rfl (kI (.inr rk_168) fun r101 s101 h101 =>
 w_if (p' := 55) (q' := 18) f_291_15 rfl rfl
 (fun c104 => w_ldc_w (p' := 58) f_291_55 rfl
 (w_iret f_291_58 rk_291 (h101.1 c104)))
 (fun c104 => w_iload_n (p' := 19) f_291_18 rfl rfl
 (w_iconst (p' := 20) f_291_19 rfl
 (w_iconst (p' := 21) f_291_20 rfl
 (w_callS (p' := 24) f_291_21 rfl rfl rfl (r := []) rfl rfl (kI (.inr rk_168) fun r102 s102 h102 =>
 w_if (p' := 55) (q' := 27) f_291_24 rfl rfl
 (fun c103 => w_ldc_w (p' := 58) f_291_55 rfl
 (w_iret f_291_58 rk_291 (h102.1 c103)))
 (fun c103 => w_aload_n (p' := 28) f_291_27 rfl rfl
 (w_getfield (p' := 31) f_291_28 rfl (x := .inr (.inr (46, 0, 0))) rfl rfl
 (w_sipush (p' := 34) f_291_31 rfl
 (w_iconst (p' := 35) f_291_34 rfl
 (w_aload_n (p' := 36) f_291_35 rfl rfl
 (w_getfield (p' := 39) f_291_36 rfl (x := .inr (.inr (46, 0, 0))) rfl rfl
 (w_sipush (p' := 42) f_291_39 rfl
 (w_iaload (p' := 43) f_291_42 rfl (n := 526) rfl (h102.2 c103).1 rfl
 (w_iconst (p' := 44) f_291_43 rfl
 (w_isub (p' := 45) f_291_44 rfl
 (w_iload_n (p' := 46) f_291_45 rfl rfl
 (w_isub (p' := 47) f_291_46 rfl
 (w_imul (p' := 48) f_291_47 rfl
 (w_iadd (p' := 49) f_291_48 rfl
 (w_iload_n (p' := 50) f_291_49 rfl rfl
 (w_iadd (p' := 51) f_291_50 rfl
 (w_iaload (p' := 52) f_291_51 rfl (n := 526) rfl (h102.2 c103).2.1 rfl
 (w_goto (p' := 58) f_291_52 rfl
 (w_iret f_291_58 rk_291 (h102.2 c103).2.2)))))))))))))))))))) (h101.2 c104)))))) h.2)))))))))
/-! ClosedRoomsModel.rule(I)I -/
theorem f_292_0 : fnd 292 0 = some (0, .aload_n 0, 1, 0, 0, 0, 0) := ceB_eq (by decide +kernel)
theorem f_292_1 : fnd 292 1 = some (1, .getfield 199, 3, 10, 11, 11, 0) := ceB_eq (by decide +kernel)
theorem f_292_4 : fnd 292 4 = some (4, .ifCond .eq 21, 3, 0, 0, 0, 0) := ceB_eq (by decide +kernel)
theorem f_292_7 : fnd 292 7 = some (7, .iload_n 1, 1, 0, 0, 0, 0) := ceB_eq (by decide +kernel)
theorem f_292_8 : fnd 292 8 = some (8, .iconst 0, 1, 0, 0, 0, 0) := ceB_eq (by decide +kernel)
theorem f_292_9 : fnd 292 9 = some (9, .iconst 3, 1, 0, 0, 0, 0) := ceB_eq (by decide +kernel)
theorem f_292_10 : fnd 292 10 = some (10, .invokestatic 54, 3, 168, 3, 10, 0) := ceB_eq (by decide +kernel)
theorem f_292_13 : fnd 292 13 = some (13, .ifCond .eq 12, 3, 0, 0, 0, 0) := ceB_eq (by decide +kernel)
theorem f_292_16 : fnd 292 16 = some (16, .aload_n 0, 1, 0, 0, 0, 0) := ceB_eq (by decide +kernel)
theorem f_292_17 : fnd 292 17 = some (17, .getfield 16, 3, 10, 10, 10, 0) := ceB_eq (by decide +kernel)
theorem f_292_20 : fnd 292 20 = some (20, .iload_n 1, 1, 0, 0, 0, 0) := ceB_eq (by decide +kernel)
theorem f_292_21 : fnd 292 21 = some (21, .iaload, 1, 0, 0, 0, 0) := ceB_eq (by decide +kernel)
theorem f_292_22 : fnd 292 22 = some (22, .goto 4, 3, 0, 0, 0, 0) := ceB_eq (by decide +kernel)
theorem f_292_25 : fnd 292 25 = some (25, .iconst (-1), 1, 0, 0, 0, 0) := ceB_eq (by decide +kernel)
theorem f_292_26 : fnd 292 26 = some (26, .ireturn, 1, 0, 0, 0, 0) := ceB_eq (by decide +kernel)
theorem rk_292 : rkm 292 = 0 := by decide +kernel
theorem ml_292 : (mth 292).2.1 = 2 := by decide +kernel
set_option maxRecDepth 100000 in
theorem T_Z_rule (k0 i0 x1 : Int) (σ : ST) (Q : Option AV → ST → Prop) (h :
  ((((bz (σ 40 k0 i0 11)) = 0 : Prop) →
    Q (some (.inl (-1))) σ) ∧
  (¬ ((bz (σ 40 k0 i0 11)) = 0) →
    wpM m_Z_in [.inl x1, .inl 0, .inl 3] σ (asI fun r101 s101 =>
    (((r101 = 0 : Prop) →
      Q (some (.inl (-1))) s101) ∧
    (¬ (r101 = 0) →
      ((0 : Int) ≤ x1 ∧ (x1 : Int) < 4) ∧
      Q (some (.inl (s101 43 0 0 x1))) s101)))))) :
  wpM m_Z_rule [.inr (.inr (40, k0, i0)), .inl x1] σ Q :=
 wpM_of ml_292 (L := [some (.inr (.inr (40, k0, i0))), some (.inl x1)]) rfl
 (w_aload_n (p' := 1) f_292_0 rfl rfl
 (w_getfield (p' := 4) f_292_1 rfl (x := .inl (bz (σ 40 k0 i0 11))) rfl rfl
 (w_if (p' := 25) (q' := 7) f_292_4 rfl rfl
 (fun c103 => w_iconst (p' := 26) f_292_25 rfl
 (w_iret f_292_26 rk_292 (h.1 c103)))
 (fun c103 => w_iload_n (p' := 8) f_292_7 rfl rfl
 (w_iconst (p' := 9) f_292_8 rfl
 (w_iconst (p' := 10) f_292_9 rfl
 (w_callS (p' := 13) f_292_10 rfl rfl rfl (r := []) rfl rfl (kI (.inr rk_168) fun r101 s101 h101 =>
 w_if (p' := 25) (q' := 16) f_292_13 rfl rfl
 (fun c102 => w_iconst (p' := 26) f_292_25 rfl
 (w_iret f_292_26 rk_292 (h101.1 c102)))
 (fun c102 => w_aload_n (p' := 17) f_292_16 rfl rfl
 (w_getfield (p' := 20) f_292_17 rfl (x := .inr (.inr (43, 0, 0))) rfl rfl
 (w_iload_n (p' := 21) f_292_20 rfl rfl
 (w_iaload (p' := 22) f_292_21 rfl (n := 4) rfl (h101.2 c102).1 rfl
 (w_goto (p' := 26) f_292_22 rfl
 (w_iret f_292_26 rk_292 (h101.2 c102).2))))))) (h.2 c103))))))))
/-! ClosedRoomsModel.page(II)I -/
theorem f_293_0 : fnd 293 0 = some (0, .aload_n 0, 1, 0, 0, 0, 0) := ceB_eq (by decide +kernel)
theorem f_293_1 : fnd 293 1 = some (1, .iload_n 1, 1, 0, 0, 0, 0) := ceB_eq (by decide +kernel)
theorem f_293_2 : fnd 293 2 = some (2, .invokevirtual 203, 3, 211, 2, 10, 0) := ceB_eq (by decide +kernel)
theorem f_293_5 : fnd 293 5 = some (5, .ifCond .eq 12, 3, 0, 0, 0, 0) := ceB_eq (by decide +kernel)
theorem f_293_8 : fnd 293 8 = some (8, .iload_n 2, 1, 0, 0, 0, 0) := ceB_eq (by decide +kernel)
theorem f_293_9 : fnd 293 9 = some (9, .iconst 0, 1, 0, 0, 0, 0) := ceB_eq (by decide +kernel)
theorem f_293_10 : fnd 293 10 = some (10, .iconst 5, 1, 0, 0, 0, 0) := ceB_eq (by decide +kernel)
theorem f_293_11 : fnd 293 11 = some (11, .invokestatic 54, 3, 168, 3, 10, 0) := ceB_eq (by decide +kernel)
theorem f_293_14 : fnd 293 14 = some (14, .ifCond .ne 7, 3, 0, 0, 0, 0) := ceB_eq (by decide +kernel)
theorem f_293_17 : fnd 293 17 = some (17, .ldc_w 452, 3, 0, 0, 0, (-1000000)) := ceB_eq (by decide +kernel)
theorem f_293_20 : fnd 293 20 = some (20, .ireturn, 1, 0, 0, 0, 0) := ceB_eq (by decide +kernel)
theorem f_293_21 : fnd 293 21 = some (21, .aload_n 0, 1, 0, 0, 0, 0) := ceB_eq (by decide +kernel)
theorem f_293_22 : fnd 293 22 = some (22, .iload_n 1, 1, 0, 0, 0, 0) := ceB_eq (by decide +kernel)
theorem f_293_23 : fnd 293 23 = some (23, .iconst 0, 1, 0, 0, 0, 0) := ceB_eq (by decide +kernel)
theorem f_293_24 : fnd 293 24 = some (24, .invokevirtual 206, 3, 196, 3, 10, 0) := ceB_eq (by decide +kernel)
theorem f_293_27 : fnd 293 27 = some (27, .istore_n 3, 1, 0, 0, 0, 0) := ceB_eq (by decide +kernel)
theorem f_293_28 : fnd 293 28 = some (28, .iload_n 3, 1, 0, 0, 0, 0) := ceB_eq (by decide +kernel)
theorem f_293_29 : fnd 293 29 = some (29, .ifCond .eq 12, 3, 0, 0, 0, 0) := ceB_eq (by decide +kernel)
theorem f_293_32 : fnd 293 32 = some (32, .iload_n 3, 1, 0, 0, 0, 0) := ceB_eq (by decide +kernel)
theorem f_293_33 : fnd 293 33 = some (33, .iconst 4, 1, 0, 0, 0, 0) := ceB_eq (by decide +kernel)
theorem f_293_34 : fnd 293 34 = some (34, .if_icmp .eq 7, 3, 0, 0, 0, 0) := ceB_eq (by decide +kernel)
theorem f_293_37 : fnd 293 37 = some (37, .iconst 1, 1, 0, 0, 0, 0) := ceB_eq (by decide +kernel)
theorem f_293_38 : fnd 293 38 = some (38, .goto 4, 3, 0, 0, 0, 0) := ceB_eq (by decide +kernel)
theorem f_293_41 : fnd 293 41 = some (41, .iconst 0, 1, 0, 0, 0, 0) := ceB_eq (by decide +kernel)
theorem f_293_42 : fnd 293 42 = some (42, .istore 4, 2, 0, 0, 0, 0) := ceB_eq (by decide +kernel)
theorem f_293_44 : fnd 293 44 = some (44, .iload_n 2, 1, 0, 0, 0, 0) := ceB_eq (by decide +kernel)
theorem f_293_45 : fnd 293 45 = some (45, .tableswitch 92 0 4 #[35, 37, 44, 51, 67], 35, 0, 0, 0, 0) := ceB_eq (by decide +kernel)
theorem f_293_80 : fnd 293 80 = some (80, .iload_n 3, 1, 0, 0, 0, 0) := ceB_eq (by decide +kernel)
theorem f_293_81 : fnd 293 81 = some (81, .ireturn, 1, 0, 0, 0, 0) := ceB_eq (by decide +kernel)
theorem f_293_82 : fnd 293 82 = some (82, .aload_n 0, 1, 0, 0, 0, 0) := ceB_eq (by decide +kernel)
theorem f_293_83 : fnd 293 83 = some (83, .iload_n 1, 1, 0, 0, 0, 0) := ceB_eq (by decide +kernel)
theorem f_293_84 : fnd 293 84 = some (84, .iconst 1, 1, 0, 0, 0, 0) := ceB_eq (by decide +kernel)
theorem f_293_85 : fnd 293 85 = some (85, .invokevirtual 206, 3, 196, 3, 10, 0) := ceB_eq (by decide +kernel)
theorem f_293_88 : fnd 293 88 = some (88, .ireturn, 1, 0, 0, 0, 0) := ceB_eq (by decide +kernel)
theorem f_293_89 : fnd 293 89 = some (89, .aload_n 0, 1, 0, 0, 0, 0) := ceB_eq (by decide +kernel)
theorem f_293_90 : fnd 293 90 = some (90, .iload_n 1, 1, 0, 0, 0, 0) := ceB_eq (by decide +kernel)
theorem f_293_91 : fnd 293 91 = some (91, .iconst 2, 1, 0, 0, 0, 0) := ceB_eq (by decide +kernel)
theorem f_293_92 : fnd 293 92 = some (92, .invokevirtual 206, 3, 196, 3, 10, 0) := ceB_eq (by decide +kernel)
theorem f_293_95 : fnd 293 95 = some (95, .ireturn, 1, 0, 0, 0, 0) := ceB_eq (by decide +kernel)
theorem f_293_96 : fnd 293 96 = some (96, .iload 4, 2, 0, 0, 0, 0) := ceB_eq (by decide +kernel)
theorem f_293_98 : fnd 293 98 = some (98, .ifCond .eq 12, 3, 0, 0, 0, 0) := ceB_eq (by decide +kernel)
theorem f_293_101 : fnd 293 101 = some (101, .aload_n 0, 1, 0, 0, 0, 0) := ceB_eq (by decide +kernel)
theorem f_293_102 : fnd 293 102 = some (102, .iload_n 1, 1, 0, 0, 0, 0) := ceB_eq (by decide +kernel)
theorem f_293_103 : fnd 293 103 = some (103, .iconst 3, 1, 0, 0, 0, 0) := ceB_eq (by decide +kernel)
theorem f_293_104 : fnd 293 104 = some (104, .invokevirtual 206, 3, 196, 3, 10, 0) := ceB_eq (by decide +kernel)
theorem f_293_107 : fnd 293 107 = some (107, .goto 4, 3, 0, 0, 0, 0) := ceB_eq (by decide +kernel)
theorem f_293_110 : fnd 293 110 = some (110, .iconst (-1), 1, 0, 0, 0, 0) := ceB_eq (by decide +kernel)
theorem f_293_111 : fnd 293 111 = some (111, .ireturn, 1, 0, 0, 0, 0) := ceB_eq (by decide +kernel)
theorem f_293_112 : fnd 293 112 = some (112, .iload 4, 2, 0, 0, 0, 0) := ceB_eq (by decide +kernel)
theorem f_293_114 : fnd 293 114 = some (114, .ifCond .ne 7, 3, 0, 0, 0, 0) := ceB_eq (by decide +kernel)
theorem f_293_117 : fnd 293 117 = some (117, .iconst (-1), 1, 0, 0, 0, 0) := ceB_eq (by decide +kernel)
theorem f_293_118 : fnd 293 118 = some (118, .goto 18, 3, 0, 0, 0, 0) := ceB_eq (by decide +kernel)
theorem f_293_121 : fnd 293 121 = some (121, .aload_n 0, 1, 0, 0, 0, 0) := ceB_eq (by decide +kernel)
theorem f_293_122 : fnd 293 122 = some (122, .iload_n 1, 1, 0, 0, 0, 0) := ceB_eq (by decide +kernel)
theorem f_293_123 : fnd 293 123 = some (123, .iconst 5, 1, 0, 0, 0, 0) := ceB_eq (by decide +kernel)
theorem f_293_124 : fnd 293 124 = some (124, .invokevirtual 206, 3, 196, 3, 10, 0) := ceB_eq (by decide +kernel)
theorem f_293_127 : fnd 293 127 = some (127, .iconst (-1), 1, 0, 0, 0, 0) := ceB_eq (by decide +kernel)
theorem f_293_128 : fnd 293 128 = some (128, .if_icmp .eq 7, 3, 0, 0, 0, 0) := ceB_eq (by decide +kernel)
theorem f_293_131 : fnd 293 131 = some (131, .iconst 1, 1, 0, 0, 0, 0) := ceB_eq (by decide +kernel)
theorem f_293_132 : fnd 293 132 = some (132, .goto 4, 3, 0, 0, 0, 0) := ceB_eq (by decide +kernel)
theorem f_293_135 : fnd 293 135 = some (135, .iconst 0, 1, 0, 0, 0, 0) := ceB_eq (by decide +kernel)
theorem f_293_136 : fnd 293 136 = some (136, .ireturn, 1, 0, 0, 0, 0) := ceB_eq (by decide +kernel)
theorem f_293_137 : fnd 293 137 = some (137, .iload_n 3, 1, 0, 0, 0, 0) := ceB_eq (by decide +kernel)
theorem f_293_138 : fnd 293 138 = some (138, .iconst 3, 1, 0, 0, 0, 0) := ceB_eq (by decide +kernel)
theorem f_293_139 : fnd 293 139 = some (139, .if_icmp .ne 13, 3, 0, 0, 0, 0) := ceB_eq (by decide +kernel)
theorem f_293_142 : fnd 293 142 = some (142, .aload_n 0, 1, 0, 0, 0, 0) := ceB_eq (by decide +kernel)
theorem f_293_143 : fnd 293 143 = some (143, .iload_n 1, 1, 0, 0, 0, 0) := ceB_eq (by decide +kernel)
theorem f_293_144 : fnd 293 144 = some (144, .bipush 6, 2, 0, 0, 0, 0) := ceB_eq (by decide +kernel)
theorem f_293_146 : fnd 293 146 = some (146, .invokevirtual 206, 3, 196, 3, 10, 0) := ceB_eq (by decide +kernel)
theorem f_293_149 : fnd 293 149 = some (149, .goto 4, 3, 0, 0, 0, 0) := ceB_eq (by decide +kernel)
theorem f_293_152 : fnd 293 152 = some (152, .iconst (-1), 1, 0, 0, 0, 0) := ceB_eq (by decide +kernel)
theorem f_293_153 : fnd 293 153 = some (153, .ireturn, 1, 0, 0, 0, 0) := ceB_eq (by decide +kernel)
theorem rk_293 : rkm 293 = 0 := by decide +kernel
theorem ml_293 : (mth 293).2.1 = 5 := by decide +kernel
set_option maxRecDepth 100000 in
theorem T_Z_page (k0 i0 x1 x2 : Int) (σ : ST) (Q : Option AV → ST → Prop) (h :
  wpM m_Z_isPage [.inr (.inr (40, k0, i0)), .inl x1] σ (asI fun r101 s101 =>
  (((r101 = 0 : Prop) →
    Q (some (.inl (-1000000))) s101) ∧
  (¬ (r101 = 0) →
    wpM m_Z_in [.inl x2, .inl 0, .inl 5] s101 (asI fun r102 s102 =>
    (((r102 ≠ 0 : Prop) →
      wpM m_Z_ofPage [.inr (.inr (40, k0, i0)), .inl x1, .inl 0] s102 (asI fun r103 s103 =>
      (((r103 = 0 : Prop) →
        wp m_Z_page (42, [some (.inr (.inr (40, k0, i0))), some (.inl x1), some (.inl x2), some (.inl r103), none], [.inl 0], s103) Q) ∧
      (¬ (r103 = 0) →
        (((r103 = 4 : Prop) →
          wp m_Z_page (42, [some (.inr (.inr (40, k0, i0))), some (.inl x1), some (.inl x2), some (.inl r103), none], [.inl 0], s103) Q) ∧
        (¬ (r103 = 4) →
          wp m_Z_page (42, [some (.inr (.inr (40, k0, i0))), some (.inl x1), some (.inl x2), some (.inl r103), none], [.inl 1], s103) Q)))))) ∧
    (¬ (r102 ≠ 0) →
      Q (some (.inl (-1000000))) s102))))))) :
  wpM m_Z_page [.inr (.inr (40, k0, i0)), .inl x1, .inl x2] σ Q :=
 wpM_of ml_293 (L := [some (.inr (.inr (40, k0, i0))), some (.inl x1), some (.inl x2), none, none]) rfl
 (w_aload_n (p' := 1) f_293_0 rfl rfl
 (w_iload_n (p' := 2) f_293_1 rfl rfl
 (w_callV (p' := 5) f_293_2 rfl rfl rfl rfl rfl (r := []) rfl rfl (kI (.inr rk_211) fun r101 s101 h101 =>
 w_if (p' := 17) (q' := 8) f_293_5 rfl rfl
 (fun c107 => w_ldc_w (p' := 20) f_293_17 rfl
 (w_iret f_293_20 rk_293 (h101.1 c107)))
 (fun c107 => w_iload_n (p' := 9) f_293_8 rfl rfl
 (w_iconst (p' := 10) f_293_9 rfl
 (w_iconst (p' := 11) f_293_10 rfl
 (w_callS (p' := 14) f_293_11 rfl rfl rfl (r := []) rfl rfl (kI (.inr rk_168) fun r102 s102 h102 =>
 w_if (p' := 21) (q' := 17) f_293_14 rfl rfl
 (fun c106 => w_aload_n (p' := 22) f_293_21 rfl rfl
 (w_iload_n (p' := 23) f_293_22 rfl rfl
 (w_iconst (p' := 24) f_293_23 rfl
 (w_callV (p' := 27) f_293_24 rfl rfl rfl rfl rfl (r := []) rfl rfl (kI (.inl rk_196) fun r103 s103 h103 =>
 w_istore_n (p' := 28) f_293_27 (L' := [some (.inr (.inr (40, k0, i0))), some (.inl x1), some (.inl x2), some (.inl r103), none]) rfl rfl
 (w_iload_n (p' := 29) f_293_28 rfl rfl
 (w_if (p' := 41) (q' := 32) f_293_29 rfl rfl
 (fun c105 => w_iconst (p' := 42) f_293_41 rfl
 ((h103.1 c105)))
 (fun c105 => w_iload_n (p' := 33) f_293_32 rfl rfl
 (w_iconst (p' := 34) f_293_33 rfl
 (w_icmp (p' := 41) (q' := 37) f_293_34 rfl rfl
 (fun c104 => w_iconst (p' := 42) f_293_41 rfl
 (((h103.2 c105).1 c104)))
 (fun c104 => w_iconst (p' := 38) f_293_37 rfl
 (w_goto (p' := 42) f_293_38 rfl
 (((h103.2 c105).2 c104)))))))))) (h102.1 c106)))))
 (fun c106 => w_ldc_w (p' := 20) f_293_17 rfl
 (w_iret f_293_20 rk_293 (h102.2 c106)))) (h101.2 c107)))))) h)))
set_option maxRecDepth 100000 in
theorem T_Z_page_42 (k0 i0 x1 x2 x3 t0 : Int) (o4 : Option AV) (σ : ST) (Q : Option AV → ST → Prop) (h :
  ((x2 = 0 →
    Q (some (.inl x3)) σ) ∧ (x2 ≠ 0 →
  ((x2 = 1 →
    wpM m_Z_ofPage [.inr (.inr (40, k0, i0)), .inl x1, .inl 1] σ (asI fun r101 s101 =>
    Q (some (.inl r101)) s101)) ∧ (x2 ≠ 1 →
  ((x2 = 2 →
    wpM m_Z_ofPage [.inr (.inr (40, k0, i0)), .inl x1, .inl 2] σ (asI fun r102 s102 =>
    Q (some (.inl r102)) s102)) ∧ (x2 ≠ 2 →
  ((x2 = 3 →
    (((t0 = 0 : Prop) →
      Q (some (.inl (-1))) σ) ∧
    (¬ (t0 = 0) →
      wpM m_Z_ofPage [.inr (.inr (40, k0, i0)), .inl x1, .inl 3] σ (asI fun r103 s103 =>
      Q (some (.inl r103)) s103)))) ∧ (x2 ≠ 3 →
  ((x2 = 4 →
    (((t0 ≠ 0 : Prop) →
      wpM m_Z_ofPage [.inr (.inr (40, k0, i0)), .inl x1, .inl 5] σ (asI fun r105 s105 =>
      (((r105 = (-1) : Prop) →
        Q (some (.inl 0)) s105) ∧
      (¬ (r105 = (-1)) →
        Q (some (.inl 1)) s105)))) ∧
    (¬ (t0 ≠ 0) →
      Q (some (.inl (-1))) σ))) ∧ (x2 ≠ 4 →
    (((x3 ≠ 3 : Prop) →
      Q (some (.inl (-1))) σ) ∧
    (¬ (x3 ≠ 3) →
      wpM m_Z_ofPage [.inr (.inr (40, k0, i0)), .inl x1, .inl 6] σ (asI fun r108 s108 =>
      Q (some (.inl r108)) s108)))))))))))))) :
  wp m_Z_page (42, [some (.inr (.inr (40, k0, i0))), some (.inl x1), some (.inl x2), some (.inl x3), o4], [.inl t0], σ) Q :=
 w_istore (p' := 44) f_293_42 (L' := [some (.inr (.inr (40, k0, i0))), some (.inl x1), some (.inl x2), some (.inl x3), some (.inl t0)]) rfl rfl
 (w_iload_n (p' := 45) f_293_44 rfl rfl
 (w_switch f_293_45 (cs := [(0, 80), (1, 82), (2, 89), (3, 96), (4, 112)]) rfl (d' := 137) rfl
 (⟨fun c110 => w_iload_n (p' := 81) f_293_80 rfl rfl
 (w_iret f_293_81 rk_293 (h.1 c110)), fun c110_0 =>
 ⟨fun c110 => w_aload_n (p' := 83) f_293_82 rfl rfl
 (w_iload_n (p' := 84) f_293_83 rfl rfl
 (w_iconst (p' := 85) f_293_84 rfl
 (w_callV (p' := 88) f_293_85 rfl rfl rfl rfl rfl (r := []) rfl rfl (kI (.inl rk_196) fun r101 s101 h101 =>
 w_iret f_293_88 rk_293 h101) ((h.2 c110_0).1 c110)))), fun c110_1 =>
 ⟨fun c110 => w_aload_n (p' := 90) f_293_89 rfl rfl
 (w_iload_n (p' := 91) f_293_90 rfl rfl
 (w_iconst (p' := 92) f_293_91 rfl
 (w_callV (p' := 95) f_293_92 rfl rfl rfl rfl rfl (r := []) rfl rfl (kI (.inl rk_196) fun r102 s102 h102 =>
 w_iret f_293_95 rk_293 h102) (((h.2 c110_0).2 c110_1).1 c110)))), fun c110_2 =>
 ⟨fun c110 => w_iload (p' := 98) f_293_96 rfl rfl
 (w_if (p' := 110) (q' := 101) f_293_98 rfl rfl
 (fun c104 => w_iconst (p' := 111) f_293_110 rfl
 (w_iret f_293_111 rk_293 (((((h.2 c110_0).2 c110_1).2 c110_2).1 c110).1 c104)))
 (fun c104 => w_aload_n (p' := 102) f_293_101 rfl rfl
 (w_iload_n (p' := 103) f_293_102 rfl rfl
 (w_iconst (p' := 104) f_293_103 rfl
 (w_callV (p' := 107) f_293_104 rfl rfl rfl rfl rfl (r := []) rfl rfl (kI (.inl rk_196) fun r103 s103 h103 =>
 w_goto (p' := 111) f_293_107 rfl
 (w_iret f_293_111 rk_293 h103)) (((((h.2 c110_0).2 c110_1).2 c110_2).1 c110).2 c104)))))), fun c110_3 =>
 ⟨fun c110 => w_iload (p' := 114) f_293_112 rfl rfl
 (w_if (p' := 121) (q' := 117) f_293_114 rfl rfl
 (fun c107 => w_aload_n (p' := 122) f_293_121 rfl rfl
 (w_iload_n (p' := 123) f_293_122 rfl rfl
 (w_iconst (p' := 124) f_293_123 rfl
 (w_callV (p' := 127) f_293_124 rfl rfl rfl rfl rfl (r := []) rfl rfl (kI (.inl rk_196) fun r105 s105 h105 =>
 w_iconst (p' := 128) f_293_127 rfl
 (w_icmp (p' := 135) (q' := 131) f_293_128 rfl rfl
 (fun c106 => w_iconst (p' := 136) f_293_135 rfl
 (w_iret f_293_136 rk_293 (h105.1 c106)))
 (fun c106 => w_iconst (p' := 132) f_293_131 rfl
 (w_goto (p' := 136) f_293_132 rfl
 (w_iret f_293_136 rk_293 (h105.2 c106)))))) ((((((h.2 c110_0).2 c110_1).2 c110_2).2 c110_3).1 c110).1 c107)))))
 (fun c107 => w_iconst (p' := 118) f_293_117 rfl
 (w_goto (p' := 136) f_293_118 rfl
 (w_iret f_293_136 rk_293 ((((((h.2 c110_0).2 c110_1).2 c110_2).2 c110_3).1 c110).2 c107))))), fun c110_4 =>
 w_iload_n (p' := 138) f_293_137 rfl rfl
 (w_iconst (p' := 139) f_293_138 rfl
 (w_icmp (p' := 152) (q' := 142) f_293_139 rfl rfl
 (fun c109 => w_iconst (p' := 153) f_293_152 rfl
 (w_iret f_293_153 rk_293 ((((((h.2 c110_0).2 c110_1).2 c110_2).2 c110_3).2 c110_4).1 c109)))
 (fun c109 => w_aload_n (p' := 143) f_293_142 rfl rfl
 (w_iload_n (p' := 144) f_293_143 rfl rfl
 (w_bipush (p' := 146) f_293_144 rfl
 (w_callV (p' := 149) f_293_146 rfl rfl rfl rfl rfl (r := []) rfl rfl (kI (.inl rk_196) fun r108 s108 h108 =>
 w_goto (p' := 153) f_293_149 rfl
 (w_iret f_293_153 rk_293 h108)) ((((((h.2 c110_0).2 c110_1).2 c110_2).2 c110_3).2 c110_4).2 c109)))))))⟩⟩⟩⟩⟩)))
/-! ClosedRoomsModel.version(II)I -/
theorem f_294_0 : fnd 294 0 = some (0, .aload_n 0, 1, 0, 0, 0, 0) := ceB_eq (by decide +kernel)
theorem f_294_1 : fnd 294 1 = some (1, .iload_n 1, 1, 0, 0, 0, 0) := ceB_eq (by decide +kernel)
theorem f_294_2 : fnd 294 2 = some (2, .invokevirtual 289, 3, 223, 2, 10, 0) := ceB_eq (by decide +kernel)
theorem f_294_5 : fnd 294 5 = some (5, .ifCond .eq 24, 3, 0, 0, 0, 0) := ceB_eq (by decide +kernel)
theorem f_294_8 : fnd 294 8 = some (8, .iload_n 2, 1, 0, 0, 0, 0) := ceB_eq (by decide +kernel)
theorem f_294_9 : fnd 294 9 = some (9, .iconst 0, 1, 0, 0, 0, 0) := ceB_eq (by decide +kernel)
theorem f_294_10 : fnd 294 10 = some (10, .iconst 3, 1, 0, 0, 0, 0) := ceB_eq (by decide +kernel)
theorem f_294_11 : fnd 294 11 = some (11, .invokestatic 54, 3, 168, 3, 10, 0) := ceB_eq (by decide +kernel)
theorem f_294_14 : fnd 294 14 = some (14, .ifCond .eq 15, 3, 0, 0, 0, 0) := ceB_eq (by decide +kernel)
theorem f_294_17 : fnd 294 17 = some (17, .aload_n 0, 1, 0, 0, 0, 0) := ceB_eq (by decide +kernel)
theorem f_294_18 : fnd 294 18 = some (18, .iload_n 1, 1, 0, 0, 0, 0) := ceB_eq (by decide +kernel)
theorem f_294_19 : fnd 294 19 = some (19, .bipush 7, 2, 0, 0, 0, 0) := ceB_eq (by decide +kernel)
theorem f_294_21 : fnd 294 21 = some (21, .iload_n 2, 1, 0, 0, 0, 0) := ceB_eq (by decide +kernel)
theorem f_294_22 : fnd 294 22 = some (22, .iadd, 1, 0, 0, 0, 0) := ceB_eq (by decide +kernel)
theorem f_294_23 : fnd 294 23 = some (23, .invokevirtual 206, 3, 196, 3, 10, 0) := ceB_eq (by decide +kernel)
theorem f_294_26 : fnd 294 26 = some (26, .goto 4, 3, 0, 0, 0, 0) := ceB_eq (by decide +kernel)
theorem f_294_29 : fnd 294 29 = some (29, .iconst (-1), 1, 0, 0, 0, 0) := ceB_eq (by decide +kernel)
theorem f_294_30 : fnd 294 30 = some (30, .ireturn, 1, 0, 0, 0, 0) := ceB_eq (by decide +kernel)
theorem rk_294 : rkm 294 = 0 := by decide +kernel
theorem ml_294 : (mth 294).2.1 = 3 := by decide +kernel
set_option maxRecDepth 100000 in
theorem T_Z_version (k0 i0 x1 x2 : Int) (σ : ST) (Q : Option AV → ST → Prop) (h :
  wpM m_Z_areSlots [.inr (.inr (40, k0, i0)), .inl x1] σ (asI fun r101 s101 =>
  (((r101 = 0 : Prop) →
    Q (some (.inl (-1))) s101) ∧
  (¬ (r101 = 0) →
    wpM m_Z_in [.inl x2, .inl 0, .inl 3] s101 (asI fun r102 s102 =>
    (((r102 = 0 : Prop) →
      Q (some (.inl (-1))) s102) ∧
    (¬ (r102 = 0) →
      wpM m_Z_ofPage [.inr (.inr (40, k0, i0)), .inl x1, .inl (wr (7 + x2))] s102 (asI fun r103 s103 =>
      Q (some (.inl r103)) s103)))))))) :
  wpM m_Z_version [.inr (.inr (40, k0, i0)), .inl x1, .inl x2] σ Q :=
 wpM_of ml_294 (L := [some (.inr (.inr (40, k0, i0))), some (.inl x1), some (.inl x2)]) rfl
 (w_aload_n (p' := 1) f_294_0 rfl rfl
 (w_iload_n (p' := 2) f_294_1 rfl rfl
 (w_callV (p' := 5) f_294_2 rfl rfl rfl rfl rfl (r := []) rfl rfl (kI (.inr rk_223) fun r101 s101 h101 =>
 w_if (p' := 29) (q' := 8) f_294_5 rfl rfl
 (fun c105 => w_iconst (p' := 30) f_294_29 rfl
 (w_iret f_294_30 rk_294 (h101.1 c105)))
 (fun c105 => w_iload_n (p' := 9) f_294_8 rfl rfl
 (w_iconst (p' := 10) f_294_9 rfl
 (w_iconst (p' := 11) f_294_10 rfl
 (w_callS (p' := 14) f_294_11 rfl rfl rfl (r := []) rfl rfl (kI (.inr rk_168) fun r102 s102 h102 =>
 w_if (p' := 29) (q' := 17) f_294_14 rfl rfl
 (fun c104 => w_iconst (p' := 30) f_294_29 rfl
 (w_iret f_294_30 rk_294 (h102.1 c104)))
 (fun c104 => w_aload_n (p' := 18) f_294_17 rfl rfl
 (w_iload_n (p' := 19) f_294_18 rfl rfl
 (w_bipush (p' := 21) f_294_19 rfl
 (w_iload_n (p' := 22) f_294_21 rfl rfl
 (w_iadd (p' := 23) f_294_22 rfl
 (w_callV (p' := 26) f_294_23 rfl rfl rfl rfl rfl (r := []) rfl rfl (kI (.inl rk_196) fun r103 s103 h103 =>
 w_goto (p' := 30) f_294_26 rfl
 (w_iret f_294_30 rk_294 h103)) (h102.2 c104)))))))) (h101.2 c105)))))) h)))
/-! ClosedRoomsModel.addressesBy(II)I -/
theorem f_295_0 : fnd 295 0 = some (0, .iconst 0, 1, 0, 0, 0, 0) := ceB_eq (by decide +kernel)
theorem f_295_1 : fnd 295 1 = some (1, .istore_n 3, 1, 0, 0, 0, 0) := ceB_eq (by decide +kernel)
theorem f_295_2 : fnd 295 2 = some (2, .iconst 0, 1, 0, 0, 0, 0) := ceB_eq (by decide +kernel)
theorem f_295_3 : fnd 295 3 = some (3, .istore 4, 2, 0, 0, 0, 0) := ceB_eq (by decide +kernel)
theorem f_295_5 : fnd 295 5 = some (5, .iload 4, 2, 0, 0, 0, 0) := ceB_eq (by decide +kernel)
theorem f_295_7 : fnd 295 7 = some (7, .bipush 8, 2, 0, 0, 0, 0) := ceB_eq (by decide +kernel)
theorem f_295_9 : fnd 295 9 = some (9, .if_icmp .ge 34, 3, 0, 0, 0, 0) := ceB_eq (by decide +kernel)
theorem f_295_12 : fnd 295 12 = some (12, .iload_n 3, 1, 0, 0, 0, 0) := ceB_eq (by decide +kernel)
theorem f_295_13 : fnd 295 13 = some (13, .aload_n 0, 1, 0, 0, 0, 0) := ceB_eq (by decide +kernel)
theorem f_295_14 : fnd 295 14 = some (14, .iload_n 1, 1, 0, 0, 0, 0) := ceB_eq (by decide +kernel)
theorem f_295_15 : fnd 295 15 = some (15, .bipush 7, 2, 0, 0, 0, 0) := ceB_eq (by decide +kernel)
theorem f_295_17 : fnd 295 17 = some (17, .iload 4, 2, 0, 0, 0, 0) := ceB_eq (by decide +kernel)
theorem f_295_19 : fnd 295 19 = some (19, .iadd, 1, 0, 0, 0, 0) := ceB_eq (by decide +kernel)
theorem f_295_20 : fnd 295 20 = some (20, .invokevirtual 209, 3, 198, 3, 10, 0) := ceB_eq (by decide +kernel)
theorem f_295_23 : fnd 295 23 = some (23, .iload_n 2, 1, 0, 0, 0, 0) := ceB_eq (by decide +kernel)
theorem f_295_24 : fnd 295 24 = some (24, .if_icmp .ne 10, 3, 0, 0, 0, 0) := ceB_eq (by decide +kernel)
theorem f_295_27 : fnd 295 27 = some (27, .iconst 1, 1, 0, 0, 0, 0) := ceB_eq (by decide +kernel)
theorem f_295_28 : fnd 295 28 = some (28, .iload 4, 2, 0, 0, 0, 0) := ceB_eq (by decide +kernel)
theorem f_295_30 : fnd 295 30 = some (30, .ishl, 1, 0, 0, 0, 0) := ceB_eq (by decide +kernel)
theorem f_295_31 : fnd 295 31 = some (31, .goto 4, 3, 0, 0, 0, 0) := ceB_eq (by decide +kernel)
theorem f_295_34 : fnd 295 34 = some (34, .iconst 0, 1, 0, 0, 0, 0) := ceB_eq (by decide +kernel)
theorem f_295_35 : fnd 295 35 = some (35, .ior, 1, 0, 0, 0, 0) := ceB_eq (by decide +kernel)
theorem f_295_36 : fnd 295 36 = some (36, .istore_n 3, 1, 0, 0, 0, 0) := ceB_eq (by decide +kernel)
theorem f_295_37 : fnd 295 37 = some (37, .iinc 4 1, 3, 0, 0, 0, 0) := ceB_eq (by decide +kernel)
theorem f_295_40 : fnd 295 40 = some (40, .goto (-35), 3, 0, 0, 0, 0) := ceB_eq (by decide +kernel)
theorem f_295_43 : fnd 295 43 = some (43, .iload_n 3, 1, 0, 0, 0, 0) := ceB_eq (by decide +kernel)
theorem f_295_44 : fnd 295 44 = some (44, .ireturn, 1, 0, 0, 0, 0) := ceB_eq (by decide +kernel)
theorem rk_295 : rkm 295 = 0 := by decide +kernel
theorem ml_295 : (mth 295).2.1 = 5 := by decide +kernel
set_option maxRecDepth 100000 in
theorem T_Z_addressesBy (k0 i0 x1 x2 : Int) (σ : ST) (Q : Option AV → ST → Prop) (h :
  wp m_Z_addressesBy (5, [some (.inr (.inr (40, k0, i0))), some (.inl x1), some (.inl x2), some (.inl 0), some (.inl 0)], [], σ) Q) :
  wpM m_Z_addressesBy [.inr (.inr (40, k0, i0)), .inl x1, .inl x2] σ Q :=
 wpM_of ml_295 (L := [some (.inr (.inr (40, k0, i0))), some (.inl x1), some (.inl x2), none, none]) rfl
 (w_iconst (p' := 1) f_295_0 rfl
 (w_istore_n (p' := 2) f_295_1 (L' := [some (.inr (.inr (40, k0, i0))), some (.inl x1), some (.inl x2), some (.inl 0), none]) rfl rfl
 (w_iconst (p' := 3) f_295_2 rfl
 (w_istore (p' := 5) f_295_3 (L' := [some (.inr (.inr (40, k0, i0))), some (.inl x1), some (.inl x2), some (.inl 0), some (.inl 0)]) rfl rfl
 (h)))))
set_option maxRecDepth 100000 in
theorem T_Z_addressesBy_5 (k0 i0 x1 x2 x3 x4 : Int) (σ : ST) (Q : Option AV → ST → Prop) (h :
  (((8 ≤ x4 : Prop) →
    Q (some (.inl x3)) σ) ∧
  (¬ (8 ≤ x4) →
    wpM m_Z_ofRoom [.inr (.inr (40, k0, i0)), .inl x1, .inl (wr (7 + x4))] σ (asI fun r101 s101 =>
    (((r101 ≠ x2 : Prop) →
      wp m_Z_addressesBy (5, [some (.inr (.inr (40, k0, i0))), some (.inl x1), some (.inl x2), some (.inl (i_or x3 0)), some (.inl (wr (x4 + 1)))], [], s101) Q) ∧
    (¬ (r101 ≠ x2) →
      wp m_Z_addressesBy (5, [some (.inr (.inr (40, k0, i0))), some (.inl x1), some (.inl x2), some (.inl (i_or x3 (i_shl 1 x4))), some (.inl (wr (x4 + 1)))], [], s101) Q)))))) :
  wp m_Z_addressesBy (5, [some (.inr (.inr (40, k0, i0))), some (.inl x1), some (.inl x2), some (.inl x3), some (.inl x4)], [], σ) Q :=
 w_iload (p' := 7) f_295_5 rfl rfl
 (w_bipush (p' := 9) f_295_7 rfl
 (w_icmp (p' := 43) (q' := 12) f_295_9 rfl rfl
 (fun c103 => w_iload_n (p' := 44) f_295_43 rfl rfl
 (w_iret f_295_44 rk_295 (h.1 c103)))
 (fun c103 => w_iload_n (p' := 13) f_295_12 rfl rfl
 (w_aload_n (p' := 14) f_295_13 rfl rfl
 (w_iload_n (p' := 15) f_295_14 rfl rfl
 (w_bipush (p' := 17) f_295_15 rfl
 (w_iload (p' := 19) f_295_17 rfl rfl
 (w_iadd (p' := 20) f_295_19 rfl
 (w_callV (p' := 23) f_295_20 rfl rfl rfl rfl rfl (r := [.inl x3]) rfl rfl (kI (.inl rk_198) fun r101 s101 h101 =>
 w_iload_n (p' := 24) f_295_23 rfl rfl
 (w_icmp (p' := 34) (q' := 27) f_295_24 rfl rfl
 (fun c102 => w_iconst (p' := 35) f_295_34 rfl
 (w_ior (p' := 36) f_295_35 rfl
 (w_istore_n (p' := 37) f_295_36 (L' := [some (.inr (.inr (40, k0, i0))), some (.inl x1), some (.inl x2), some (.inl (i_or x3 0)), some (.inl x4)]) rfl rfl
 (w_iinc (p' := 40) f_295_37 rfl (L' := [some (.inr (.inr (40, k0, i0))), some (.inl x1), some (.inl x2), some (.inl (i_or x3 0)), some (.inl (wr (x4 + 1)))]) rfl rfl
 (w_goto (p' := 5) f_295_40 rfl
 ((h101.1 c102)))))))
 (fun c102 => w_iconst (p' := 28) f_295_27 rfl
 (w_iload (p' := 30) f_295_28 rfl rfl
 (w_ishl (p' := 31) f_295_30 rfl
 (w_goto (p' := 35) f_295_31 rfl
 (w_ior (p' := 36) f_295_35 rfl
 (w_istore_n (p' := 37) f_295_36 (L' := [some (.inr (.inr (40, k0, i0))), some (.inl x1), some (.inl x2), some (.inl (i_or x3 (i_shl 1 x4))), some (.inl x4)]) rfl rfl
 (w_iinc (p' := 40) f_295_37 rfl (L' := [some (.inr (.inr (40, k0, i0))), some (.inl x1), some (.inl x2), some (.inl (i_or x3 (i_shl 1 x4))), some (.inl (wr (x4 + 1)))]) rfl rfl
 (w_goto (p' := 5) f_295_40 rfl
 ((h101.2 c102)))))))))))) (h.2 c103))))))))))
/-! ClosedRoomsModel.room(II)I -/
theorem f_296_0 : fnd 296 0 = some (0, .aload_n 0, 1, 0, 0, 0, 0) := ceB_eq (by decide +kernel)
theorem f_296_1 : fnd 296 1 = some (1, .aload_n 0, 1, 0, 0, 0, 0) := ceB_eq (by decide +kernel)
theorem f_296_2 : fnd 296 2 = some (2, .iload_n 1, 1, 0, 0, 0, 0) := ceB_eq (by decide +kernel)
theorem f_296_3 : fnd 296 3 = some (3, .invokevirtual 252, 3, 201, 2, 10, 0) := ceB_eq (by decide +kernel)
theorem f_296_6 : fnd 296 6 = some (6, .ifCond .eq 17, 3, 0, 0, 0, 0) := ceB_eq (by decide +kernel)
theorem f_296_9 : fnd 296 9 = some (9, .iload_n 2, 1, 0, 0, 0, 0) := ceB_eq (by decide +kernel)
theorem f_296_10 : fnd 296 10 = some (10, .iconst 0, 1, 0, 0, 0, 0) := ceB_eq (by decide +kernel)
theorem f_296_11 : fnd 296 11 = some (11, .bipush 8, 2, 0, 0, 0, 0) := ceB_eq (by decide +kernel)
theorem f_296_13 : fnd 296 13 = some (13, .invokestatic 54, 3, 168, 3, 10, 0) := ceB_eq (by decide +kernel)
theorem f_296_16 : fnd 296 16 = some (16, .ifCond .eq 7, 3, 0, 0, 0, 0) := ceB_eq (by decide +kernel)
theorem f_296_19 : fnd 296 19 = some (19, .iconst 0, 1, 0, 0, 0, 0) := ceB_eq (by decide +kernel)
theorem f_296_20 : fnd 296 20 = some (20, .goto 4, 3, 0, 0, 0, 0) := ceB_eq (by decide +kernel)
theorem f_296_23 : fnd 296 23 = some (23, .iconst 1, 1, 0, 0, 0, 0) := ceB_eq (by decide +kernel)
theorem f_296_24 : fnd 296 24 = some (24, .putfield 43, 3, 10, 0, 0, 0) := ceB_eq (by decide +kernel)
theorem f_296_27 : fnd 296 27 = some (27, .aload_n 0, 1, 0, 0, 0, 0) := ceB_eq (by decide +kernel)
theorem f_296_28 : fnd 296 28 = some (28, .getfield 43, 3, 10, 0, 0, 0) := ceB_eq (by decide +kernel)
theorem f_296_31 : fnd 296 31 = some (31, .iconst 1, 1, 0, 0, 0, 0) := ceB_eq (by decide +kernel)
theorem f_296_32 : fnd 296 32 = some (32, .if_icmp .ne 5, 3, 0, 0, 0, 0) := ceB_eq (by decide +kernel)
theorem f_296_35 : fnd 296 35 = some (35, .iconst 0, 1, 0, 0, 0, 0) := ceB_eq (by decide +kernel)
theorem f_296_36 : fnd 296 36 = some (36, .ireturn, 1, 0, 0, 0, 0) := ceB_eq (by decide +kernel)
theorem f_296_37 : fnd 296 37 = some (37, .iload_n 2, 1, 0, 0, 0, 0) := ceB_eq (by decide +kernel)
theorem f_296_38 : fnd 296 38 = some (38, .tableswitch 58 5 8 #[30, 38, 44, 51], 30, 0, 0, 0, 0) := ceB_eq (by decide +kernel)
theorem f_296_68 : fnd 296 68 = some (68, .aload_n 0, 1, 0, 0, 0, 0) := ceB_eq (by decide +kernel)
theorem f_296_69 : fnd 296 69 = some (69, .iload_n 1, 1, 0, 0, 0, 0) := ceB_eq (by decide +kernel)
theorem f_296_70 : fnd 296 70 = some (70, .bipush 6, 2, 0, 0, 0, 0) := ceB_eq (by decide +kernel)
theorem f_296_72 : fnd 296 72 = some (72, .invokevirtual 209, 3, 198, 3, 10, 0) := ceB_eq (by decide +kernel)
theorem f_296_75 : fnd 296 75 = some (75, .ireturn, 1, 0, 0, 0, 0) := ceB_eq (by decide +kernel)
theorem f_296_76 : fnd 296 76 = some (76, .aload_n 0, 1, 0, 0, 0, 0) := ceB_eq (by decide +kernel)
theorem f_296_77 : fnd 296 77 = some (77, .iload_n 1, 1, 0, 0, 0, 0) := ceB_eq (by decide +kernel)
theorem f_296_78 : fnd 296 78 = some (78, .invokevirtual 310, 3, 234, 2, 10, 0) := ceB_eq (by decide +kernel)
theorem f_296_81 : fnd 296 81 = some (81, .ireturn, 1, 0, 0, 0, 0) := ceB_eq (by decide +kernel)
theorem f_296_82 : fnd 296 82 = some (82, .aload_n 0, 1, 0, 0, 0, 0) := ceB_eq (by decide +kernel)
theorem f_296_83 : fnd 296 83 = some (83, .iload_n 1, 1, 0, 0, 0, 0) := ceB_eq (by decide +kernel)
theorem f_296_84 : fnd 296 84 = some (84, .iconst 1, 1, 0, 0, 0, 0) := ceB_eq (by decide +kernel)
theorem f_296_85 : fnd 296 85 = some (85, .invokevirtual 453, 3, 295, 3, 10, 0) := ceB_eq (by decide +kernel)
theorem f_296_88 : fnd 296 88 = some (88, .ireturn, 1, 0, 0, 0, 0) := ceB_eq (by decide +kernel)
theorem f_296_89 : fnd 296 89 = some (89, .aload_n 0, 1, 0, 0, 0, 0) := ceB_eq (by decide +kernel)
theorem f_296_90 : fnd 296 90 = some (90, .iload_n 1, 1, 0, 0, 0, 0) := ceB_eq (by decide +kernel)
theorem f_296_91 : fnd 296 91 = some (91, .iconst 2, 1, 0, 0, 0, 0) := ceB_eq (by decide +kernel)
theorem f_296_92 : fnd 296 92 = some (92, .invokevirtual 453, 3, 295, 3, 10, 0) := ceB_eq (by decide +kernel)
theorem f_296_95 : fnd 296 95 = some (95, .ireturn, 1, 0, 0, 0, 0) := ceB_eq (by decide +kernel)
theorem f_296_96 : fnd 296 96 = some (96, .aload_n 0, 1, 0, 0, 0, 0) := ceB_eq (by decide +kernel)
theorem f_296_97 : fnd 296 97 = some (97, .iload_n 1, 1, 0, 0, 0, 0) := ceB_eq (by decide +kernel)
theorem f_296_98 : fnd 296 98 = some (98, .iconst 1, 1, 0, 0, 0, 0) := ceB_eq (by decide +kernel)
theorem f_296_99 : fnd 296 99 = some (99, .iload_n 2, 1, 0, 0, 0, 0) := ceB_eq (by decide +kernel)
theorem f_296_100 : fnd 296 100 = some (100, .iadd, 1, 0, 0, 0, 0) := ceB_eq (by decide +kernel)
theorem f_296_101 : fnd 296 101 = some (101, .invokevirtual 209, 3, 198, 3, 10, 0) := ceB_eq (by decide +kernel)
theorem f_296_104 : fnd 296 104 = some (104, .ireturn, 1, 0, 0, 0, 0) := ceB_eq (by decide +kernel)
theorem rk_296 : rkm 296 = 0 := by decide +kernel
theorem ml_296 : (mth 296).2.1 = 3 := by decide +kernel
set_option maxRecDepth 100000 in
theorem T_Z_room (k0 i0 x1 x2 : Int) (σ : ST) (Q : Option AV → ST → Prop) (h :
  wpM m_Z_isRoom [.inr (.inr (40, k0, i0)), .inl x1] σ (asI fun r101 s101 =>
  (((r101 = 0 : Prop) →
    wp m_Z_room (24, [some (.inr (.inr (40, k0, i0))), some (.inl x1), some (.inl x2)], [.inl 1, .inr (.inr (40, k0, i0))], s101) Q) ∧
  (¬ (r101 = 0) →
    wpM m_Z_in [.inl x2, .inl 0, .inl 8] s101 (asI fun r102 s102 =>
    (((r102 = 0 : Prop) →
      wp m_Z_room (24, [some (.inr (.inr (40, k0, i0))), some (.inl x1), some (.inl x2)], [.inl 1, .inr (.inr (40, k0, i0))], s102) Q) ∧
    (¬ (r102 = 0) →
      wp m_Z_room (24, [some (.inr (.inr (40, k0, i0))), some (.inl x1), some (.inl x2)], [.inl 0, .inr (.inr (40, k0, i0))], s102) Q))))))) :
  wpM m_Z_room [.inr (.inr (40, k0, i0)), .inl x1, .inl x2] σ Q :=
 wpM_of ml_296 (L := [some (.inr (.inr (40, k0, i0))), some (.inl x1), some (.inl x2)]) rfl
 (w_aload_n (p' := 1) f_296_0 rfl rfl
 (w_aload_n (p' := 2) f_296_1 rfl rfl
 (w_iload_n (p' := 3) f_296_2 rfl rfl
 (w_callV (p' := 6) f_296_3 rfl rfl rfl rfl rfl (r := [.inr (.inr (40, k0, i0))]) rfl rfl (kI (.inr rk_201) fun r101 s101 h101 =>
 w_if (p' := 23) (q' := 9) f_296_6 rfl rfl
 (fun c104 => w_iconst (p' := 24) f_296_23 rfl
 ((h101.1 c104)))
 (fun c104 => w_iload_n (p' := 10) f_296_9 rfl rfl
 (w_iconst (p' := 11) f_296_10 rfl
 (w_bipush (p' := 13) f_296_11 rfl
 (w_callS (p' := 16) f_296_13 rfl rfl rfl (r := [.inr (.inr (40, k0, i0))]) rfl rfl (kI (.inr rk_168) fun r102 s102 h102 =>
 w_if (p' := 23) (q' := 19) f_296_16 rfl rfl
 (fun c103 => w_iconst (p' := 24) f_296_23 rfl
 ((h102.1 c103)))
 (fun c103 => w_iconst (p' := 20) f_296_19 rfl
 (w_goto (p' := 24) f_296_20 rfl
 ((h102.2 c103))))) (h101.2 c104)))))) h))))
set_option maxRecDepth 100000 in
theorem T_Z_room_24 (k0 i0 x1 x2 t0 kt1 it1 : Int) (σ : ST) (Q : Option AV → ST → Prop) (h :
  (((((up σ 40 kt1 it1 0 t0) 40 k0 i0 0) ≠ 1 : Prop) →
    ((x2 = 5 →
      wpM m_Z_ofRoom [.inr (.inr (40, k0, i0)), .inl x1, .inl 6] (up σ 40 kt1 it1 0 t0) (asI fun r101 s101 =>
      Q (some (.inl r101)) s101)) ∧ (x2 ≠ 5 →
    ((x2 = 6 →
      wpM m_Z_insideOf [.inr (.inr (40, k0, i0)), .inl x1] (up σ 40 kt1 it1 0 t0) (asI fun r102 s102 =>
      Q (some (.inl r102)) s102)) ∧ (x2 ≠ 6 →
    ((x2 = 7 →
      wpM m_Z_addressesBy [.inr (.inr (40, k0, i0)), .inl x1, .inl 1] (up σ 40 kt1 it1 0 t0) (asI fun r103 s103 =>
      Q (some (.inl r103)) s103)) ∧ (x2 ≠ 7 →
    ((x2 = 8 →
      wpM m_Z_addressesBy [.inr (.inr (40, k0, i0)), .inl x1, .inl 2] (up σ 40 kt1 it1 0 t0) (asI fun r104 s104 =>
      Q (some (.inl r104)) s104)) ∧ (x2 ≠ 8 →
      wpM m_Z_ofRoom [.inr (.inr (40, k0, i0)), .inl x1, .inl (wr (1 + x2))] (up σ 40 kt1 it1 0 t0) (asI fun r105 s105 =>
      Q (some (.inl r105)) s105)))))))))) ∧
  (¬ (((up σ 40 kt1 it1 0 t0) 40 k0 i0 0) ≠ 1) →
    Q (some (.inl 0)) (up σ 40 kt1 it1 0 t0)))) :
  wp m_Z_room (24, [some (.inr (.inr (40, k0, i0))), some (.inl x1), some (.inl x2)], [.inl t0, .inr (.inr (40, kt1, it1))], σ) Q :=
 w_putI (p' := 27) f_296_24 rfl rfl (c' := 0) rfl rfl
 (w_aload_n (p' := 28) f_296_27 rfl rfl
 (w_getfield (p' := 31) f_296_28 rfl (x := .inl ((up σ 40 kt1 it1 0 t0) 40 k0 i0 0)) rfl rfl
 (w_iconst (p' := 32) f_296_31 rfl
 (w_icmp (p' := 37) (q' := 35) f_296_32 rfl rfl
 (fun c107 => w_iload_n (p' := 38) f_296_37 rfl rfl
 (w_switch f_296_38 (cs := [(5, 68), (6, 76), (7, 82), (8, 89)]) rfl (d' := 96) rfl
 (⟨fun c106 => w_aload_n (p' := 69) f_296_68 rfl rfl
 (w_iload_n (p' := 70) f_296_69 rfl rfl
 (w_bipush (p' := 72) f_296_70 rfl
 (w_callV (p' := 75) f_296_72 rfl rfl rfl rfl rfl (r := []) rfl rfl (kI (.inl rk_198) fun r101 s101 h101 =>
 w_iret f_296_75 rk_296 h101) ((h.1 c107).1 c106)))), fun c106_0 =>
 ⟨fun c106 => w_aload_n (p' := 77) f_296_76 rfl rfl
 (w_iload_n (p' := 78) f_296_77 rfl rfl
 (w_callV (p' := 81) f_296_78 rfl rfl rfl rfl rfl (r := []) rfl rfl (kI (.inl rk_234) fun r102 s102 h102 =>
 w_iret f_296_81 rk_296 h102) (((h.1 c107).2 c106_0).1 c106))), fun c106_1 =>
 ⟨fun c106 => w_aload_n (p' := 83) f_296_82 rfl rfl
 (w_iload_n (p' := 84) f_296_83 rfl rfl
 (w_iconst (p' := 85) f_296_84 rfl
 (w_callV (p' := 88) f_296_85 rfl rfl rfl rfl rfl (r := []) rfl rfl (kI (.inl rk_295) fun r103 s103 h103 =>
 w_iret f_296_88 rk_296 h103) ((((h.1 c107).2 c106_0).2 c106_1).1 c106)))), fun c106_2 =>
 ⟨fun c106 => w_aload_n (p' := 90) f_296_89 rfl rfl
 (w_iload_n (p' := 91) f_296_90 rfl rfl
 (w_iconst (p' := 92) f_296_91 rfl
 (w_callV (p' := 95) f_296_92 rfl rfl rfl rfl rfl (r := []) rfl rfl (kI (.inl rk_295) fun r104 s104 h104 =>
 w_iret f_296_95 rk_296 h104) (((((h.1 c107).2 c106_0).2 c106_1).2 c106_2).1 c106)))), fun c106_3 =>
 w_aload_n (p' := 97) f_296_96 rfl rfl
 (w_iload_n (p' := 98) f_296_97 rfl rfl
 (w_iconst (p' := 99) f_296_98 rfl
 (w_iload_n (p' := 100) f_296_99 rfl rfl
 (w_iadd (p' := 101) f_296_100 rfl
 (w_callV (p' := 104) f_296_101 rfl rfl rfl rfl rfl (r := []) rfl rfl (kI (.inl rk_198) fun r105 s105 h105 =>
 w_iret f_296_104 rk_296 h105) (((((h.1 c107).2 c106_0).2 c106_1).2 c106_2).2 c106_3))))))⟩⟩⟩⟩)))
 (fun c107 => w_iconst (p' := 36) f_296_35 rfl
 (w_iret f_296_36 rk_296 (h.2 c107)))))))
/-! ClosedRoomsModel.mapped(II)I -/
theorem f_297_0 : fnd 297 0 = some (0, .aload_n 0, 1, 0, 0, 0, 0) := ceB_eq (by decide +kernel)
theorem f_297_1 : fnd 297 1 = some (1, .iload_n 1, 1, 0, 0, 0, 0) := ceB_eq (by decide +kernel)
theorem f_297_2 : fnd 297 2 = some (2, .invokevirtual 252, 3, 201, 2, 10, 0) := ceB_eq (by decide +kernel)
theorem f_297_5 : fnd 297 5 = some (5, .ifCond .eq 21, 3, 0, 0, 0, 0) := ceB_eq (by decide +kernel)
theorem f_297_8 : fnd 297 8 = some (8, .aload_n 0, 1, 0, 0, 0, 0) := ceB_eq (by decide +kernel)
theorem f_297_9 : fnd 297 9 = some (9, .iload_n 1, 1, 0, 0, 0, 0) := ceB_eq (by decide +kernel)
theorem f_297_10 : fnd 297 10 = some (10, .iload_n 2, 1, 0, 0, 0, 0) := ceB_eq (by decide +kernel)
theorem f_297_11 : fnd 297 11 = some (11, .invokevirtual 255, 3, 202, 3, 10, 0) := ceB_eq (by decide +kernel)
theorem f_297_14 : fnd 297 14 = some (14, .ifCond .eq 12, 3, 0, 0, 0, 0) := ceB_eq (by decide +kernel)
theorem f_297_17 : fnd 297 17 = some (17, .aload_n 0, 1, 0, 0, 0, 0) := ceB_eq (by decide +kernel)
theorem f_297_18 : fnd 297 18 = some (18, .iload_n 1, 1, 0, 0, 0, 0) := ceB_eq (by decide +kernel)
theorem f_297_19 : fnd 297 19 = some (19, .iload_n 2, 1, 0, 0, 0, 0) := ceB_eq (by decide +kernel)
theorem f_297_20 : fnd 297 20 = some (20, .invokevirtual 267, 3, 210, 3, 10, 0) := ceB_eq (by decide +kernel)
theorem f_297_23 : fnd 297 23 = some (23, .goto 4, 3, 0, 0, 0, 0) := ceB_eq (by decide +kernel)
theorem f_297_26 : fnd 297 26 = some (26, .iconst (-1), 1, 0, 0, 0, 0) := ceB_eq (by decide +kernel)
theorem f_297_27 : fnd 297 27 = some (27, .ireturn, 1, 0, 0, 0, 0) := ceB_eq (by decide +kernel)
theorem rk_297 : rkm 297 = 0 := by decide +kernel
theorem ml_297 : (mth 297).2.1 = 3 := by decide +kernel
set_option maxRecDepth 100000 in
theorem T_Z_mapped (k0 i0 x1 x2 : Int) (σ : ST) (Q : Option AV → ST → Prop) (h :
  wpM m_Z_isRoom [.inr (.inr (40, k0, i0)), .inl x1] σ (asI fun r101 s101 =>
  (((r101 = 0 : Prop) →
    Q (some (.inl (-1))) s101) ∧
  (¬ (r101 = 0) →
    wpM m_Z_isAddress [.inr (.inr (40, k0, i0)), .inl x1, .inl x2] s101 (asI fun r102 s102 =>
    (((r102 = 0 : Prop) →
      Q (some (.inl (-1))) s102) ∧
    (¬ (r102 = 0) →
      wpM m_Z_mapOf [.inr (.inr (40, k0, i0)), .inl x1, .inl x2] s102 (asI fun r103 s103 =>
      Q (some (.inl r103)) s103)))))))) :
  wpM m_Z_mapped [.inr (.inr (40, k0, i0)), .inl x1, .inl x2] σ Q :=
 wpM_of ml_297 (L := [some (.inr (.inr (40, k0, i0))), some (.inl x1), some (.inl x2)]) rfl
 (w_aload_n (p' := 1) f_297_0 rfl rfl
 (w_iload_n (p' := 2) f_297_1 rfl rfl
 (w_callV (p' := 5) f_297_2 rfl rfl rfl rfl rfl (r := []) rfl rfl (kI (.inr rk_201) fun r101 s101 h101 =>
 w_if (p' := 26) (q' := 8) f_297_5 rfl rfl
 (fun c105 => w_iconst (p' := 27) f_297_26 rfl
 (w_iret f_297_27 rk_297 (h101.1 c105)))
 (fun c105 => w_aload_n (p' := 9) f_297_8 rfl rfl
 (w_iload_n (p' := 10) f_297_9 rfl rfl
 (w_iload_n (p' := 11) f_297_10 rfl rfl
 (w_callV (p' := 14) f_297_11 rfl rfl rfl rfl rfl (r := []) rfl rfl (kI (.inr rk_202) fun r102 s102 h102 =>
 w_if (p' := 26) (q' := 17) f_297_14 rfl rfl
 (fun c104 => w_iconst (p' := 27) f_297_26 rfl
 (w_iret f_297_27 rk_297 (h102.1 c104)))
 (fun c104 => w_aload_n (p' := 18) f_297_17 rfl rfl
 (w_iload_n (p' := 19) f_297_18 rfl rfl
 (w_iload_n (p' := 20) f_297_19 rfl rfl
 (w_callV (p' := 23) f_297_20 rfl rfl rfl rfl rfl (r := []) rfl rfl (kI (.inl rk_210) fun r103 s103 h103 =>
 w_goto (p' := 27) f_297_23 rfl
 (w_iret f_297_27 rk_297 h103)) (h102.2 c104)))))) (h101.2 c105)))))) h)))
/-! ClosedRoomsModel.core(II)I -/
theorem f_298_0 : fnd 298 0 = some (0, .aload_n 0, 1, 0, 0, 0, 0) := ceB_eq (by decide +kernel)
theorem f_298_1 : fnd 298 1 = some (1, .iload_n 1, 1, 0, 0, 0, 0) := ceB_eq (by decide +kernel)
theorem f_298_2 : fnd 298 2 = some (2, .invokevirtual 261, 3, 207, 2, 10, 0) := ceB_eq (by decide +kernel)
theorem f_298_5 : fnd 298 5 = some (5, .ifCond .eq 21, 3, 0, 0, 0, 0) := ceB_eq (by decide +kernel)
theorem f_298_8 : fnd 298 8 = some (8, .iload_n 2, 1, 0, 0, 0, 0) := ceB_eq (by decide +kernel)
theorem f_298_9 : fnd 298 9 = some (9, .iconst 0, 1, 0, 0, 0, 0) := ceB_eq (by decide +kernel)
theorem f_298_10 : fnd 298 10 = some (10, .iconst 4, 1, 0, 0, 0, 0) := ceB_eq (by decide +kernel)
theorem f_298_11 : fnd 298 11 = some (11, .invokestatic 54, 3, 168, 3, 10, 0) := ceB_eq (by decide +kernel)
theorem f_298_14 : fnd 298 14 = some (14, .ifCond .eq 12, 3, 0, 0, 0, 0) := ceB_eq (by decide +kernel)
theorem f_298_17 : fnd 298 17 = some (17, .aload_n 0, 1, 0, 0, 0, 0) := ceB_eq (by decide +kernel)
theorem f_298_18 : fnd 298 18 = some (18, .iload_n 1, 1, 0, 0, 0, 0) := ceB_eq (by decide +kernel)
theorem f_298_19 : fnd 298 19 = some (19, .iload_n 2, 1, 0, 0, 0, 0) := ceB_eq (by decide +kernel)
theorem f_298_20 : fnd 298 20 = some (20, .invokevirtual 212, 3, 208, 3, 10, 0) := ceB_eq (by decide +kernel)
theorem f_298_23 : fnd 298 23 = some (23, .goto 6, 3, 0, 0, 0, 0) := ceB_eq (by decide +kernel)
theorem f_298_26 : fnd 298 26 = some (26, .ldc_w 452, 3, 0, 0, 0, (-1000000)) := ceB_eq (by decide +kernel)
theorem f_298_29 : fnd 298 29 = some (29, .ireturn, 1, 0, 0, 0, 0) := ceB_eq (by decide +kernel)
theorem rk_298 : rkm 298 = 0 := by decide +kernel
theorem ml_298 : (mth 298).2.1 = 3 := by decide +kernel
set_option maxRecDepth 100000 in
theorem T_Z_core (k0 i0 x1 x2 : Int) (σ : ST) (Q : Option AV → ST → Prop) (h :
  wpM m_Z_isCore [.inr (.inr (40, k0, i0)), .inl x1] σ (asI fun r101 s101 =>
  (((r101 = 0 : Prop) →
    Q (some (.inl (-1000000))) s101) ∧
  (¬ (r101 = 0) →
    wpM m_Z_in [.inl x2, .inl 0, .inl 4] s101 (asI fun r102 s102 =>
    (((r102 = 0 : Prop) →
      Q (some (.inl (-1000000))) s102) ∧
    (¬ (r102 = 0) →
      wpM m_Z_ofCore [.inr (.inr (40, k0, i0)), .inl x1, .inl x2] s102 (asI fun r103 s103 =>
      Q (some (.inl r103)) s103)))))))) :
  wpM m_Z_core [.inr (.inr (40, k0, i0)), .inl x1, .inl x2] σ Q :=
 wpM_of ml_298 (L := [some (.inr (.inr (40, k0, i0))), some (.inl x1), some (.inl x2)]) rfl
 (w_aload_n (p' := 1) f_298_0 rfl rfl
 (w_iload_n (p' := 2) f_298_1 rfl rfl
 (w_callV (p' := 5) f_298_2 rfl rfl rfl rfl rfl (r := []) rfl rfl (kI (.inr rk_207) fun r101 s101 h101 =>
 w_if (p' := 26) (q' := 8) f_298_5 rfl rfl
 (fun c105 => w_ldc_w (p' := 29) f_298_26 rfl
 (w_iret f_298_29 rk_298 (h101.1 c105)))
 (fun c105 => w_iload_n (p' := 9) f_298_8 rfl rfl
 (w_iconst (p' := 10) f_298_9 rfl
 (w_iconst (p' := 11) f_298_10 rfl
 (w_callS (p' := 14) f_298_11 rfl rfl rfl (r := []) rfl rfl (kI (.inr rk_168) fun r102 s102 h102 =>
 w_if (p' := 26) (q' := 17) f_298_14 rfl rfl
 (fun c104 => w_ldc_w (p' := 29) f_298_26 rfl
 (w_iret f_298_29 rk_298 (h102.1 c104)))
 (fun c104 => w_aload_n (p' := 18) f_298_17 rfl rfl
 (w_iload_n (p' := 19) f_298_18 rfl rfl
 (w_iload_n (p' := 20) f_298_19 rfl rfl
 (w_callV (p' := 23) f_298_20 rfl rfl rfl rfl rfl (r := []) rfl rfl (kI (.inl rk_208) fun r103 s103 h103 =>
 w_goto (p' := 29) f_298_23 rfl
 (w_iret f_298_29 rk_298 h103)) (h102.2 c104)))))) (h101.2 c105)))))) h)))
/-! ClosedRoomsModel.seen(III)I -/
theorem f_299_0 : fnd 299 0 = some (0, .aload_n 0, 1, 0, 0, 0, 0) := ceB_eq (by decide +kernel)
theorem f_299_1 : fnd 299 1 = some (1, .iload_n 1, 1, 0, 0, 0, 0) := ceB_eq (by decide +kernel)
theorem f_299_2 : fnd 299 2 = some (2, .invokevirtual 261, 3, 207, 2, 10, 0) := ceB_eq (by decide +kernel)
theorem f_299_5 : fnd 299 5 = some (5, .ifCond .eq 43, 3, 0, 0, 0, 0) := ceB_eq (by decide +kernel)
theorem f_299_8 : fnd 299 8 = some (8, .iload_n 2, 1, 0, 0, 0, 0) := ceB_eq (by decide +kernel)
theorem f_299_9 : fnd 299 9 = some (9, .iconst 0, 1, 0, 0, 0, 0) := ceB_eq (by decide +kernel)
theorem f_299_10 : fnd 299 10 = some (10, .aload_n 0, 1, 0, 0, 0, 0) := ceB_eq (by decide +kernel)
theorem f_299_11 : fnd 299 11 = some (11, .iload_n 1, 1, 0, 0, 0, 0) := ceB_eq (by decide +kernel)
theorem f_299_12 : fnd 299 12 = some (12, .iconst 4, 1, 0, 0, 0, 0) := ceB_eq (by decide +kernel)
theorem f_299_13 : fnd 299 13 = some (13, .invokevirtual 212, 3, 208, 3, 10, 0) := ceB_eq (by decide +kernel)
theorem f_299_16 : fnd 299 16 = some (16, .iconst 1, 1, 0, 0, 0, 0) := ceB_eq (by decide +kernel)
theorem f_299_17 : fnd 299 17 = some (17, .isub, 1, 0, 0, 0, 0) := ceB_eq (by decide +kernel)
theorem f_299_18 : fnd 299 18 = some (18, .invokestatic 54, 3, 168, 3, 10, 0) := ceB_eq (by decide +kernel)
theorem f_299_21 : fnd 299 21 = some (21, .ifCond .eq 27, 3, 0, 0, 0, 0) := ceB_eq (by decide +kernel)
theorem f_299_24 : fnd 299 24 = some (24, .iload_n 3, 1, 0, 0, 0, 0) := ceB_eq (by decide +kernel)
theorem f_299_25 : fnd 299 25 = some (25, .iconst 0, 1, 0, 0, 0, 0) := ceB_eq (by decide +kernel)
theorem f_299_26 : fnd 299 26 = some (26, .iconst 1, 1, 0, 0, 0, 0) := ceB_eq (by decide +kernel)
theorem f_299_27 : fnd 299 27 = some (27, .invokestatic 54, 3, 168, 3, 10, 0) := ceB_eq (by decide +kernel)
theorem f_299_30 : fnd 299 30 = some (30, .ifCond .eq 18, 3, 0, 0, 0, 0) := ceB_eq (by decide +kernel)
theorem f_299_33 : fnd 299 33 = some (33, .aload_n 0, 1, 0, 0, 0, 0) := ceB_eq (by decide +kernel)
theorem f_299_34 : fnd 299 34 = some (34, .iload_n 1, 1, 0, 0, 0, 0) := ceB_eq (by decide +kernel)
theorem f_299_35 : fnd 299 35 = some (35, .iconst 5, 1, 0, 0, 0, 0) := ceB_eq (by decide +kernel)
theorem f_299_36 : fnd 299 36 = some (36, .iconst 2, 1, 0, 0, 0, 0) := ceB_eq (by decide +kernel)
theorem f_299_37 : fnd 299 37 = some (37, .iload_n 2, 1, 0, 0, 0, 0) := ceB_eq (by decide +kernel)
theorem f_299_38 : fnd 299 38 = some (38, .imul, 1, 0, 0, 0, 0) := ceB_eq (by decide +kernel)
theorem f_299_39 : fnd 299 39 = some (39, .iadd, 1, 0, 0, 0, 0) := ceB_eq (by decide +kernel)
theorem f_299_40 : fnd 299 40 = some (40, .iload_n 3, 1, 0, 0, 0, 0) := ceB_eq (by decide +kernel)
theorem f_299_41 : fnd 299 41 = some (41, .iadd, 1, 0, 0, 0, 0) := ceB_eq (by decide +kernel)
theorem f_299_42 : fnd 299 42 = some (42, .invokevirtual 212, 3, 208, 3, 10, 0) := ceB_eq (by decide +kernel)
theorem f_299_45 : fnd 299 45 = some (45, .goto 4, 3, 0, 0, 0, 0) := ceB_eq (by decide +kernel)
theorem f_299_48 : fnd 299 48 = some (48, .iconst (-1), 1, 0, 0, 0, 0) := ceB_eq (by decide +kernel)
theorem f_299_49 : fnd 299 49 = some (49, .ireturn, 1, 0, 0, 0, 0) := ceB_eq (by decide +kernel)
theorem rk_299 : rkm 299 = 0 := by decide +kernel
theorem ml_299 : (mth 299).2.1 = 4 := by decide +kernel
set_option maxRecDepth 100000 in
theorem T_Z_seen (k0 i0 x1 x2 x3 : Int) (σ : ST) (Q : Option AV → ST → Prop) (h :
  wpM m_Z_isCore [.inr (.inr (40, k0, i0)), .inl x1] σ (asI fun r101 s101 =>
  (((r101 = 0 : Prop) →
    Q (some (.inl (-1))) s101) ∧
  (¬ (r101 = 0) →
    wpM m_Z_ofCore [.inr (.inr (40, k0, i0)), .inl x1, .inl 4] s101 (asI fun r102 s102 =>
    wpM m_Z_in [.inl x2, .inl 0, .inl (wr (r102 - 1))] s102 (asI fun r103 s103 =>
    (((r103 = 0 : Prop) →
      Q (some (.inl (-1))) s103) ∧
    (¬ (r103 = 0) →
      wpM m_Z_in [.inl x3, .inl 0, .inl 1] s103 (asI fun r104 s104 =>
      (((r104 = 0 : Prop) →
        Q (some (.inl (-1))) s104) ∧
      (¬ (r104 = 0) →
        wpM m_Z_ofCore [.inr (.inr (40, k0, i0)), .inl x1, .inl (wr ((wr (5 + (wr (2 * x2)))) + x3))] s104 (asI fun r105 s105 =>
        Q (some (.inl r105)) s105)))))))))))) :
  wpM m_Z_seen [.inr (.inr (40, k0, i0)), .inl x1, .inl x2, .inl x3] σ Q :=
 wpM_of ml_299 (L := [some (.inr (.inr (40, k0, i0))), some (.inl x1), some (.inl x2), some (.inl x3)]) rfl
 (w_aload_n (p' := 1) f_299_0 rfl rfl
 (w_iload_n (p' := 2) f_299_1 rfl rfl
 (w_callV (p' := 5) f_299_2 rfl rfl rfl rfl rfl (r := []) rfl rfl (kI (.inr rk_207) fun r101 s101 h101 =>
 w_if (p' := 48) (q' := 8) f_299_5 rfl rfl
 (fun c108 => w_iconst (p' := 49) f_299_48 rfl
 (w_iret f_299_49 rk_299 (h101.1 c108)))
 (fun c108 => w_iload_n (p' := 9) f_299_8 rfl rfl
 (w_iconst (p' := 10) f_299_9 rfl
 (w_aload_n (p' := 11) f_299_10 rfl rfl
 (w_iload_n (p' := 12) f_299_11 rfl rfl
 (w_iconst (p' := 13) f_299_12 rfl
 (w_callV (p' := 16) f_299_13 rfl rfl rfl rfl rfl (r := [.inl 0, .inl x2]) rfl rfl (kI (.inl rk_208) fun r102 s102 h102 =>
 w_iconst (p' := 17) f_299_16 rfl
 (w_isub (p' := 18) f_299_17 rfl
 (w_callS (p' := 21) f_299_18 rfl rfl rfl (r := []) rfl rfl (kI (.inr rk_168) fun r103 s103 h103 =>
 w_if (p' := 48) (q' := 24) f_299_21 rfl rfl
 (fun c107 => w_iconst (p' := 49) f_299_48 rfl
 (w_iret f_299_49 rk_299 (h103.1 c107)))
 (fun c107 => w_iload_n (p' := 25) f_299_24 rfl rfl
 (w_iconst (p' := 26) f_299_25 rfl
 (w_iconst (p' := 27) f_299_26 rfl
 (w_callS (p' := 30) f_299_27 rfl rfl rfl (r := []) rfl rfl (kI (.inr rk_168) fun r104 s104 h104 =>
 w_if (p' := 48) (q' := 33) f_299_30 rfl rfl
 (fun c106 => w_iconst (p' := 49) f_299_48 rfl
 (w_iret f_299_49 rk_299 (h104.1 c106)))
 (fun c106 => w_aload_n (p' := 34) f_299_33 rfl rfl
 (w_iload_n (p' := 35) f_299_34 rfl rfl
 (w_iconst (p' := 36) f_299_35 rfl
 (w_iconst (p' := 37) f_299_36 rfl
 (w_iload_n (p' := 38) f_299_37 rfl rfl
 (w_imul (p' := 39) f_299_38 rfl
 (w_iadd (p' := 40) f_299_39 rfl
 (w_iload_n (p' := 41) f_299_40 rfl rfl
 (w_iadd (p' := 42) f_299_41 rfl
 (w_callV (p' := 45) f_299_42 rfl rfl rfl rfl rfl (r := []) rfl rfl (kI (.inl rk_208) fun r105 s105 h105 =>
 w_goto (p' := 49) f_299_45 rfl
 (w_iret f_299_49 rk_299 h105)) (h104.2 c106)))))))))))) (h103.2 c107)))))) h102))) (h101.2 c108)))))))) h)))
/-! ClosedRoomsModel.copyOf(II)I -/
theorem f_300_0 : fnd 300 0 = some (0, .aload_n 0, 1, 0, 0, 0, 0) := ceB_eq (by decide +kernel)
theorem f_300_1 : fnd 300 1 = some (1, .iload_n 1, 1, 0, 0, 0, 0) := ceB_eq (by decide +kernel)
theorem f_300_2 : fnd 300 2 = some (2, .invokevirtual 301, 3, 229, 2, 10, 0) := ceB_eq (by decide +kernel)
theorem f_300_5 : fnd 300 5 = some (5, .ifCond .eq 12, 3, 0, 0, 0, 0) := ceB_eq (by decide +kernel)
theorem f_300_8 : fnd 300 8 = some (8, .iload_n 2, 1, 0, 0, 0, 0) := ceB_eq (by decide +kernel)
theorem f_300_9 : fnd 300 9 = some (9, .iconst 0, 1, 0, 0, 0, 0) := ceB_eq (by decide +kernel)
theorem f_300_10 : fnd 300 10 = some (10, .iconst 5, 1, 0, 0, 0, 0) := ceB_eq (by decide +kernel)
theorem f_300_11 : fnd 300 11 = some (11, .invokestatic 54, 3, 168, 3, 10, 0) := ceB_eq (by decide +kernel)
theorem f_300_14 : fnd 300 14 = some (14, .ifCond .ne 7, 3, 0, 0, 0, 0) := ceB_eq (by decide +kernel)
theorem f_300_17 : fnd 300 17 = some (17, .ldc_w 452, 3, 0, 0, 0, (-1000000)) := ceB_eq (by decide +kernel)
theorem f_300_20 : fnd 300 20 = some (20, .ireturn, 1, 0, 0, 0, 0) := ceB_eq (by decide +kernel)
theorem f_300_21 : fnd 300 21 = some (21, .iload_n 2, 1, 0, 0, 0, 0) := ceB_eq (by decide +kernel)
theorem f_300_22 : fnd 300 22 = some (22, .iconst 5, 1, 0, 0, 0, 0) := ceB_eq (by decide +kernel)
theorem f_300_23 : fnd 300 23 = some (23, .if_icmp .ne 13, 3, 0, 0, 0, 0) := ceB_eq (by decide +kernel)
theorem f_300_26 : fnd 300 26 = some (26, .aload_n 0, 1, 0, 0, 0, 0) := ceB_eq (by decide +kernel)
theorem f_300_27 : fnd 300 27 = some (27, .iload_n 1, 1, 0, 0, 0, 0) := ceB_eq (by decide +kernel)
theorem f_300_28 : fnd 300 28 = some (28, .bipush 8, 2, 0, 0, 0, 0) := ceB_eq (by decide +kernel)
theorem f_300_30 : fnd 300 30 = some (30, .invokevirtual 215, 3, 226, 3, 10, 0) := ceB_eq (by decide +kernel)
theorem f_300_33 : fnd 300 33 = some (33, .goto 26, 3, 0, 0, 0, 0) := ceB_eq (by decide +kernel)
theorem f_300_36 : fnd 300 36 = some (36, .iload_n 2, 1, 0, 0, 0, 0) := ceB_eq (by decide +kernel)
theorem f_300_37 : fnd 300 37 = some (37, .iconst 4, 1, 0, 0, 0, 0) := ceB_eq (by decide +kernel)
theorem f_300_38 : fnd 300 38 = some (38, .if_icmp .ne 13, 3, 0, 0, 0, 0) := ceB_eq (by decide +kernel)
theorem f_300_41 : fnd 300 41 = some (41, .aload_n 0, 1, 0, 0, 0, 0) := ceB_eq (by decide +kernel)
theorem f_300_42 : fnd 300 42 = some (42, .iload_n 1, 1, 0, 0, 0, 0) := ceB_eq (by decide +kernel)
theorem f_300_43 : fnd 300 43 = some (43, .bipush 7, 2, 0, 0, 0, 0) := ceB_eq (by decide +kernel)
theorem f_300_45 : fnd 300 45 = some (45, .invokevirtual 215, 3, 226, 3, 10, 0) := ceB_eq (by decide +kernel)
theorem f_300_48 : fnd 300 48 = some (48, .goto 11, 3, 0, 0, 0, 0) := ceB_eq (by decide +kernel)
theorem f_300_51 : fnd 300 51 = some (51, .aload_n 0, 1, 0, 0, 0, 0) := ceB_eq (by decide +kernel)
theorem f_300_52 : fnd 300 52 = some (52, .iload_n 1, 1, 0, 0, 0, 0) := ceB_eq (by decide +kernel)
theorem f_300_53 : fnd 300 53 = some (53, .iconst 1, 1, 0, 0, 0, 0) := ceB_eq (by decide +kernel)
theorem f_300_54 : fnd 300 54 = some (54, .iload_n 2, 1, 0, 0, 0, 0) := ceB_eq (by decide +kernel)
theorem f_300_55 : fnd 300 55 = some (55, .iadd, 1, 0, 0, 0, 0) := ceB_eq (by decide +kernel)
theorem f_300_56 : fnd 300 56 = some (56, .invokevirtual 215, 3, 226, 3, 10, 0) := ceB_eq (by decide +kernel)
theorem f_300_59 : fnd 300 59 = some (59, .ireturn, 1, 0, 0, 0, 0) := ceB_eq (by decide +kernel)
theorem rk_300 : rkm 300 = 0 := by decide +kernel
theorem ml_300 : (mth 300).2.1 = 3 := by decide +kernel
set_option maxRecDepth 100000 in
theorem T_Z_copyOf (k0 i0 x1 x2 : Int) (σ : ST) (Q : Option AV → ST → Prop) (h :
  wpM m_Z_isCopy [.inr (.inr (40, k0, i0)), .inl x1] σ (asI fun r101 s101 =>
  (((r101 = 0 : Prop) →
    Q (some (.inl (-1000000))) s101) ∧
  (¬ (r101 = 0) →
    wpM m_Z_in [.inl x2, .inl 0, .inl 5] s101 (asI fun r102 s102 =>
    (((r102 ≠ 0 : Prop) →
      (((x2 ≠ 5 : Prop) →
        (((x2 ≠ 4 : Prop) →
          wpM m_Z_ofCopy [.inr (.inr (40, k0, i0)), .inl x1, .inl (wr (1 + x2))] s102 (asI fun r103 s103 =>
          Q (some (.inl r103)) s103)) ∧
        (¬ (x2 ≠ 4) →
          wpM m_Z_ofCopy [.inr (.inr (40, k0, i0)), .inl x1, .inl 7] s102 (asI fun r104 s104 =>
          Q (some (.inl r104)) s104)))) ∧
      (¬ (x2 ≠ 5) →
        wpM m_Z_ofCopy [.inr (.inr (40, k0, i0)), .inl x1, .inl 8] s102 (asI fun r106 s106 =>
        Q (some (.inl r106)) s106)))) ∧
    (¬ (r102 ≠ 0) →
      Q (some (.inl (-1000000))) s102))))))) :
  wpM m_Z_copyOf [.inr (.inr (40, k0, i0)), .inl x1, .inl x2] σ Q :=
 wpM_of ml_300 (L := [some (.inr (.inr (40, k0, i0))), some (.inl x1), some (.inl x2)]) rfl
 (w_aload_n (p' := 1) f_300_0 rfl rfl
 (w_iload_n (p' := 2) f_300_1 rfl rfl
 (w_callV (p' := 5) f_300_2 rfl rfl rfl rfl rfl (r := []) rfl rfl (kI (.inr rk_229) fun r101 s101 h101 =>
 w_if (p' := 17) (q' := 8) f_300_5 rfl rfl
 (fun c109 => w_ldc_w (p' := 20) f_300_17 rfl
 (w_iret f_300_20 rk_300 (h101.1 c109)))
 (fun c109 => w_iload_n (p' := 9) f_300_8 rfl rfl
 (w_iconst (p' := 10) f_300_9 rfl
 (w_iconst (p' := 11) f_300_10 rfl
 (w_callS (p' := 14) f_300_11 rfl rfl rfl (r := []) rfl rfl (kI (.inr rk_168) fun r102 s102 h102 =>
 w_if (p' := 21) (q' := 17) f_300_14 rfl rfl
 (fun c108 => w_iload_n (p' := 22) f_300_21 rfl rfl
 (w_iconst (p' := 23) f_300_22 rfl
 (w_icmp (p' := 36) (q' := 26) f_300_23 rfl rfl
 (fun c107 => w_iload_n (p' := 37) f_300_36 rfl rfl
 (w_iconst (p' := 38) f_300_37 rfl
 (w_icmp (p' := 51) (q' := 41) f_300_38 rfl rfl
 (fun c105 => w_aload_n (p' := 52) f_300_51 rfl rfl
 (w_iload_n (p' := 53) f_300_52 rfl rfl
 (w_iconst (p' := 54) f_300_53 rfl
 (w_iload_n (p' := 55) f_300_54 rfl rfl
 (w_iadd (p' := 56) f_300_55 rfl
 (w_callV (p' := 59) f_300_56 rfl rfl rfl rfl rfl (r := []) rfl rfl (kI (.inl rk_226) fun r103 s103 h103 =>
 w_iret f_300_59 rk_300 h103) (((h102.1 c108).1 c107).1 c105)))))))
 (fun c105 => w_aload_n (p' := 42) f_300_41 rfl rfl
 (w_iload_n (p' := 43) f_300_42 rfl rfl
 (w_bipush (p' := 45) f_300_43 rfl
 (w_callV (p' := 48) f_300_45 rfl rfl rfl rfl rfl (r := []) rfl rfl (kI (.inl rk_226) fun r104 s104 h104 =>
 w_goto (p' := 59) f_300_48 rfl
 (w_iret f_300_59 rk_300 h104)) (((h102.1 c108).1 c107).2 c105))))))))
 (fun c107 => w_aload_n (p' := 27) f_300_26 rfl rfl
 (w_iload_n (p' := 28) f_300_27 rfl rfl
 (w_bipush (p' := 30) f_300_28 rfl
 (w_callV (p' := 33) f_300_30 rfl rfl rfl rfl rfl (r := []) rfl rfl (kI (.inl rk_226) fun r106 s106 h106 =>
 w_goto (p' := 59) f_300_33 rfl
 (w_iret f_300_59 rk_300 h106)) ((h102.1 c108).2 c107))))))))
 (fun c108 => w_ldc_w (p' := 20) f_300_17 rfl
 (w_iret f_300_20 rk_300 (h102.2 c108)))) (h101.2 c109)))))) h)))
/-! ClosedRoomsModel.reported(III)I -/
theorem f_301_0 : fnd 301 0 = some (0, .bipush 31, 2, 0, 0, 0, 0) := ceB_eq (by decide +kernel)
theorem f_301_2 : fnd 301 2 = some (2, .aload_n 0, 1, 0, 0, 0, 0) := ceB_eq (by decide +kernel)
theorem f_301_3 : fnd 301 3 = some (3, .getfield 16, 3, 10, 10, 10, 0) := ceB_eq (by decide +kernel)
theorem f_301_6 : fnd 301 6 = some (6, .iconst 3, 1, 0, 0, 0, 0) := ceB_eq (by decide +kernel)
theorem f_301_7 : fnd 301 7 = some (7, .iaload, 1, 0, 0, 0, 0) := ceB_eq (by decide +kernel)
theorem f_301_8 : fnd 301 8 = some (8, .imul, 1, 0, 0, 0, 0) := ceB_eq (by decide +kernel)
theorem f_301_9 : fnd 301 9 = some (9, .aload_n 0, 1, 0, 0, 0, 0) := ceB_eq (by decide +kernel)
theorem f_301_10 : fnd 301 10 = some (10, .iload_n 1, 1, 0, 0, 0, 0) := ceB_eq (by decide +kernel)
theorem f_301_11 : fnd 301 11 = some (11, .iconst 4, 1, 0, 0, 0, 0) := ceB_eq (by decide +kernel)
theorem f_301_12 : fnd 301 12 = some (12, .invokevirtual 209, 3, 198, 3, 10, 0) := ceB_eq (by decide +kernel)
theorem f_301_15 : fnd 301 15 = some (15, .iadd, 1, 0, 0, 0, 0) := ceB_eq (by decide +kernel)
theorem f_301_16 : fnd 301 16 = some (16, .istore 4, 2, 0, 0, 0, 0) := ceB_eq (by decide +kernel)
theorem f_301_18 : fnd 301 18 = some (18, .bipush 31, 2, 0, 0, 0, 0) := ceB_eq (by decide +kernel)
theorem f_301_20 : fnd 301 20 = some (20, .iload 4, 2, 0, 0, 0, 0) := ceB_eq (by decide +kernel)
theorem f_301_22 : fnd 301 22 = some (22, .imul, 1, 0, 0, 0, 0) := ceB_eq (by decide +kernel)
theorem f_301_23 : fnd 301 23 = some (23, .aload_n 0, 1, 0, 0, 0, 0) := ceB_eq (by decide +kernel)
theorem f_301_24 : fnd 301 24 = some (24, .iload_n 2, 1, 0, 0, 0, 0) := ceB_eq (by decide +kernel)
theorem f_301_25 : fnd 301 25 = some (25, .iconst 4, 1, 0, 0, 0, 0) := ceB_eq (by decide +kernel)
theorem f_301_26 : fnd 301 26 = some (26, .invokevirtual 209, 3, 198, 3, 10, 0) := ceB_eq (by decide +kernel)
theorem f_301_29 : fnd 301 29 = some (29, .iadd, 1, 0, 0, 0, 0) := ceB_eq (by decide +kernel)
theorem f_301_30 : fnd 301 30 = some (30, .istore 4, 2, 0, 0, 0, 0) := ceB_eq (by decide +kernel)
theorem f_301_32 : fnd 301 32 = some (32, .bipush 31, 2, 0, 0, 0, 0) := ceB_eq (by decide +kernel)
theorem f_301_34 : fnd 301 34 = some (34, .iload 4, 2, 0, 0, 0, 0) := ceB_eq (by decide +kernel)
theorem f_301_36 : fnd 301 36 = some (36, .imul, 1, 0, 0, 0, 0) := ceB_eq (by decide +kernel)
theorem f_301_37 : fnd 301 37 = some (37, .iload_n 3, 1, 0, 0, 0, 0) := ceB_eq (by decide +kernel)
theorem f_301_38 : fnd 301 38 = some (38, .iadd, 1, 0, 0, 0, 0) := ceB_eq (by decide +kernel)
theorem f_301_39 : fnd 301 39 = some (39, .ireturn, 1, 0, 0, 0, 0) := ceB_eq (by decide +kernel)
theorem rk_301 : rkm 301 = 0 := by decide +kernel
theorem ml_301 : (mth 301).2.1 = 5 := by decide +kernel
set_option maxRecDepth 100000 in
theorem T_Z_reported (k0 i0 x1 x2 x3 : Int) (σ : ST) (Q : Option AV → ST → Prop) (h :
  ((0 : Int) ≤ 3 ∧ (3 : Int) < 4) ∧
  wpM m_Z_ofRoom [.inr (.inr (40, k0, i0)), .inl x1, .inl 4] σ (asI fun r101 s101 =>
  wpM m_Z_ofRoom [.inr (.inr (40, k0, i0)), .inl x2, .inl 4] s101 (asI fun r102 s102 =>
  Q (some (.inl (wr ((wr (31 * (wr ((wr (31 * (wr ((wr (31 * (σ 43 0 0 3))) + r101)))) + r102)))) + x3)))) s102))) :
  wpM m_Z_reported [.inr (.inr (40, k0, i0)), .inl x1, .inl x2, .inl x3] σ Q :=
 wpM_of ml_301 (L := [some (.inr (.inr (40, k0, i0))), some (.inl x1), some (.inl x2), some (.inl x3), none]) rfl
 (w_bipush (p' := 2) f_301_0 rfl
 (w_aload_n (p' := 3) f_301_2 rfl rfl
 (w_getfield (p' := 6) f_301_3 rfl (x := .inr (.inr (43, 0, 0))) rfl rfl
 (w_iconst (p' := 7) f_301_6 rfl
 (w_iaload (p' := 8) f_301_7 rfl (n := 4) rfl h.1 rfl
 (w_imul (p' := 9) f_301_8 rfl
 (w_aload_n (p' := 10) f_301_9 rfl rfl
 (w_iload_n (p' := 11) f_301_10 rfl rfl
 (w_iconst (p' := 12) f_301_11 rfl
 (w_callV (p' := 15) f_301_12 rfl rfl rfl rfl rfl (r := [.inl (wr (31 * (σ 43 0 0 3)))]) rfl rfl (kI (.inl rk_198) fun r101 s101 h101 =>
 w_iadd (p' := 16) f_301_15 rfl
 (w_istore (p' := 18) f_301_16 (L' := [some (.inr (.inr (40, k0, i0))), some (.inl x1), some (.inl x2), some (.inl x3), some (.inl (wr ((wr (31 * (σ 43 0 0 3))) + r101)))]) rfl rfl
 (w_bipush (p' := 20) f_301_18 rfl
 (w_iload (p' := 22) f_301_20 rfl rfl
 (w_imul (p' := 23) f_301_22 rfl
 (w_aload_n (p' := 24) f_301_23 rfl rfl
 (w_iload_n (p' := 25) f_301_24 rfl rfl
 (w_iconst (p' := 26) f_301_25 rfl
 (w_callV (p' := 29) f_301_26 rfl rfl rfl rfl rfl (r := [.inl (wr (31 * (wr ((wr (31 * (σ 43 0 0 3))) + r101))))]) rfl rfl (kI (.inl rk_198) fun r102 s102 h102 =>
 w_iadd (p' := 30) f_301_29 rfl
 (w_istore (p' := 32) f_301_30 (L' := [some (.inr (.inr (40, k0, i0))), some (.inl x1), some (.inl x2), some (.inl x3), some (.inl (wr ((wr (31 * (wr ((wr (31 * (σ 43 0 0 3))) + r101)))) + r102)))]) rfl rfl
 (w_bipush (p' := 34) f_301_32 rfl
 (w_iload (p' := 36) f_301_34 rfl rfl
 (w_imul (p' := 37) f_301_36 rfl
 (w_iload_n (p' := 38) f_301_37 rfl rfl
 (w_iadd (p' := 39) f_301_38 rfl
 (w_iret f_301_39 rk_301 h102)))))))) h101))))))))) h.2))))))))))
/-! ClosedRoomsModel.report(II)I -/
theorem f_302_0 : fnd 302 0 = some (0, .aload_n 0, 1, 0, 0, 0, 0) := ceB_eq (by decide +kernel)
theorem f_302_1 : fnd 302 1 = some (1, .iload_n 1, 1, 0, 0, 0, 0) := ceB_eq (by decide +kernel)
theorem f_302_2 : fnd 302 2 = some (2, .invokevirtual 261, 3, 207, 2, 10, 0) := ceB_eq (by decide +kernel)
theorem f_302_5 : fnd 302 5 = some (5, .ifCond .eq 19, 3, 0, 0, 0, 0) := ceB_eq (by decide +kernel)
theorem f_302_8 : fnd 302 8 = some (8, .aload_n 0, 1, 0, 0, 0, 0) := ceB_eq (by decide +kernel)
theorem f_302_9 : fnd 302 9 = some (9, .iload_n 2, 1, 0, 0, 0, 0) := ceB_eq (by decide +kernel)
theorem f_302_10 : fnd 302 10 = some (10, .invokevirtual 252, 3, 201, 2, 10, 0) := ceB_eq (by decide +kernel)
theorem f_302_13 : fnd 302 13 = some (13, .ifCond .eq 11, 3, 0, 0, 0, 0) := ceB_eq (by decide +kernel)
theorem f_302_16 : fnd 302 16 = some (16, .aload_n 0, 1, 0, 0, 0, 0) := ceB_eq (by decide +kernel)
theorem f_302_17 : fnd 302 17 = some (17, .iload_n 1, 1, 0, 0, 0, 0) := ceB_eq (by decide +kernel)
theorem f_302_18 : fnd 302 18 = some (18, .invokevirtual 264, 3, 209, 2, 10, 0) := ceB_eq (by decide +kernel)
theorem f_302_21 : fnd 302 21 = some (21, .ifCond .ne 7, 3, 0, 0, 0, 0) := ceB_eq (by decide +kernel)
theorem f_302_24 : fnd 302 24 = some (24, .ldc_w 452, 3, 0, 0, 0, (-1000000)) := ceB_eq (by decide +kernel)
theorem f_302_27 : fnd 302 27 = some (27, .ireturn, 1, 0, 0, 0, 0) := ceB_eq (by decide +kernel)
theorem f_302_28 : fnd 302 28 = some (28, .aload_n 0, 1, 0, 0, 0, 0) := ceB_eq (by decide +kernel)
theorem f_302_29 : fnd 302 29 = some (29, .aload_n 0, 1, 0, 0, 0, 0) := ceB_eq (by decide +kernel)
theorem f_302_30 : fnd 302 30 = some (30, .iload_n 1, 1, 0, 0, 0, 0) := ceB_eq (by decide +kernel)
theorem f_302_31 : fnd 302 31 = some (31, .iconst 1, 1, 0, 0, 0, 0) := ceB_eq (by decide +kernel)
theorem f_302_32 : fnd 302 32 = some (32, .invokevirtual 212, 3, 208, 3, 10, 0) := ceB_eq (by decide +kernel)
theorem f_302_35 : fnd 302 35 = some (35, .iload_n 2, 1, 0, 0, 0, 0) := ceB_eq (by decide +kernel)
theorem f_302_36 : fnd 302 36 = some (36, .aload_n 0, 1, 0, 0, 0, 0) := ceB_eq (by decide +kernel)
theorem f_302_37 : fnd 302 37 = some (37, .iload_n 1, 1, 0, 0, 0, 0) := ceB_eq (by decide +kernel)
theorem f_302_38 : fnd 302 38 = some (38, .iconst 0, 1, 0, 0, 0, 0) := ceB_eq (by decide +kernel)
theorem f_302_39 : fnd 302 39 = some (39, .invokevirtual 212, 3, 208, 3, 10, 0) := ceB_eq (by decide +kernel)
theorem f_302_42 : fnd 302 42 = some (42, .invokevirtual 456, 3, 301, 4, 10, 0) := ceB_eq (by decide +kernel)
theorem f_302_45 : fnd 302 45 = some (45, .ireturn, 1, 0, 0, 0, 0) := ceB_eq (by decide +kernel)
theorem rk_302 : rkm 302 = 0 := by decide +kernel
theorem ml_302 : (mth 302).2.1 = 3 := by decide +kernel
set_option maxRecDepth 100000 in
theorem T_Z_report (k0 i0 x1 x2 : Int) (σ : ST) (Q : Option AV → ST → Prop) (h :
  wpM m_Z_isCore [.inr (.inr (40, k0, i0)), .inl x1] σ (asI fun r101 s101 =>
  (((r101 = 0 : Prop) →
    Q (some (.inl (-1000000))) s101) ∧
  (¬ (r101 = 0) →
    wpM m_Z_isRoom [.inr (.inr (40, k0, i0)), .inl x2] s101 (asI fun r102 s102 =>
    (((r102 = 0 : Prop) →
      Q (some (.inl (-1000000))) s102) ∧
    (¬ (r102 = 0) →
      wpM m_Z_isInside [.inr (.inr (40, k0, i0)), .inl x1] s102 (asI fun r103 s103 =>
      (((r103 ≠ 0 : Prop) →
        wpM m_Z_ofCore [.inr (.inr (40, k0, i0)), .inl x1, .inl 1] s103 (asI fun r104 s104 =>
        wpM m_Z_ofCore [.inr (.inr (40, k0, i0)), .inl x1, .inl 0] s104 (asI fun r105 s105 =>
        wpM m_Z_reported [.inr (.inr (40, k0, i0)), .inl r104, .inl x2, .inl r105] s105 (asI fun r106 s106 =>
        Q (some (.inl r106)) s106)))) ∧
      (¬ (r103 ≠ 0) →
        Q (some (.inl (-1000000))) s103)))))))))) :
  wpM m_Z_report [.inr (.inr (40, k0, i0)), .inl x1, .inl x2] σ Q :=
 wpM_of ml_302 (L := [some (.inr (.inr (40, k0, i0))), some (.inl x1), some (.inl x2)]) rfl
 (w_aload_n (p' := 1) f_302_0 rfl rfl
 (w_iload_n (p' := 2) f_302_1 rfl rfl
 (w_callV (p' := 5) f_302_2 rfl rfl rfl rfl rfl (r := []) rfl rfl (kI (.inr rk_207) fun r101 s101 h101 =>
 w_if (p' := 24) (q' := 8) f_302_5 rfl rfl
 (fun c109 => w_ldc_w (p' := 27) f_302_24 rfl
 (w_iret f_302_27 rk_302 (h101.1 c109)))
 (fun c109 => w_aload_n (p' := 9) f_302_8 rfl rfl
 (w_iload_n (p' := 10) f_302_9 rfl rfl
 (w_callV (p' := 13) f_302_10 rfl rfl rfl rfl rfl (r := []) rfl rfl (kI (.inr rk_201) fun r102 s102 h102 =>
 w_if (p' := 24) (q' := 16) f_302_13 rfl rfl
 (fun c108 => w_ldc_w (p' := 27) f_302_24 rfl
 (w_iret f_302_27 rk_302 (h102.1 c108)))
 (fun c108 => w_aload_n (p' := 17) f_302_16 rfl rfl
 (w_iload_n (p' := 18) f_302_17 rfl rfl
 (w_callV (p' := 21) f_302_18 rfl rfl rfl rfl rfl (r := []) rfl rfl (kI (.inr rk_209) fun r103 s103 h103 =>
 w_if (p' := 28) (q' := 24) f_302_21 rfl rfl
 (fun c107 => w_aload_n (p' := 29) f_302_28 rfl rfl
 (w_aload_n (p' := 30) f_302_29 rfl rfl
 (w_iload_n (p' := 31) f_302_30 rfl rfl
 (w_iconst (p' := 32) f_302_31 rfl
 (w_callV (p' := 35) f_302_32 rfl rfl rfl rfl rfl (r := [.inr (.inr (40, k0, i0))]) rfl rfl (kI (.inl rk_208) fun r104 s104 h104 =>
 w_iload_n (p' := 36) f_302_35 rfl rfl
 (w_aload_n (p' := 37) f_302_36 rfl rfl
 (w_iload_n (p' := 38) f_302_37 rfl rfl
 (w_iconst (p' := 39) f_302_38 rfl
 (w_callV (p' := 42) f_302_39 rfl rfl rfl rfl rfl (r := [.inl x2, .inl r104, .inr (.inr (40, k0, i0))]) rfl rfl (kI (.inl rk_208) fun r105 s105 h105 =>
 w_callV (p' := 45) f_302_42 rfl rfl rfl rfl rfl (r := []) rfl rfl (kI (.inl rk_301) fun r106 s106 h106 =>
 w_iret f_302_45 rk_302 h106) h105) h104))))) (h103.1 c107))))))
 (fun c107 => w_ldc_w (p' := 27) f_302_24 rfl
 (w_iret f_302_27 rk_302 (h103.2 c107)))) (h102.2 c108))))) (h101.2 c109))))) h)))
/-! ClosedRoomsModel.proves(IIII)Z -/
theorem f_303_0 : fnd 303 0 = some (0, .aload_n 0, 1, 0, 0, 0, 0) := ceB_eq (by decide +kernel)
theorem f_303_1 : fnd 303 1 = some (1, .iload_n 1, 1, 0, 0, 0, 0) := ceB_eq (by decide +kernel)
theorem f_303_2 : fnd 303 2 = some (2, .invokevirtual 261, 3, 207, 2, 10, 0) := ceB_eq (by decide +kernel)
theorem f_303_5 : fnd 303 5 = some (5, .ifCond .eq 40, 3, 0, 0, 0, 0) := ceB_eq (by decide +kernel)
theorem f_303_8 : fnd 303 8 = some (8, .aload_n 0, 1, 0, 0, 0, 0) := ceB_eq (by decide +kernel)
theorem f_303_9 : fnd 303 9 = some (9, .iload_n 2, 1, 0, 0, 0, 0) := ceB_eq (by decide +kernel)
theorem f_303_10 : fnd 303 10 = some (10, .invokevirtual 252, 3, 201, 2, 10, 0) := ceB_eq (by decide +kernel)
theorem f_303_13 : fnd 303 13 = some (13, .ifCond .eq 32, 3, 0, 0, 0, 0) := ceB_eq (by decide +kernel)
theorem f_303_16 : fnd 303 16 = some (16, .aload_n 0, 1, 0, 0, 0, 0) := ceB_eq (by decide +kernel)
theorem f_303_17 : fnd 303 17 = some (17, .iload_n 1, 1, 0, 0, 0, 0) := ceB_eq (by decide +kernel)
theorem f_303_18 : fnd 303 18 = some (18, .invokevirtual 264, 3, 209, 2, 10, 0) := ceB_eq (by decide +kernel)
theorem f_303_21 : fnd 303 21 = some (21, .ifCond .eq 24, 3, 0, 0, 0, 0) := ceB_eq (by decide +kernel)
theorem f_303_24 : fnd 303 24 = some (24, .iload 4, 2, 0, 0, 0, 0) := ceB_eq (by decide +kernel)
theorem f_303_26 : fnd 303 26 = some (26, .aload_n 0, 1, 0, 0, 0, 0) := ceB_eq (by decide +kernel)
theorem f_303_27 : fnd 303 27 = some (27, .iload_n 2, 1, 0, 0, 0, 0) := ceB_eq (by decide +kernel)
theorem f_303_28 : fnd 303 28 = some (28, .aload_n 0, 1, 0, 0, 0, 0) := ceB_eq (by decide +kernel)
theorem f_303_29 : fnd 303 29 = some (29, .iload_n 1, 1, 0, 0, 0, 0) := ceB_eq (by decide +kernel)
theorem f_303_30 : fnd 303 30 = some (30, .iconst 1, 1, 0, 0, 0, 0) := ceB_eq (by decide +kernel)
theorem f_303_31 : fnd 303 31 = some (31, .invokevirtual 212, 3, 208, 3, 10, 0) := ceB_eq (by decide +kernel)
theorem f_303_34 : fnd 303 34 = some (34, .iload_n 3, 1, 0, 0, 0, 0) := ceB_eq (by decide +kernel)
theorem f_303_35 : fnd 303 35 = some (35, .invokevirtual 456, 3, 301, 4, 10, 0) := ceB_eq (by decide +kernel)
theorem f_303_38 : fnd 303 38 = some (38, .if_icmp .ne 7, 3, 0, 0, 0, 0) := ceB_eq (by decide +kernel)
theorem f_303_41 : fnd 303 41 = some (41, .iconst 1, 1, 0, 0, 0, 0) := ceB_eq (by decide +kernel)
theorem f_303_42 : fnd 303 42 = some (42, .goto 4, 3, 0, 0, 0, 0) := ceB_eq (by decide +kernel)
theorem f_303_45 : fnd 303 45 = some (45, .iconst 0, 1, 0, 0, 0, 0) := ceB_eq (by decide +kernel)
theorem f_303_46 : fnd 303 46 = some (46, .ireturn, 1, 0, 0, 0, 0) := ceB_eq (by decide +kernel)
theorem rk_303 : rkm 303 = 1 := by decide +kernel
theorem ml_303 : (mth 303).2.1 = 5 := by decide +kernel
set_option maxRecDepth 100000 in
theorem T_Z_proves (k0 i0 x1 x2 x3 x4 : Int) (σ : ST) (Q : Option AV → ST → Prop) (h :
  wpM m_Z_isCore [.inr (.inr (40, k0, i0)), .inl x1] σ (asI fun r101 s101 =>
  (((r101 = 0 : Prop) →
    ((0 : Int) = 0 ∨ (0 : Int) = 1) ∧ Q (some (.inl 0)) s101) ∧
  (¬ (r101 = 0) →
    wpM m_Z_isRoom [.inr (.inr (40, k0, i0)), .inl x2] s101 (asI fun r102 s102 =>
    (((r102 = 0 : Prop) →
      ((0 : Int) = 0 ∨ (0 : Int) = 1) ∧ Q (some (.inl 0)) s102) ∧
    (¬ (r102 = 0) →
      wpM m_Z_isInside [.inr (.inr (40, k0, i0)), .inl x1] s102 (asI fun r103 s103 =>
      (((r103 = 0 : Prop) →
        ((0 : Int) = 0 ∨ (0 : Int) = 1) ∧ Q (some (.inl 0)) s103) ∧
      (¬ (r103 = 0) →
        wpM m_Z_ofCore [.inr (.inr (40, k0, i0)), .inl x1, .inl 1] s103 (asI fun r104 s104 =>
        wpM m_Z_reported [.inr (.inr (40, k0, i0)), .inl x2, .inl r104, .inl x3] s104 (asI fun r105 s105 =>
        (((x4 ≠ r105 : Prop) →
          ((0 : Int) = 0 ∨ (0 : Int) = 1) ∧ Q (some (.inl 0)) s105) ∧
        (¬ (x4 ≠ r105) →
          ((1 : Int) = 0 ∨ (1 : Int) = 1) ∧ Q (some (.inl 1)) s105)))))))))))))) :
  wpM m_Z_proves [.inr (.inr (40, k0, i0)), .inl x1, .inl x2, .inl x3, .inl x4] σ Q :=
 wpM_of ml_303 (L := [some (.inr (.inr (40, k0, i0))), some (.inl x1), some (.inl x2), some (.inl x3), some (.inl x4)]) rfl
 (w_aload_n (p' := 1) f_303_0 rfl rfl
 (w_iload_n (p' := 2) f_303_1 rfl rfl
 (w_callV (p' := 5) f_303_2 rfl rfl rfl rfl rfl (r := []) rfl rfl (kI (.inr rk_207) fun r101 s101 h101 =>
 w_if (p' := 45) (q' := 8) f_303_5 rfl rfl
 (fun c109 => w_iconst (p' := 46) f_303_45 rfl
 (w_zret f_303_46 rk_303 (h101.1 c109).1 (h101.1 c109).2))
 (fun c109 => w_aload_n (p' := 9) f_303_8 rfl rfl
 (w_iload_n (p' := 10) f_303_9 rfl rfl
 (w_callV (p' := 13) f_303_10 rfl rfl rfl rfl rfl (r := []) rfl rfl (kI (.inr rk_201) fun r102 s102 h102 =>
 w_if (p' := 45) (q' := 16) f_303_13 rfl rfl
 (fun c108 => w_iconst (p' := 46) f_303_45 rfl
 (w_zret f_303_46 rk_303 (h102.1 c108).1 (h102.1 c108).2))
 (fun c108 => w_aload_n (p' := 17) f_303_16 rfl rfl
 (w_iload_n (p' := 18) f_303_17 rfl rfl
 (w_callV (p' := 21) f_303_18 rfl rfl rfl rfl rfl (r := []) rfl rfl (kI (.inr rk_209) fun r103 s103 h103 =>
 w_if (p' := 45) (q' := 24) f_303_21 rfl rfl
 (fun c107 => w_iconst (p' := 46) f_303_45 rfl
 (w_zret f_303_46 rk_303 (h103.1 c107).1 (h103.1 c107).2))
 (fun c107 => w_iload (p' := 26) f_303_24 rfl rfl
 (w_aload_n (p' := 27) f_303_26 rfl rfl
 (w_iload_n (p' := 28) f_303_27 rfl rfl
 (w_aload_n (p' := 29) f_303_28 rfl rfl
 (w_iload_n (p' := 30) f_303_29 rfl rfl
 (w_iconst (p' := 31) f_303_30 rfl
 (w_callV (p' := 34) f_303_31 rfl rfl rfl rfl rfl (r := [.inl x2, .inr (.inr (40, k0, i0)), .inl x4]) rfl rfl (kI (.inl rk_208) fun r104 s104 h104 =>
 w_iload_n (p' := 35) f_303_34 rfl rfl
 (w_callV (p' := 38) f_303_35 rfl rfl rfl rfl rfl (r := [.inl x4]) rfl rfl (kI (.inl rk_301) fun r105 s105 h105 =>
 w_icmp (p' := 45) (q' := 41) f_303_38 rfl rfl
 (fun c106 => w_iconst (p' := 46) f_303_45 rfl
 (w_zret f_303_46 rk_303 (h105.1 c106).1 (h105.1 c106).2))
 (fun c106 => w_iconst (p' := 42) f_303_41 rfl
 (w_goto (p' := 46) f_303_42 rfl
 (w_zret f_303_46 rk_303 (h105.2 c106).1 (h105.2 c106).2)))) h104)) (h103.2 c107))))))))) (h102.2 c108))))) (h101.2 c109))))) h)))
/-! ClosedRoomsModel.isInSlots(I)Z -/
theorem f_304_0 : fnd 304 0 = some (0, .iconst 0, 1, 0, 0, 0, 0) := ceB_eq (by decide +kernel)
theorem f_304_1 : fnd 304 1 = some (1, .istore_n 2, 1, 0, 0, 0, 0) := ceB_eq (by decide +kernel)
theorem f_304_2 : fnd 304 2 = some (2, .iconst 0, 1, 0, 0, 0, 0) := ceB_eq (by decide +kernel)
theorem f_304_3 : fnd 304 3 = some (3, .istore_n 3, 1, 0, 0, 0, 0) := ceB_eq (by decide +kernel)
theorem f_304_4 : fnd 304 4 = some (4, .iload_n 3, 1, 0, 0, 0, 0) := ceB_eq (by decide +kernel)
theorem f_304_5 : fnd 304 5 = some (5, .aload_n 0, 1, 0, 0, 0, 0) := ceB_eq (by decide +kernel)
theorem f_304_6 : fnd 304 6 = some (6, .getfield 16, 3, 10, 10, 10, 0) := ceB_eq (by decide +kernel)
theorem f_304_9 : fnd 304 9 = some (9, .iconst 0, 1, 0, 0, 0, 0) := ceB_eq (by decide +kernel)
theorem f_304_10 : fnd 304 10 = some (10, .iaload, 1, 0, 0, 0, 0) := ceB_eq (by decide +kernel)
theorem f_304_11 : fnd 304 11 = some (11, .if_icmp .ge 58, 3, 0, 0, 0, 0) := ceB_eq (by decide +kernel)
theorem f_304_14 : fnd 304 14 = some (14, .iconst 0, 1, 0, 0, 0, 0) := ceB_eq (by decide +kernel)
theorem f_304_15 : fnd 304 15 = some (15, .istore 4, 2, 0, 0, 0, 0) := ceB_eq (by decide +kernel)
theorem f_304_17 : fnd 304 17 = some (17, .iload 4, 2, 0, 0, 0, 0) := ceB_eq (by decide +kernel)
theorem f_304_19 : fnd 304 19 = some (19, .iconst 4, 1, 0, 0, 0, 0) := ceB_eq (by decide +kernel)
theorem f_304_20 : fnd 304 20 = some (20, .if_icmp .ge 43, 3, 0, 0, 0, 0) := ceB_eq (by decide +kernel)
theorem f_304_23 : fnd 304 23 = some (23, .aload_n 0, 1, 0, 0, 0, 0) := ceB_eq (by decide +kernel)
theorem f_304_24 : fnd 304 24 = some (24, .iload_n 3, 1, 0, 0, 0, 0) := ceB_eq (by decide +kernel)
theorem f_304_25 : fnd 304 25 = some (25, .iconst 0, 1, 0, 0, 0, 0) := ceB_eq (by decide +kernel)
theorem f_304_26 : fnd 304 26 = some (26, .invokevirtual 206, 3, 196, 3, 10, 0) := ceB_eq (by decide +kernel)
theorem f_304_29 : fnd 304 29 = some (29, .iconst 4, 1, 0, 0, 0, 0) := ceB_eq (by decide +kernel)
theorem f_304_30 : fnd 304 30 = some (30, .if_icmp .ne 33, 3, 0, 0, 0, 0) := ceB_eq (by decide +kernel)
theorem f_304_33 : fnd 304 33 = some (33, .iload_n 2, 1, 0, 0, 0, 0) := ceB_eq (by decide +kernel)
theorem f_304_34 : fnd 304 34 = some (34, .ifCond .ne 17, 3, 0, 0, 0, 0) := ceB_eq (by decide +kernel)
theorem f_304_37 : fnd 304 37 = some (37, .aload_n 0, 1, 0, 0, 0, 0) := ceB_eq (by decide +kernel)
theorem f_304_38 : fnd 304 38 = some (38, .iload_n 3, 1, 0, 0, 0, 0) := ceB_eq (by decide +kernel)
theorem f_304_39 : fnd 304 39 = some (39, .bipush 7, 2, 0, 0, 0, 0) := ceB_eq (by decide +kernel)
theorem f_304_41 : fnd 304 41 = some (41, .iload 4, 2, 0, 0, 0, 0) := ceB_eq (by decide +kernel)
theorem f_304_43 : fnd 304 43 = some (43, .iadd, 1, 0, 0, 0, 0) := ceB_eq (by decide +kernel)
theorem f_304_44 : fnd 304 44 = some (44, .invokevirtual 206, 3, 196, 3, 10, 0) := ceB_eq (by decide +kernel)
theorem f_304_47 : fnd 304 47 = some (47, .iload_n 1, 1, 0, 0, 0, 0) := ceB_eq (by decide +kernel)
theorem f_304_48 : fnd 304 48 = some (48, .if_icmp .ne 7, 3, 0, 0, 0, 0) := ceB_eq (by decide +kernel)
theorem f_304_51 : fnd 304 51 = some (51, .iconst 1, 1, 0, 0, 0, 0) := ceB_eq (by decide +kernel)
theorem f_304_52 : fnd 304 52 = some (52, .goto 4, 3, 0, 0, 0, 0) := ceB_eq (by decide +kernel)
theorem f_304_55 : fnd 304 55 = some (55, .iconst 0, 1, 0, 0, 0, 0) := ceB_eq (by decide +kernel)
theorem f_304_56 : fnd 304 56 = some (56, .istore_n 2, 1, 0, 0, 0, 0) := ceB_eq (by decide +kernel)
theorem f_304_57 : fnd 304 57 = some (57, .iinc 4 1, 3, 0, 0, 0, 0) := ceB_eq (by decide +kernel)
theorem f_304_60 : fnd 304 60 = some (60, .goto (-43), 3, 0, 0, 0, 0) := ceB_eq (by decide +kernel)
theorem f_304_63 : fnd 304 63 = some (63, .iinc 3 1, 3, 0, 0, 0, 0) := ceB_eq (by decide +kernel)
theorem f_304_66 : fnd 304 66 = some (66, .goto (-62), 3, 0, 0, 0, 0) := ceB_eq (by decide +kernel)
theorem f_304_69 : fnd 304 69 = some (69, .iload_n 2, 1, 0, 0, 0, 0) := ceB_eq (by decide +kernel)
theorem f_304_70 : fnd 304 70 = some (70, .ireturn, 1, 0, 0, 0, 0) := ceB_eq (by decide +kernel)
theorem rk_304 : rkm 304 = 1 := by decide +kernel
theorem ml_304 : (mth 304).2.1 = 5 := by decide +kernel
set_option maxRecDepth 100000 in
theorem T_Z_isInSlots (k0 i0 x1 : Int) (σ : ST) (Q : Option AV → ST → Prop) (h :
  wp m_Z_isInSlots (4, [some (.inr (.inr (40, k0, i0))), some (.inl x1), some (.inl 0), some (.inl 0), none], [], σ) Q) :
  wpM m_Z_isInSlots [.inr (.inr (40, k0, i0)), .inl x1] σ Q :=
 wpM_of ml_304 (L := [some (.inr (.inr (40, k0, i0))), some (.inl x1), none, none, none]) rfl
 (w_iconst (p' := 1) f_304_0 rfl
 (w_istore_n (p' := 2) f_304_1 (L' := [some (.inr (.inr (40, k0, i0))), some (.inl x1), some (.inl 0), none, none]) rfl rfl
 (w_iconst (p' := 3) f_304_2 rfl
 (w_istore_n (p' := 4) f_304_3 (L' := [some (.inr (.inr (40, k0, i0))), some (.inl x1), some (.inl 0), some (.inl 0), none]) rfl rfl
 (h)))))
set_option maxRecDepth 100000 in
theorem T_Z_isInSlots_4 (k0 i0 x1 x2 x3 : Int) (o4 : Option AV) (σ : ST) (Q : Option AV → ST → Prop) (h :
  ((0 : Int) ≤ 0 ∧ (0 : Int) < 4) ∧
  ((((σ 43 0 0 0) ≤ x3 : Prop) →
    ((x2 : Int) = 0 ∨ (x2 : Int) = 1) ∧ Q (some (.inl x2)) σ) ∧
  (¬ ((σ 43 0 0 0) ≤ x3) →
    wp m_Z_isInSlots (17, [some (.inr (.inr (40, k0, i0))), some (.inl x1), some (.inl x2), some (.inl x3), some (.inl 0)], [], σ) Q))) :
  wp m_Z_isInSlots (4, [some (.inr (.inr (40, k0, i0))), some (.inl x1), some (.inl x2), some (.inl x3), o4], [], σ) Q :=
 w_iload_n (p' := 5) f_304_4 rfl rfl
 (w_aload_n (p' := 6) f_304_5 rfl rfl
 (w_getfield (p' := 9) f_304_6 rfl (x := .inr (.inr (43, 0, 0))) rfl rfl
 (w_iconst (p' := 10) f_304_9 rfl
 (w_iaload (p' := 11) f_304_10 rfl (n := 4) rfl h.1 rfl
 (w_icmp (p' := 69) (q' := 14) f_304_11 rfl rfl
 (fun c101 => w_iload_n (p' := 70) f_304_69 rfl rfl
 (w_zret f_304_70 rk_304 (h.2.1 c101).1 (h.2.1 c101).2))
 (fun c101 => w_iconst (p' := 15) f_304_14 rfl
 (w_istore (p' := 17) f_304_15 (L' := [some (.inr (.inr (40, k0, i0))), some (.inl x1), some (.inl x2), some (.inl x3), some (.inl 0)]) rfl rfl
 ((h.2.2 c101)))))))))
set_option maxRecDepth 100000 in
theorem T_Z_isInSlots_17 (k0 i0 x1 x2 x3 x4 : Int) (σ : ST) (Q : Option AV → ST → Prop) (h :
  (((4 ≤ x4 : Prop) →
    wp m_Z_isInSlots (4, [some (.inr (.inr (40, k0, i0))), some (.inl x1), some (.inl x2), some (.inl (wr (x3 + 1))), some (.inl x4)], [], σ) Q) ∧
  (¬ (4 ≤ x4) →
    wpM m_Z_ofPage [.inr (.inr (40, k0, i0)), .inl x3, .inl 0] σ (asI fun r101 s101 =>
    (((r101 ≠ 4 : Prop) →
      wp m_Z_isInSlots (4, [some (.inr (.inr (40, k0, i0))), some (.inl x1), some (.inl x2), some (.inl (wr (x3 + 1))), some (.inl x4)], [], s101) Q) ∧
    (¬ (r101 ≠ 4) →
      (((x2 ≠ 0 : Prop) →
        wp m_Z_isInSlots (17, [some (.inr (.inr (40, k0, i0))), some (.inl x1), some (.inl 1), some (.inl x3), some (.inl (wr (x4 + 1)))], [], s101) Q) ∧
      (¬ (x2 ≠ 0) →
        wpM m_Z_ofPage [.inr (.inr (40, k0, i0)), .inl x3, .inl (wr (7 + x4))] s101 (asI fun r102 s102 =>
        (((r102 ≠ x1 : Prop) →
          wp m_Z_isInSlots (17, [some (.inr (.inr (40, k0, i0))), some (.inl x1), some (.inl 0), some (.inl x3), some (.inl (wr (x4 + 1)))], [], s102) Q) ∧
        (¬ (r102 ≠ x1) →
          wp m_Z_isInSlots (17, [some (.inr (.inr (40, k0, i0))), some (.inl x1), some (.inl 1), some (.inl x3), some (.inl (wr (x4 + 1)))], [], s102) Q))))))))))) :
  wp m_Z_isInSlots (17, [some (.inr (.inr (40, k0, i0))), some (.inl x1), some (.inl x2), some (.inl x3), some (.inl x4)], [], σ) Q :=
 w_iload (p' := 19) f_304_17 rfl rfl
 (w_iconst (p' := 20) f_304_19 rfl
 (w_icmp (p' := 63) (q' := 23) f_304_20 rfl rfl
 (fun c106 => w_iinc (p' := 66) f_304_63 rfl (L' := [some (.inr (.inr (40, k0, i0))), some (.inl x1), some (.inl x2), some (.inl (wr (x3 + 1))), some (.inl x4)]) rfl rfl
 (w_goto (p' := 4) f_304_66 rfl
 ((h.1 c106))))
 (fun c106 => w_aload_n (p' := 24) f_304_23 rfl rfl
 (w_iload_n (p' := 25) f_304_24 rfl rfl
 (w_iconst (p' := 26) f_304_25 rfl
 (w_callV (p' := 29) f_304_26 rfl rfl rfl rfl rfl (r := []) rfl rfl (kI (.inl rk_196) fun r101 s101 h101 =>
 w_iconst (p' := 30) f_304_29 rfl
 (w_icmp (p' := 63) (q' := 33) f_304_30 rfl rfl
 (fun c105 => w_iinc (p' := 66) f_304_63 rfl (L' := [some (.inr (.inr (40, k0, i0))), some (.inl x1), some (.inl x2), some (.inl (wr (x3 + 1))), some (.inl x4)]) rfl rfl
 (w_goto (p' := 4) f_304_66 rfl
 ((h101.1 c105))))
 (fun c105 => w_iload_n (p' := 34) f_304_33 rfl rfl
 (w_if (p' := 51) (q' := 37) f_304_34 rfl rfl
 (fun c104 => w_iconst (p' := 52) f_304_51 rfl
 (w_goto (p' := 56) f_304_52 rfl
 (w_istore_n (p' := 57) f_304_56 (L' := [some (.inr (.inr (40, k0, i0))), some (.inl x1), some (.inl 1), some (.inl x3), some (.inl x4)]) rfl rfl
 (w_iinc (p' := 60) f_304_57 rfl (L' := [some (.inr (.inr (40, k0, i0))), some (.inl x1), some (.inl 1), some (.inl x3), some (.inl (wr (x4 + 1)))]) rfl rfl
 (w_goto (p' := 17) f_304_60 rfl
 (((h101.2 c105).1 c104)))))))
 (fun c104 => w_aload_n (p' := 38) f_304_37 rfl rfl
 (w_iload_n (p' := 39) f_304_38 rfl rfl
 (w_bipush (p' := 41) f_304_39 rfl
 (w_iload (p' := 43) f_304_41 rfl rfl
 (w_iadd (p' := 44) f_304_43 rfl
 (w_callV (p' := 47) f_304_44 rfl rfl rfl rfl rfl (r := []) rfl rfl (kI (.inl rk_196) fun r102 s102 h102 =>
 w_iload_n (p' := 48) f_304_47 rfl rfl
 (w_icmp (p' := 55) (q' := 51) f_304_48 rfl rfl
 (fun c103 => w_iconst (p' := 56) f_304_55 rfl
 (w_istore_n (p' := 57) f_304_56 (L' := [some (.inr (.inr (40, k0, i0))), some (.inl x1), some (.inl 0), some (.inl x3), some (.inl x4)]) rfl rfl
 (w_iinc (p' := 60) f_304_57 rfl (L' := [some (.inr (.inr (40, k0, i0))), some (.inl x1), some (.inl 0), some (.inl x3), some (.inl (wr (x4 + 1)))]) rfl rfl
 (w_goto (p' := 17) f_304_60 rfl
 ((h102.1 c103))))))
 (fun c103 => w_iconst (p' := 52) f_304_51 rfl
 (w_goto (p' := 56) f_304_52 rfl
 (w_istore_n (p' := 57) f_304_56 (L' := [some (.inr (.inr (40, k0, i0))), some (.inl x1), some (.inl 1), some (.inl x3), some (.inl x4)]) rfl rfl
 (w_iinc (p' := 60) f_304_57 rfl (L' := [some (.inr (.inr (40, k0, i0))), some (.inl x1), some (.inl 1), some (.inl x3), some (.inl (wr (x4 + 1)))]) rfl rfl
 (w_goto (p' := 17) f_304_60 rfl
 ((h102.2 c103))))))))) ((h101.2 c105).2 c104))))))))))) (h.2 c106)))))))
/-! ClosedRoomsModel.old()I -/
theorem f_305_0 : fnd 305 0 = some (0, .aload_n 0, 1, 0, 0, 0, 0) := ceB_eq (by decide +kernel)
theorem f_305_1 : fnd 305 1 = some (1, .getfield 199, 3, 10, 11, 11, 0) := ceB_eq (by decide +kernel)
theorem f_305_4 : fnd 305 4 = some (4, .ifCond .ne 5, 3, 0, 0, 0, 0) := ceB_eq (by decide +kernel)
theorem f_305_7 : fnd 305 7 = some (7, .iconst (-1), 1, 0, 0, 0, 0) := ceB_eq (by decide +kernel)
theorem f_305_8 : fnd 305 8 = some (8, .ireturn, 1, 0, 0, 0, 0) := ceB_eq (by decide +kernel)
theorem f_305_9 : fnd 305 9 = some (9, .iconst 0, 1, 0, 0, 0, 0) := ceB_eq (by decide +kernel)
theorem f_305_10 : fnd 305 10 = some (10, .istore_n 1, 1, 0, 0, 0, 0) := ceB_eq (by decide +kernel)
theorem f_305_11 : fnd 305 11 = some (11, .iconst 0, 1, 0, 0, 0, 0) := ceB_eq (by decide +kernel)
theorem f_305_12 : fnd 305 12 = some (12, .istore_n 2, 1, 0, 0, 0, 0) := ceB_eq (by decide +kernel)
theorem f_305_13 : fnd 305 13 = some (13, .iload_n 2, 1, 0, 0, 0, 0) := ceB_eq (by decide +kernel)
theorem f_305_14 : fnd 305 14 = some (14, .bipush 12, 2, 0, 0, 0, 0) := ceB_eq (by decide +kernel)
theorem f_305_16 : fnd 305 16 = some (16, .if_icmp .ge 76, 3, 0, 0, 0, 0) := ceB_eq (by decide +kernel)
theorem f_305_19 : fnd 305 19 = some (19, .aload_n 0, 1, 0, 0, 0, 0) := ceB_eq (by decide +kernel)
theorem f_305_20 : fnd 305 20 = some (20, .iload_n 2, 1, 0, 0, 0, 0) := ceB_eq (by decide +kernel)
theorem f_305_21 : fnd 305 21 = some (21, .invokevirtual 301, 3, 229, 2, 10, 0) := ceB_eq (by decide +kernel)
theorem f_305_24 : fnd 305 24 = some (24, .ifCond .eq 46, 3, 0, 0, 0, 0) := ceB_eq (by decide +kernel)
theorem f_305_27 : fnd 305 27 = some (27, .aload_n 0, 1, 0, 0, 0, 0) := ceB_eq (by decide +kernel)
theorem f_305_28 : fnd 305 28 = some (28, .aload_n 0, 1, 0, 0, 0, 0) := ceB_eq (by decide +kernel)
theorem f_305_29 : fnd 305 29 = some (29, .iload_n 2, 1, 0, 0, 0, 0) := ceB_eq (by decide +kernel)
theorem f_305_30 : fnd 305 30 = some (30, .bipush 7, 2, 0, 0, 0, 0) := ceB_eq (by decide +kernel)
theorem f_305_32 : fnd 305 32 = some (32, .invokevirtual 215, 3, 226, 3, 10, 0) := ceB_eq (by decide +kernel)
theorem f_305_35 : fnd 305 35 = some (35, .invokevirtual 459, 3, 304, 2, 10, 0) := ceB_eq (by decide +kernel)
theorem f_305_38 : fnd 305 38 = some (38, .ifCond .eq 28, 3, 0, 0, 0, 0) := ceB_eq (by decide +kernel)
theorem f_305_41 : fnd 305 41 = some (41, .aload_n 0, 1, 0, 0, 0, 0) := ceB_eq (by decide +kernel)
theorem f_305_42 : fnd 305 42 = some (42, .iload_n 2, 1, 0, 0, 0, 0) := ceB_eq (by decide +kernel)
theorem f_305_43 : fnd 305 43 = some (43, .bipush 8, 2, 0, 0, 0, 0) := ceB_eq (by decide +kernel)
theorem f_305_45 : fnd 305 45 = some (45, .invokevirtual 215, 3, 226, 3, 10, 0) := ceB_eq (by decide +kernel)
theorem f_305_48 : fnd 305 48 = some (48, .iconst 1, 1, 0, 0, 0, 0) := ceB_eq (by decide +kernel)
theorem f_305_49 : fnd 305 49 = some (49, .if_icmp .eq 17, 3, 0, 0, 0, 0) := ceB_eq (by decide +kernel)
theorem f_305_52 : fnd 305 52 = some (52, .aload_n 0, 1, 0, 0, 0, 0) := ceB_eq (by decide +kernel)
theorem f_305_53 : fnd 305 53 = some (53, .aload_n 0, 1, 0, 0, 0, 0) := ceB_eq (by decide +kernel)
theorem f_305_54 : fnd 305 54 = some (54, .iload_n 2, 1, 0, 0, 0, 0) := ceB_eq (by decide +kernel)
theorem f_305_55 : fnd 305 55 = some (55, .iconst 1, 1, 0, 0, 0, 0) := ceB_eq (by decide +kernel)
theorem f_305_56 : fnd 305 56 = some (56, .invokevirtual 215, 3, 226, 3, 10, 0) := ceB_eq (by decide +kernel)
theorem f_305_59 : fnd 305 59 = some (59, .invokevirtual 298, 3, 230, 2, 10, 0) := ceB_eq (by decide +kernel)
theorem f_305_62 : fnd 305 62 = some (62, .iconst (-1), 1, 0, 0, 0, 0) := ceB_eq (by decide +kernel)
theorem f_305_63 : fnd 305 63 = some (63, .if_icmp .ne 7, 3, 0, 0, 0, 0) := ceB_eq (by decide +kernel)
theorem f_305_66 : fnd 305 66 = some (66, .iconst 1, 1, 0, 0, 0, 0) := ceB_eq (by decide +kernel)
theorem f_305_67 : fnd 305 67 = some (67, .goto 4, 3, 0, 0, 0, 0) := ceB_eq (by decide +kernel)
theorem f_305_70 : fnd 305 70 = some (70, .iconst 0, 1, 0, 0, 0, 0) := ceB_eq (by decide +kernel)
theorem f_305_71 : fnd 305 71 = some (71, .istore_n 3, 1, 0, 0, 0, 0) := ceB_eq (by decide +kernel)
theorem f_305_72 : fnd 305 72 = some (72, .iload_n 1, 1, 0, 0, 0, 0) := ceB_eq (by decide +kernel)
theorem f_305_73 : fnd 305 73 = some (73, .iload_n 3, 1, 0, 0, 0, 0) := ceB_eq (by decide +kernel)
theorem f_305_74 : fnd 305 74 = some (74, .ifCond .eq 9, 3, 0, 0, 0, 0) := ceB_eq (by decide +kernel)
theorem f_305_77 : fnd 305 77 = some (77, .iconst 1, 1, 0, 0, 0, 0) := ceB_eq (by decide +kernel)
theorem f_305_78 : fnd 305 78 = some (78, .iload_n 2, 1, 0, 0, 0, 0) := ceB_eq (by decide +kernel)
theorem f_305_79 : fnd 305 79 = some (79, .ishl, 1, 0, 0, 0, 0) := ceB_eq (by decide +kernel)
theorem f_305_80 : fnd 305 80 = some (80, .goto 4, 3, 0, 0, 0, 0) := ceB_eq (by decide +kernel)
theorem f_305_83 : fnd 305 83 = some (83, .iconst 0, 1, 0, 0, 0, 0) := ceB_eq (by decide +kernel)
theorem f_305_84 : fnd 305 84 = some (84, .ior, 1, 0, 0, 0, 0) := ceB_eq (by decide +kernel)
theorem f_305_85 : fnd 305 85 = some (85, .istore_n 1, 1, 0, 0, 0, 0) := ceB_eq (by decide +kernel)
theorem f_305_86 : fnd 305 86 = some (86, .iinc 2 1, 3, 0, 0, 0, 0) := ceB_eq (by decide +kernel)
theorem f_305_89 : fnd 305 89 = some (89, .goto (-76), 3, 0, 0, 0, 0) := ceB_eq (by decide +kernel)
theorem f_305_92 : fnd 305 92 = some (92, .iload_n 1, 1, 0, 0, 0, 0) := ceB_eq (by decide +kernel)
theorem f_305_93 : fnd 305 93 = some (93, .ireturn, 1, 0, 0, 0, 0) := ceB_eq (by decide +kernel)
theorem rk_305 : rkm 305 = 0 := by decide +kernel
theorem ml_305 : (mth 305).2.1 = 4 := by decide +kernel
set_option maxRecDepth 100000 in
theorem T_Z_old (k0 i0 : Int) (σ : ST) (Q : Option AV → ST → Prop) (h :
  ((((bz (σ 40 k0 i0 11)) ≠ 0 : Prop) →
    wp m_Z_old (13, [some (.inr (.inr (40, k0, i0))), some (.inl 0), some (.inl 0), none], [], σ) Q) ∧
  (¬ ((bz (σ 40 k0 i0 11)) ≠ 0) →
    Q (some (.inl (-1))) σ))) :
  wpM m_Z_old [.inr (.inr (40, k0, i0))] σ Q :=
 wpM_of ml_305 (L := [some (.inr (.inr (40, k0, i0))), none, none, none]) rfl
 (w_aload_n (p' := 1) f_305_0 rfl rfl
 (w_getfield (p' := 4) f_305_1 rfl (x := .inl (bz (σ 40 k0 i0 11))) rfl rfl
 (w_if (p' := 9) (q' := 7) f_305_4 rfl rfl
 (fun c101 => w_iconst (p' := 10) f_305_9 rfl
 (w_istore_n (p' := 11) f_305_10 (L' := [some (.inr (.inr (40, k0, i0))), some (.inl 0), none, none]) rfl rfl
 (w_iconst (p' := 12) f_305_11 rfl
 (w_istore_n (p' := 13) f_305_12 (L' := [some (.inr (.inr (40, k0, i0))), some (.inl 0), some (.inl 0), none]) rfl rfl
 ((h.1 c101))))))
 (fun c101 => w_iconst (p' := 8) f_305_7 rfl
 (w_iret f_305_8 rk_305 (h.2 c101))))))
set_option maxRecDepth 100000 in
theorem T_Z_old_13 (k0 i0 x1 x2 : Int) (o3 : Option AV) (σ : ST) (Q : Option AV → ST → Prop) (h :
  (((12 ≤ x2 : Prop) →
    Q (some (.inl x1)) σ) ∧
  (¬ (12 ≤ x2) →
    wpM m_Z_isCopy [.inr (.inr (40, k0, i0)), .inl x2] σ (asI fun r101 s101 =>
    (((r101 = 0 : Prop) →
      wp m_Z_old (71, [some (.inr (.inr (40, k0, i0))), some (.inl x1), some (.inl x2), o3], [.inl 0], s101) Q) ∧
    (¬ (r101 = 0) →
      wpM m_Z_ofCopy [.inr (.inr (40, k0, i0)), .inl x2, .inl 7] s101 (asI fun r102 s102 =>
      wpM m_Z_isInSlots [.inr (.inr (40, k0, i0)), .inl r102] s102 (asI fun r103 s103 =>
      (((r103 = 0 : Prop) →
        wp m_Z_old (71, [some (.inr (.inr (40, k0, i0))), some (.inl x1), some (.inl x2), o3], [.inl 1], s103) Q) ∧
      (¬ (r103 = 0) →
        wpM m_Z_ofCopy [.inr (.inr (40, k0, i0)), .inl x2, .inl 8] s103 (asI fun r104 s104 =>
        (((r104 = 1 : Prop) →
          wp m_Z_old (71, [some (.inr (.inr (40, k0, i0))), some (.inl x1), some (.inl x2), o3], [.inl 1], s104) Q) ∧
        (¬ (r104 = 1) →
          wpM m_Z_ofCopy [.inr (.inr (40, k0, i0)), .inl x2, .inl 1] s104 (asI fun r105 s105 =>
          wpM m_Z_roomBy [.inr (.inr (40, k0, i0)), .inl r105] s105 (asI fun r106 s106 =>
          (((r106 ≠ (-1) : Prop) →
            wp m_Z_old (71, [some (.inr (.inr (40, k0, i0))), some (.inl x1), some (.inl x2), o3], [.inl 0], s106) Q) ∧
          (¬ (r106 ≠ (-1)) →
            wp m_Z_old (71, [some (.inr (.inr (40, k0, i0))), some (.inl x1), some (.inl x2), o3], [.inl 1], s106) Q))))))))))))))))) :
  wp m_Z_old (13, [some (.inr (.inr (40, k0, i0))), some (.inl x1), some (.inl x2), o3], [], σ) Q :=
 w_iload_n (p' := 14) f_305_13 rfl rfl
 (w_bipush (p' := 16) f_305_14 rfl
 (w_icmp (p' := 92) (q' := 19) f_305_16 rfl rfl
 (fun c111 => w_iload_n (p' := 93) f_305_92 rfl rfl
 (w_iret f_305_93 rk_305 (h.1 c111)))
 (fun c111 => w_aload_n (p' := 20) f_305_19 rfl rfl
 (w_iload_n (p' := 21) f_305_20 rfl rfl
 (w_callV (p' := 24) f_305_21 rfl rfl rfl rfl rfl (r := []) rfl rfl (kI (.inr rk_229) fun r101 s101 h101 =>
 w_if (p' := 70) (q' := 27) f_305_24 rfl rfl
 (fun c110 => w_iconst (p' := 71) f_305_70 rfl
 ((h101.1 c110)))
 (fun c110 => w_aload_n (p' := 28) f_305_27 rfl rfl
 (w_aload_n (p' := 29) f_305_28 rfl rfl
 (w_iload_n (p' := 30) f_305_29 rfl rfl
 (w_bipush (p' := 32) f_305_30 rfl
 (w_callV (p' := 35) f_305_32 rfl rfl rfl rfl rfl (r := [.inr (.inr (40, k0, i0))]) rfl rfl (kI (.inl rk_226) fun r102 s102 h102 =>
 w_callV (p' := 38) f_305_35 rfl rfl rfl rfl rfl (r := []) rfl rfl (kI (.inr rk_304) fun r103 s103 h103 =>
 w_if (p' := 66) (q' := 41) f_305_38 rfl rfl
 (fun c109 => w_iconst (p' := 67) f_305_66 rfl
 (w_goto (p' := 71) f_305_67 rfl
 ((h103.1 c109))))
 (fun c109 => w_aload_n (p' := 42) f_305_41 rfl rfl
 (w_iload_n (p' := 43) f_305_42 rfl rfl
 (w_bipush (p' := 45) f_305_43 rfl
 (w_callV (p' := 48) f_305_45 rfl rfl rfl rfl rfl (r := []) rfl rfl (kI (.inl rk_226) fun r104 s104 h104 =>
 w_iconst (p' := 49) f_305_48 rfl
 (w_icmp (p' := 66) (q' := 52) f_305_49 rfl rfl
 (fun c108 => w_iconst (p' := 67) f_305_66 rfl
 (w_goto (p' := 71) f_305_67 rfl
 ((h104.1 c108))))
 (fun c108 => w_aload_n (p' := 53) f_305_52 rfl rfl
 (w_aload_n (p' := 54) f_305_53 rfl rfl
 (w_iload_n (p' := 55) f_305_54 rfl rfl
 (w_iconst (p' := 56) f_305_55 rfl
 (w_callV (p' := 59) f_305_56 rfl rfl rfl rfl rfl (r := [.inr (.inr (40, k0, i0))]) rfl rfl (kI (.inl rk_226) fun r105 s105 h105 =>
 w_callV (p' := 62) f_305_59 rfl rfl rfl rfl rfl (r := []) rfl rfl (kI (.inl rk_230) fun r106 s106 h106 =>
 w_iconst (p' := 63) f_305_62 rfl
 (w_icmp (p' := 70) (q' := 66) f_305_63 rfl rfl
 (fun c107 => w_iconst (p' := 71) f_305_70 rfl
 ((h106.1 c107)))
 (fun c107 => w_iconst (p' := 67) f_305_66 rfl
 (w_goto (p' := 71) f_305_67 rfl
 ((h106.2 c107)))))) h105) (h104.2 c108)))))))) (h103.2 c109)))))) h102) (h101.2 c110))))))) (h.2 c111))))))
set_option maxRecDepth 100000 in
theorem T_Z_old_71 (k0 i0 x1 x2 t0 : Int) (o3 : Option AV) (σ : ST) (Q : Option AV → ST → Prop) (h :
  (((t0 = 0 : Prop) →
    wp m_Z_old (13, [some (.inr (.inr (40, k0, i0))), some (.inl (i_or x1 0)), some (.inl (wr (x2 + 1))), some (.inl t0)], [], σ) Q) ∧
  (¬ (t0 = 0) →
    wp m_Z_old (13, [some (.inr (.inr (40, k0, i0))), some (.inl (i_or x1 (i_shl 1 x2))), some (.inl (wr (x2 + 1))), some (.inl t0)], [], σ) Q))) :
  wp m_Z_old (71, [some (.inr (.inr (40, k0, i0))), some (.inl x1), some (.inl x2), o3], [.inl t0], σ) Q :=
 w_istore_n (p' := 72) f_305_71 (L' := [some (.inr (.inr (40, k0, i0))), some (.inl x1), some (.inl x2), some (.inl t0)]) rfl rfl
 (w_iload_n (p' := 73) f_305_72 rfl rfl
 (w_iload_n (p' := 74) f_305_73 rfl rfl
 (w_if (p' := 83) (q' := 77) f_305_74 rfl rfl
 (fun c101 => w_iconst (p' := 84) f_305_83 rfl
 (w_ior (p' := 85) f_305_84 rfl
 (w_istore_n (p' := 86) f_305_85 (L' := [some (.inr (.inr (40, k0, i0))), some (.inl (i_or x1 0)), some (.inl x2), some (.inl t0)]) rfl rfl
 (w_iinc (p' := 89) f_305_86 rfl (L' := [some (.inr (.inr (40, k0, i0))), some (.inl (i_or x1 0)), some (.inl (wr (x2 + 1))), some (.inl t0)]) rfl rfl
 (w_goto (p' := 13) f_305_89 rfl
 ((h.1 c101)))))))
 (fun c101 => w_iconst (p' := 78) f_305_77 rfl
 (w_iload_n (p' := 79) f_305_78 rfl rfl
 (w_ishl (p' := 80) f_305_79 rfl
 (w_goto (p' := 84) f_305_80 rfl
 (w_ior (p' := 85) f_305_84 rfl
 (w_istore_n (p' := 86) f_305_85 (L' := [some (.inr (.inr (40, k0, i0))), some (.inl (i_or x1 (i_shl 1 x2))), some (.inl x2), some (.inl t0)]) rfl rfl
 (w_iinc (p' := 89) f_305_86 rfl (L' := [some (.inr (.inr (40, k0, i0))), some (.inl (i_or x1 (i_shl 1 x2))), some (.inl (wr (x2 + 1))), some (.inl t0)]) rfl rfl
 (w_goto (p' := 13) f_305_89 rfl
 ((h.2 c101)))))))))))))
/-! ClosedRoomsModel.twins(I)I -/
theorem f_306_0 : fnd 306 0 = some (0, .aload_n 0, 1, 0, 0, 0, 0) := ceB_eq (by decide +kernel)
theorem f_306_1 : fnd 306 1 = some (1, .iload_n 1, 1, 0, 0, 0, 0) := ceB_eq (by decide +kernel)
theorem f_306_2 : fnd 306 2 = some (2, .invokevirtual 301, 3, 229, 2, 10, 0) := ceB_eq (by decide +kernel)
theorem f_306_5 : fnd 306 5 = some (5, .ifCond .ne 5, 3, 0, 0, 0, 0) := ceB_eq (by decide +kernel)
theorem f_306_8 : fnd 306 8 = some (8, .iconst (-1), 1, 0, 0, 0, 0) := ceB_eq (by decide +kernel)
theorem f_306_9 : fnd 306 9 = some (9, .ireturn, 1, 0, 0, 0, 0) := ceB_eq (by decide +kernel)
theorem f_306_10 : fnd 306 10 = some (10, .iconst 0, 1, 0, 0, 0, 0) := ceB_eq (by decide +kernel)
theorem f_306_11 : fnd 306 11 = some (11, .istore_n 2, 1, 0, 0, 0, 0) := ceB_eq (by decide +kernel)
theorem f_306_12 : fnd 306 12 = some (12, .iconst 0, 1, 0, 0, 0, 0) := ceB_eq (by decide +kernel)
theorem f_306_13 : fnd 306 13 = some (13, .istore_n 3, 1, 0, 0, 0, 0) := ceB_eq (by decide +kernel)
theorem f_306_14 : fnd 306 14 = some (14, .iload_n 3, 1, 0, 0, 0, 0) := ceB_eq (by decide +kernel)
theorem f_306_15 : fnd 306 15 = some (15, .bipush 12, 2, 0, 0, 0, 0) := ceB_eq (by decide +kernel)
theorem f_306_17 : fnd 306 17 = some (17, .if_icmp .ge 49, 3, 0, 0, 0, 0) := ceB_eq (by decide +kernel)
theorem f_306_20 : fnd 306 20 = some (20, .iload_n 2, 1, 0, 0, 0, 0) := ceB_eq (by decide +kernel)
theorem f_306_21 : fnd 306 21 = some (21, .iload_n 3, 1, 0, 0, 0, 0) := ceB_eq (by decide +kernel)
theorem f_306_22 : fnd 306 22 = some (22, .iload_n 1, 1, 0, 0, 0, 0) := ceB_eq (by decide +kernel)
theorem f_306_23 : fnd 306 23 = some (23, .if_icmp .eq 34, 3, 0, 0, 0, 0) := ceB_eq (by decide +kernel)
theorem f_306_26 : fnd 306 26 = some (26, .aload_n 0, 1, 0, 0, 0, 0) := ceB_eq (by decide +kernel)
theorem f_306_27 : fnd 306 27 = some (27, .iload_n 3, 1, 0, 0, 0, 0) := ceB_eq (by decide +kernel)
theorem f_306_28 : fnd 306 28 = some (28, .invokevirtual 301, 3, 229, 2, 10, 0) := ceB_eq (by decide +kernel)
theorem f_306_31 : fnd 306 31 = some (31, .ifCond .eq 26, 3, 0, 0, 0, 0) := ceB_eq (by decide +kernel)
theorem f_306_34 : fnd 306 34 = some (34, .aload_n 0, 1, 0, 0, 0, 0) := ceB_eq (by decide +kernel)
theorem f_306_35 : fnd 306 35 = some (35, .iload_n 3, 1, 0, 0, 0, 0) := ceB_eq (by decide +kernel)
theorem f_306_36 : fnd 306 36 = some (36, .bipush 7, 2, 0, 0, 0, 0) := ceB_eq (by decide +kernel)
theorem f_306_38 : fnd 306 38 = some (38, .invokevirtual 215, 3, 226, 3, 10, 0) := ceB_eq (by decide +kernel)
theorem f_306_41 : fnd 306 41 = some (41, .aload_n 0, 1, 0, 0, 0, 0) := ceB_eq (by decide +kernel)
theorem f_306_42 : fnd 306 42 = some (42, .iload_n 1, 1, 0, 0, 0, 0) := ceB_eq (by decide +kernel)
theorem f_306_43 : fnd 306 43 = some (43, .bipush 7, 2, 0, 0, 0, 0) := ceB_eq (by decide +kernel)
theorem f_306_45 : fnd 306 45 = some (45, .invokevirtual 215, 3, 226, 3, 10, 0) := ceB_eq (by decide +kernel)
theorem f_306_48 : fnd 306 48 = some (48, .if_icmp .ne 9, 3, 0, 0, 0, 0) := ceB_eq (by decide +kernel)
theorem f_306_51 : fnd 306 51 = some (51, .iconst 1, 1, 0, 0, 0, 0) := ceB_eq (by decide +kernel)
theorem f_306_52 : fnd 306 52 = some (52, .iload_n 3, 1, 0, 0, 0, 0) := ceB_eq (by decide +kernel)
theorem f_306_53 : fnd 306 53 = some (53, .ishl, 1, 0, 0, 0, 0) := ceB_eq (by decide +kernel)
theorem f_306_54 : fnd 306 54 = some (54, .goto 4, 3, 0, 0, 0, 0) := ceB_eq (by decide +kernel)
theorem f_306_57 : fnd 306 57 = some (57, .iconst 0, 1, 0, 0, 0, 0) := ceB_eq (by decide +kernel)
theorem f_306_58 : fnd 306 58 = some (58, .ior, 1, 0, 0, 0, 0) := ceB_eq (by decide +kernel)
theorem f_306_59 : fnd 306 59 = some (59, .istore_n 2, 1, 0, 0, 0, 0) := ceB_eq (by decide +kernel)
theorem f_306_60 : fnd 306 60 = some (60, .iinc 3 1, 3, 0, 0, 0, 0) := ceB_eq (by decide +kernel)
theorem f_306_63 : fnd 306 63 = some (63, .goto (-49), 3, 0, 0, 0, 0) := ceB_eq (by decide +kernel)
theorem f_306_66 : fnd 306 66 = some (66, .iload_n 2, 1, 0, 0, 0, 0) := ceB_eq (by decide +kernel)
theorem f_306_67 : fnd 306 67 = some (67, .ireturn, 1, 0, 0, 0, 0) := ceB_eq (by decide +kernel)
theorem rk_306 : rkm 306 = 0 := by decide +kernel
theorem ml_306 : (mth 306).2.1 = 4 := by decide +kernel
set_option maxRecDepth 100000 in
theorem T_Z_twins (k0 i0 x1 : Int) (σ : ST) (Q : Option AV → ST → Prop) (h :
  wpM m_Z_isCopy [.inr (.inr (40, k0, i0)), .inl x1] σ (asI fun r101 s101 =>
  (((r101 ≠ 0 : Prop) →
    wp m_Z_twins (14, [some (.inr (.inr (40, k0, i0))), some (.inl x1), some (.inl 0), some (.inl 0)], [], s101) Q) ∧
  (¬ (r101 ≠ 0) →
    Q (some (.inl (-1))) s101)))) :
  wpM m_Z_twins [.inr (.inr (40, k0, i0)), .inl x1] σ Q :=
 wpM_of ml_306 (L := [some (.inr (.inr (40, k0, i0))), some (.inl x1), none, none]) rfl
 (w_aload_n (p' := 1) f_306_0 rfl rfl
 (w_iload_n (p' := 2) f_306_1 rfl rfl
 (w_callV (p' := 5) f_306_2 rfl rfl rfl rfl rfl (r := []) rfl rfl (kI (.inr rk_229) fun r101 s101 h101 =>
 w_if (p' := 10) (q' := 8) f_306_5 rfl rfl
 (fun c102 => w_iconst (p' := 11) f_306_10 rfl
 (w_istore_n (p' := 12) f_306_11 (L' := [some (.inr (.inr (40, k0, i0))), some (.inl x1), some (.inl 0), none]) rfl rfl
 (w_iconst (p' := 13) f_306_12 rfl
 (w_istore_n (p' := 14) f_306_13 (L' := [some (.inr (.inr (40, k0, i0))), some (.inl x1), some (.inl 0), some (.inl 0)]) rfl rfl
 ((h101.1 c102))))))
 (fun c102 => w_iconst (p' := 9) f_306_8 rfl
 (w_iret f_306_9 rk_306 (h101.2 c102)))) h)))
set_option maxRecDepth 100000 in
theorem T_Z_twins_14 (k0 i0 x1 x2 x3 : Int) (σ : ST) (Q : Option AV → ST → Prop) (h :
  (((12 ≤ x3 : Prop) →
    Q (some (.inl x2)) σ) ∧
  (¬ (12 ≤ x3) →
    (((x3 = x1 : Prop) →
      wp m_Z_twins (14, [some (.inr (.inr (40, k0, i0))), some (.inl x1), some (.inl (i_or x2 0)), some (.inl (wr (x3 + 1)))], [], σ) Q) ∧
    (¬ (x3 = x1) →
      wpM m_Z_isCopy [.inr (.inr (40, k0, i0)), .inl x3] σ (asI fun r101 s101 =>
      (((r101 = 0 : Prop) →
        wp m_Z_twins (14, [some (.inr (.inr (40, k0, i0))), some (.inl x1), some (.inl (i_or x2 0)), some (.inl (wr (x3 + 1)))], [], s101) Q) ∧
      (¬ (r101 = 0) →
        wpM m_Z_ofCopy [.inr (.inr (40, k0, i0)), .inl x3, .inl 7] s101 (asI fun r102 s102 =>
        wpM m_Z_ofCopy [.inr (.inr (40, k0, i0)), .inl x1, .inl 7] s102 (asI fun r103 s103 =>
        (((r102 ≠ r103 : Prop) →
          wp m_Z_twins (14, [some (.inr (.inr (40, k0, i0))), some (.inl x1), some (.inl (i_or x2 0)), some (.inl (wr (x3 + 1)))], [], s103) Q) ∧
        (¬ (r102 ≠ r103) →
          wp m_Z_twins (14, [some (.inr (.inr (40, k0, i0))), some (.inl x1), some (.inl (i_or x2 (i_shl 1 x3))), some (.inl (wr (x3 + 1)))], [], s103) Q)))))))))))) :
  wp m_Z_twins (14, [some (.inr (.inr (40, k0, i0))), some (.inl x1), some (.inl x2), some (.inl x3)], [], σ) Q :=
 w_iload_n (p' := 15) f_306_14 rfl rfl
 (w_bipush (p' := 17) f_306_15 rfl
 (w_icmp (p' := 66) (q' := 20) f_306_17 rfl rfl
 (fun c107 => w_iload_n (p' := 67) f_306_66 rfl rfl
 (w_iret f_306_67 rk_306 (h.1 c107)))
 (fun c107 => w_iload_n (p' := 21) f_306_20 rfl rfl
 (w_iload_n (p' := 22) f_306_21 rfl rfl
 (w_iload_n (p' := 23) f_306_22 rfl rfl
 (w_icmp (p' := 57) (q' := 26) f_306_23 rfl rfl
 (fun c106 => w_iconst (p' := 58) f_306_57 rfl
 (w_ior (p' := 59) f_306_58 rfl
 (w_istore_n (p' := 60) f_306_59 (L' := [some (.inr (.inr (40, k0, i0))), some (.inl x1), some (.inl (i_or x2 0)), some (.inl x3)]) rfl rfl
 (w_iinc (p' := 63) f_306_60 rfl (L' := [some (.inr (.inr (40, k0, i0))), some (.inl x1), some (.inl (i_or x2 0)), some (.inl (wr (x3 + 1)))]) rfl rfl
 (w_goto (p' := 14) f_306_63 rfl
 (((h.2 c107).1 c106)))))))
 (fun c106 => w_aload_n (p' := 27) f_306_26 rfl rfl
 (w_iload_n (p' := 28) f_306_27 rfl rfl
 (w_callV (p' := 31) f_306_28 rfl rfl rfl rfl rfl (r := [.inl x2]) rfl rfl (kI (.inr rk_229) fun r101 s101 h101 =>
 w_if (p' := 57) (q' := 34) f_306_31 rfl rfl
 (fun c105 => w_iconst (p' := 58) f_306_57 rfl
 (w_ior (p' := 59) f_306_58 rfl
 (w_istore_n (p' := 60) f_306_59 (L' := [some (.inr (.inr (40, k0, i0))), some (.inl x1), some (.inl (i_or x2 0)), some (.inl x3)]) rfl rfl
 (w_iinc (p' := 63) f_306_60 rfl (L' := [some (.inr (.inr (40, k0, i0))), some (.inl x1), some (.inl (i_or x2 0)), some (.inl (wr (x3 + 1)))]) rfl rfl
 (w_goto (p' := 14) f_306_63 rfl
 ((h101.1 c105)))))))
 (fun c105 => w_aload_n (p' := 35) f_306_34 rfl rfl
 (w_iload_n (p' := 36) f_306_35 rfl rfl
 (w_bipush (p' := 38) f_306_36 rfl
 (w_callV (p' := 41) f_306_38 rfl rfl rfl rfl rfl (r := [.inl x2]) rfl rfl (kI (.inl rk_226) fun r102 s102 h102 =>
 w_aload_n (p' := 42) f_306_41 rfl rfl
 (w_iload_n (p' := 43) f_306_42 rfl rfl
 (w_bipush (p' := 45) f_306_43 rfl
 (w_callV (p' := 48) f_306_45 rfl rfl rfl rfl rfl (r := [.inl r102, .inl x2]) rfl rfl (kI (.inl rk_226) fun r103 s103 h103 =>
 w_icmp (p' := 57) (q' := 51) f_306_48 rfl rfl
 (fun c104 => w_iconst (p' := 58) f_306_57 rfl
 (w_ior (p' := 59) f_306_58 rfl
 (w_istore_n (p' := 60) f_306_59 (L' := [some (.inr (.inr (40, k0, i0))), some (.inl x1), some (.inl (i_or x2 0)), some (.inl x3)]) rfl rfl
 (w_iinc (p' := 63) f_306_60 rfl (L' := [some (.inr (.inr (40, k0, i0))), some (.inl x1), some (.inl (i_or x2 0)), some (.inl (wr (x3 + 1)))]) rfl rfl
 (w_goto (p' := 14) f_306_63 rfl
 ((h103.1 c104)))))))
 (fun c104 => w_iconst (p' := 52) f_306_51 rfl
 (w_iload_n (p' := 53) f_306_52 rfl rfl
 (w_ishl (p' := 54) f_306_53 rfl
 (w_goto (p' := 58) f_306_54 rfl
 (w_ior (p' := 59) f_306_58 rfl
 (w_istore_n (p' := 60) f_306_59 (L' := [some (.inr (.inr (40, k0, i0))), some (.inl x1), some (.inl (i_or x2 (i_shl 1 x3))), some (.inl x3)]) rfl rfl
 (w_iinc (p' := 63) f_306_60 rfl (L' := [some (.inr (.inr (40, k0, i0))), some (.inl x1), some (.inl (i_or x2 (i_shl 1 x3))), some (.inl (wr (x3 + 1)))]) rfl rfl
 (w_goto (p' := 14) f_306_63 rfl
 ((h103.2 c104))))))))))) h102)))) (h101.2 c105)))))) ((h.2 c107).2 c106))))))))))
/-! ClosedRoomsModel.waits(I)I -/
theorem f_307_0 : fnd 307 0 = some (0, .aload_n 0, 1, 0, 0, 0, 0) := ceB_eq (by decide +kernel)
theorem f_307_1 : fnd 307 1 = some (1, .iload_n 1, 1, 0, 0, 0, 0) := ceB_eq (by decide +kernel)
theorem f_307_2 : fnd 307 2 = some (2, .invokevirtual 203, 3, 211, 2, 10, 0) := ceB_eq (by decide +kernel)
theorem f_307_5 : fnd 307 5 = some (5, .ifCond .eq 11, 3, 0, 0, 0, 0) := ceB_eq (by decide +kernel)
theorem f_307_8 : fnd 307 8 = some (8, .aload_n 0, 1, 0, 0, 0, 0) := ceB_eq (by decide +kernel)
theorem f_307_9 : fnd 307 9 = some (9, .iload_n 1, 1, 0, 0, 0, 0) := ceB_eq (by decide +kernel)
theorem f_307_10 : fnd 307 10 = some (10, .invokevirtual 279, 3, 219, 2, 10, 0) := ceB_eq (by decide +kernel)
theorem f_307_13 : fnd 307 13 = some (13, .ifCond .ne 5, 3, 0, 0, 0, 0) := ceB_eq (by decide +kernel)
theorem f_307_16 : fnd 307 16 = some (16, .iconst (-1), 1, 0, 0, 0, 0) := ceB_eq (by decide +kernel)
theorem f_307_17 : fnd 307 17 = some (17, .ireturn, 1, 0, 0, 0, 0) := ceB_eq (by decide +kernel)
theorem f_307_18 : fnd 307 18 = some (18, .aload_n 0, 1, 0, 0, 0, 0) := ceB_eq (by decide +kernel)
theorem f_307_19 : fnd 307 19 = some (19, .iload_n 1, 1, 0, 0, 0, 0) := ceB_eq (by decide +kernel)
theorem f_307_20 : fnd 307 20 = some (20, .iconst 1, 1, 0, 0, 0, 0) := ceB_eq (by decide +kernel)
theorem f_307_21 : fnd 307 21 = some (21, .invokevirtual 206, 3, 196, 3, 10, 0) := ceB_eq (by decide +kernel)
theorem f_307_24 : fnd 307 24 = some (24, .istore_n 2, 1, 0, 0, 0, 0) := ceB_eq (by decide +kernel)
theorem f_307_25 : fnd 307 25 = some (25, .aload_n 0, 1, 0, 0, 0, 0) := ceB_eq (by decide +kernel)
theorem f_307_26 : fnd 307 26 = some (26, .iload_n 2, 1, 0, 0, 0, 0) := ceB_eq (by decide +kernel)
theorem f_307_27 : fnd 307 27 = some (27, .aload_n 0, 1, 0, 0, 0, 0) := ceB_eq (by decide +kernel)
theorem f_307_28 : fnd 307 28 = some (28, .iload_n 1, 1, 0, 0, 0, 0) := ceB_eq (by decide +kernel)
theorem f_307_29 : fnd 307 29 = some (29, .iconst 5, 1, 0, 0, 0, 0) := ceB_eq (by decide +kernel)
theorem f_307_30 : fnd 307 30 = some (30, .invokevirtual 206, 3, 196, 3, 10, 0) := ceB_eq (by decide +kernel)
theorem f_307_33 : fnd 307 33 = some (33, .iconst (-1), 1, 0, 0, 0, 0) := ceB_eq (by decide +kernel)
theorem f_307_34 : fnd 307 34 = some (34, .if_icmp .ne 12, 3, 0, 0, 0, 0) := ceB_eq (by decide +kernel)
theorem f_307_37 : fnd 307 37 = some (37, .aload_n 0, 1, 0, 0, 0, 0) := ceB_eq (by decide +kernel)
theorem f_307_38 : fnd 307 38 = some (38, .iload_n 2, 1, 0, 0, 0, 0) := ceB_eq (by decide +kernel)
theorem f_307_39 : fnd 307 39 = some (39, .iconst 5, 1, 0, 0, 0, 0) := ceB_eq (by decide +kernel)
theorem f_307_40 : fnd 307 40 = some (40, .invokevirtual 209, 3, 198, 3, 10, 0) := ceB_eq (by decide +kernel)
theorem f_307_43 : fnd 307 43 = some (43, .goto 9, 3, 0, 0, 0, 0) := ceB_eq (by decide +kernel)
theorem f_307_46 : fnd 307 46 = some (46, .aload_n 0, 1, 0, 0, 0, 0) := ceB_eq (by decide +kernel)
theorem f_307_47 : fnd 307 47 = some (47, .iload_n 1, 1, 0, 0, 0, 0) := ceB_eq (by decide +kernel)
theorem f_307_48 : fnd 307 48 = some (48, .iconst 5, 1, 0, 0, 0, 0) := ceB_eq (by decide +kernel)
theorem f_307_49 : fnd 307 49 = some (49, .invokevirtual 206, 3, 196, 3, 10, 0) := ceB_eq (by decide +kernel)
theorem f_307_52 : fnd 307 52 = some (52, .invokevirtual 282, 3, 221, 3, 10, 0) := ceB_eq (by decide +kernel)
theorem f_307_55 : fnd 307 55 = some (55, .ireturn, 1, 0, 0, 0, 0) := ceB_eq (by decide +kernel)
theorem rk_307 : rkm 307 = 0 := by decide +kernel
theorem ml_307 : (mth 307).2.1 = 3 := by decide +kernel
set_option maxRecDepth 100000 in
theorem T_Z_waits (k0 i0 x1 : Int) (σ : ST) (Q : Option AV → ST → Prop) (h :
  wpM m_Z_isPage [.inr (.inr (40, k0, i0)), .inl x1] σ (asI fun r101 s101 =>
  (((r101 = 0 : Prop) →
    Q (some (.inl (-1))) s101) ∧
  (¬ (r101 = 0) →
    wpM m_Z_isMoving [.inr (.inr (40, k0, i0)), .inl x1] s101 (asI fun r102 s102 =>
    (((r102 ≠ 0 : Prop) →
      wpM m_Z_ofPage [.inr (.inr (40, k0, i0)), .inl x1, .inl 1] s102 (asI fun r103 s103 =>
      wpM m_Z_ofPage [.inr (.inr (40, k0, i0)), .inl x1, .inl 5] s103 (asI fun r104 s104 =>
      (((r104 ≠ (-1) : Prop) →
        wpM m_Z_ofPage [.inr (.inr (40, k0, i0)), .inl x1, .inl 5] s104 (asI fun r105 s105 =>
        wpM m_Z_insideSince [.inr (.inr (40, k0, i0)), .inl r103, .inl r105] s105 (asI fun r106 s106 =>
        Q (some (.inl r106)) s106))) ∧
      (¬ (r104 ≠ (-1)) →
        wpM m_Z_ofRoom [.inr (.inr (40, k0, i0)), .inl r103, .inl 5] s104 (asI fun r107 s107 =>
        wpM m_Z_insideSince [.inr (.inr (40, k0, i0)), .inl r103, .inl r107] s107 (asI fun r108 s108 =>
        Q (some (.inl r108)) s108))))))) ∧
    (¬ (r102 ≠ 0) →
      Q (some (.inl (-1))) s102))))))) :
  wpM m_Z_waits [.inr (.inr (40, k0, i0)), .inl x1] σ Q :=
 wpM_of ml_307 (L := [some (.inr (.inr (40, k0, i0))), some (.inl x1), none]) rfl
 (w_aload_n (p' := 1) f_307_0 rfl rfl
 (w_iload_n (p' := 2) f_307_1 rfl rfl
 (w_callV (p' := 5) f_307_2 rfl rfl rfl rfl rfl (r := []) rfl rfl (kI (.inr rk_211) fun r101 s101 h101 =>
 w_if (p' := 16) (q' := 8) f_307_5 rfl rfl
 (fun c111 => w_iconst (p' := 17) f_307_16 rfl
 (w_iret f_307_17 rk_307 (h101.1 c111)))
 (fun c111 => w_aload_n (p' := 9) f_307_8 rfl rfl
 (w_iload_n (p' := 10) f_307_9 rfl rfl
 (w_callV (p' := 13) f_307_10 rfl rfl rfl rfl rfl (r := []) rfl rfl (kI (.inr rk_219) fun r102 s102 h102 =>
 w_if (p' := 18) (q' := 16) f_307_13 rfl rfl
 (fun c110 => w_aload_n (p' := 19) f_307_18 rfl rfl
 (w_iload_n (p' := 20) f_307_19 rfl rfl
 (w_iconst (p' := 21) f_307_20 rfl
 (w_callV (p' := 24) f_307_21 rfl rfl rfl rfl rfl (r := []) rfl rfl (kI (.inl rk_196) fun r103 s103 h103 =>
 w_istore_n (p' := 25) f_307_24 (L' := [some (.inr (.inr (40, k0, i0))), some (.inl x1), some (.inl r103)]) rfl rfl
 (w_aload_n (p' := 26) f_307_25 rfl rfl
 (w_iload_n (p' := 27) f_307_26 rfl rfl
 (w_aload_n (p' := 28) f_307_27 rfl rfl
 (w_iload_n (p' := 29) f_307_28 rfl rfl
 (w_iconst (p' := 30) f_307_29 rfl
 (w_callV (p' := 33) f_307_30 rfl rfl rfl rfl rfl (r := [.inl r103, .inr (.inr (40, k0, i0))]) rfl rfl (kI (.inl rk_196) fun r104 s104 h104 =>
 w_iconst (p' := 34) f_307_33 rfl
 (w_icmp (p' := 46) (q' := 37) f_307_34 rfl rfl
 (fun c109 => w_aload_n (p' := 47) f_307_46 rfl rfl
 (w_iload_n (p' := 48) f_307_47 rfl rfl
 (w_iconst (p' := 49) f_307_48 rfl
 (w_callV (p' := 52) f_307_49 rfl rfl rfl rfl rfl (r := [.inl r103, .inr (.inr (40, k0, i0))]) rfl rfl (kI (.inl rk_196) fun r105 s105 h105 =>
 w_callV (p' := 55) f_307_52 rfl rfl rfl rfl rfl (r := []) rfl rfl (kI (.inl rk_221) fun r106 s106 h106 =>
 w_iret f_307_55 rk_307 h106) h105) (h104.1 c109)))))
 (fun c109 => w_aload_n (p' := 38) f_307_37 rfl rfl
 (w_iload_n (p' := 39) f_307_38 rfl rfl
 (w_iconst (p' := 40) f_307_39 rfl
 (w_callV (p' := 43) f_307_40 rfl rfl rfl rfl rfl (r := [.inl r103, .inr (.inr (40, k0, i0))]) rfl rfl (kI (.inl rk_198) fun r107 s107 h107 =>
 w_goto (p' := 52) f_307_43 rfl
 (w_callV (p' := 55) f_307_52 rfl rfl rfl rfl rfl (r := []) rfl rfl (kI (.inl rk_221) fun r108 s108 h108 =>
 w_iret f_307_55 rk_307 h108) h107)) (h104.2 c109))))))) h103))))))) (h102.1 c110)))))
 (fun c110 => w_iconst (p' := 17) f_307_16 rfl
 (w_iret f_307_17 rk_307 (h102.2 c110)))) (h101.2 c111))))) h)))
/-! ClosedRoomsModel.leaks(I)I -/
theorem f_308_0 : fnd 308 0 = some (0, .aload_n 0, 1, 0, 0, 0, 0) := ceB_eq (by decide +kernel)
theorem f_308_1 : fnd 308 1 = some (1, .iload_n 1, 1, 0, 0, 0, 0) := ceB_eq (by decide +kernel)
theorem f_308_2 : fnd 308 2 = some (2, .invokevirtual 252, 3, 201, 2, 10, 0) := ceB_eq (by decide +kernel)
theorem f_308_5 : fnd 308 5 = some (5, .ifCond .ne 5, 3, 0, 0, 0, 0) := ceB_eq (by decide +kernel)
theorem f_308_8 : fnd 308 8 = some (8, .iconst (-1), 1, 0, 0, 0, 0) := ceB_eq (by decide +kernel)
theorem f_308_9 : fnd 308 9 = some (9, .ireturn, 1, 0, 0, 0, 0) := ceB_eq (by decide +kernel)
theorem f_308_10 : fnd 308 10 = some (10, .iconst 0, 1, 0, 0, 0, 0) := ceB_eq (by decide +kernel)
theorem f_308_11 : fnd 308 11 = some (11, .istore_n 2, 1, 0, 0, 0, 0) := ceB_eq (by decide +kernel)
theorem f_308_12 : fnd 308 12 = some (12, .iconst 0, 1, 0, 0, 0, 0) := ceB_eq (by decide +kernel)
theorem f_308_13 : fnd 308 13 = some (13, .istore_n 3, 1, 0, 0, 0, 0) := ceB_eq (by decide +kernel)
theorem f_308_14 : fnd 308 14 = some (14, .iload_n 3, 1, 0, 0, 0, 0) := ceB_eq (by decide +kernel)
theorem f_308_15 : fnd 308 15 = some (15, .aload_n 0, 1, 0, 0, 0, 0) := ceB_eq (by decide +kernel)
theorem f_308_16 : fnd 308 16 = some (16, .getfield 16, 3, 10, 10, 10, 0) := ceB_eq (by decide +kernel)
theorem f_308_19 : fnd 308 19 = some (19, .iconst 1, 1, 0, 0, 0, 0) := ceB_eq (by decide +kernel)
theorem f_308_20 : fnd 308 20 = some (20, .iaload, 1, 0, 0, 0, 0) := ceB_eq (by decide +kernel)
theorem f_308_21 : fnd 308 21 = some (21, .if_icmp .ge 81, 3, 0, 0, 0, 0) := ceB_eq (by decide +kernel)
theorem f_308_24 : fnd 308 24 = some (24, .iconst 0, 1, 0, 0, 0, 0) := ceB_eq (by decide +kernel)
theorem f_308_25 : fnd 308 25 = some (25, .istore 4, 2, 0, 0, 0, 0) := ceB_eq (by decide +kernel)
theorem f_308_27 : fnd 308 27 = some (27, .iload 4, 2, 0, 0, 0, 0) := ceB_eq (by decide +kernel)
theorem f_308_29 : fnd 308 29 = some (29, .aload_n 0, 1, 0, 0, 0, 0) := ceB_eq (by decide +kernel)
theorem f_308_30 : fnd 308 30 = some (30, .iload_n 3, 1, 0, 0, 0, 0) := ceB_eq (by decide +kernel)
theorem f_308_31 : fnd 308 31 = some (31, .iconst 4, 1, 0, 0, 0, 0) := ceB_eq (by decide +kernel)
theorem f_308_32 : fnd 308 32 = some (32, .invokevirtual 212, 3, 208, 3, 10, 0) := ceB_eq (by decide +kernel)
theorem f_308_35 : fnd 308 35 = some (35, .if_icmp .ge 61, 3, 0, 0, 0, 0) := ceB_eq (by decide +kernel)
theorem f_308_38 : fnd 308 38 = some (38, .aload_n 0, 1, 0, 0, 0, 0) := ceB_eq (by decide +kernel)
theorem f_308_39 : fnd 308 39 = some (39, .iload_n 3, 1, 0, 0, 0, 0) := ceB_eq (by decide +kernel)
theorem f_308_40 : fnd 308 40 = some (40, .iconst 1, 1, 0, 0, 0, 0) := ceB_eq (by decide +kernel)
theorem f_308_41 : fnd 308 41 = some (41, .invokevirtual 212, 3, 208, 3, 10, 0) := ceB_eq (by decide +kernel)
theorem f_308_44 : fnd 308 44 = some (44, .iload_n 1, 1, 0, 0, 0, 0) := ceB_eq (by decide +kernel)
theorem f_308_45 : fnd 308 45 = some (45, .if_icmp .ne 51, 3, 0, 0, 0, 0) := ceB_eq (by decide +kernel)
theorem f_308_48 : fnd 308 48 = some (48, .iload_n 2, 1, 0, 0, 0, 0) := ceB_eq (by decide +kernel)
theorem f_308_49 : fnd 308 49 = some (49, .aload_n 0, 1, 0, 0, 0, 0) := ceB_eq (by decide +kernel)
theorem f_308_50 : fnd 308 50 = some (50, .aload_n 0, 1, 0, 0, 0, 0) := ceB_eq (by decide +kernel)
theorem f_308_51 : fnd 308 51 = some (51, .iload_n 3, 1, 0, 0, 0, 0) := ceB_eq (by decide +kernel)
theorem f_308_52 : fnd 308 52 = some (52, .iconst 5, 1, 0, 0, 0, 0) := ceB_eq (by decide +kernel)
theorem f_308_53 : fnd 308 53 = some (53, .iconst 2, 1, 0, 0, 0, 0) := ceB_eq (by decide +kernel)
theorem f_308_54 : fnd 308 54 = some (54, .iload 4, 2, 0, 0, 0, 0) := ceB_eq (by decide +kernel)
theorem f_308_56 : fnd 308 56 = some (56, .imul, 1, 0, 0, 0, 0) := ceB_eq (by decide +kernel)
theorem f_308_57 : fnd 308 57 = some (57, .iadd, 1, 0, 0, 0, 0) := ceB_eq (by decide +kernel)
theorem f_308_58 : fnd 308 58 = some (58, .iconst 1, 1, 0, 0, 0, 0) := ceB_eq (by decide +kernel)
theorem f_308_59 : fnd 308 59 = some (59, .iadd, 1, 0, 0, 0, 0) := ceB_eq (by decide +kernel)
theorem f_308_60 : fnd 308 60 = some (60, .invokevirtual 212, 3, 208, 3, 10, 0) := ceB_eq (by decide +kernel)
theorem f_308_63 : fnd 308 63 = some (63, .iconst 5, 1, 0, 0, 0, 0) := ceB_eq (by decide +kernel)
theorem f_308_64 : fnd 308 64 = some (64, .invokevirtual 206, 3, 196, 3, 10, 0) := ceB_eq (by decide +kernel)
theorem f_308_67 : fnd 308 67 = some (67, .iconst (-1), 1, 0, 0, 0, 0) := ceB_eq (by decide +kernel)
theorem f_308_68 : fnd 308 68 = some (68, .if_icmp .eq 19, 3, 0, 0, 0, 0) := ceB_eq (by decide +kernel)
theorem f_308_71 : fnd 308 71 = some (71, .iconst 1, 1, 0, 0, 0, 0) := ceB_eq (by decide +kernel)
theorem f_308_72 : fnd 308 72 = some (72, .aload_n 0, 1, 0, 0, 0, 0) := ceB_eq (by decide +kernel)
theorem f_308_73 : fnd 308 73 = some (73, .iload_n 3, 1, 0, 0, 0, 0) := ceB_eq (by decide +kernel)
theorem f_308_74 : fnd 308 74 = some (74, .iconst 5, 1, 0, 0, 0, 0) := ceB_eq (by decide +kernel)
theorem f_308_75 : fnd 308 75 = some (75, .iconst 2, 1, 0, 0, 0, 0) := ceB_eq (by decide +kernel)
theorem f_308_76 : fnd 308 76 = some (76, .iload 4, 2, 0, 0, 0, 0) := ceB_eq (by decide +kernel)
theorem f_308_78 : fnd 308 78 = some (78, .imul, 1, 0, 0, 0, 0) := ceB_eq (by decide +kernel)
theorem f_308_79 : fnd 308 79 = some (79, .iadd, 1, 0, 0, 0, 0) := ceB_eq (by decide +kernel)
theorem f_308_80 : fnd 308 80 = some (80, .invokevirtual 212, 3, 208, 3, 10, 0) := ceB_eq (by decide +kernel)
theorem f_308_83 : fnd 308 83 = some (83, .ishl, 1, 0, 0, 0, 0) := ceB_eq (by decide +kernel)
theorem f_308_84 : fnd 308 84 = some (84, .goto 4, 3, 0, 0, 0, 0) := ceB_eq (by decide +kernel)
theorem f_308_87 : fnd 308 87 = some (87, .iconst 0, 1, 0, 0, 0, 0) := ceB_eq (by decide +kernel)
theorem f_308_88 : fnd 308 88 = some (88, .ior, 1, 0, 0, 0, 0) := ceB_eq (by decide +kernel)
theorem f_308_89 : fnd 308 89 = some (89, .istore_n 2, 1, 0, 0, 0, 0) := ceB_eq (by decide +kernel)
theorem f_308_90 : fnd 308 90 = some (90, .iinc 4 1, 3, 0, 0, 0, 0) := ceB_eq (by decide +kernel)
theorem f_308_93 : fnd 308 93 = some (93, .goto (-66), 3, 0, 0, 0, 0) := ceB_eq (by decide +kernel)
theorem f_308_96 : fnd 308 96 = some (96, .iinc 3 1, 3, 0, 0, 0, 0) := ceB_eq (by decide +kernel)
theorem f_308_99 : fnd 308 99 = some (99, .goto (-85), 3, 0, 0, 0, 0) := ceB_eq (by decide +kernel)
theorem f_308_102 : fnd 308 102 = some (102, .iload_n 2, 1, 0, 0, 0, 0) := ceB_eq (by decide +kernel)
theorem f_308_103 : fnd 308 103 = some (103, .ireturn, 1, 0, 0, 0, 0) := ceB_eq (by decide +kernel)
theorem rk_308 : rkm 308 = 0 := by decide +kernel
theorem ml_308 : (mth 308).2.1 = 5 := by decide +kernel
set_option maxRecDepth 100000 in
theorem T_Z_leaks (k0 i0 x1 : Int) (σ : ST) (Q : Option AV → ST → Prop) (h :
  wpM m_Z_isRoom [.inr (.inr (40, k0, i0)), .inl x1] σ (asI fun r101 s101 =>
  (((r101 ≠ 0 : Prop) →
    wp m_Z_leaks (14, [some (.inr (.inr (40, k0, i0))), some (.inl x1), some (.inl 0), some (.inl 0), none], [], s101) Q) ∧
  (¬ (r101 ≠ 0) →
    Q (some (.inl (-1))) s101)))) :
  wpM m_Z_leaks [.inr (.inr (40, k0, i0)), .inl x1] σ Q :=
 wpM_of ml_308 (L := [some (.inr (.inr (40, k0, i0))), some (.inl x1), none, none, none]) rfl
 (w_aload_n (p' := 1) f_308_0 rfl rfl
 (w_iload_n (p' := 2) f_308_1 rfl rfl
 (w_callV (p' := 5) f_308_2 rfl rfl rfl rfl rfl (r := []) rfl rfl (kI (.inr rk_201) fun r101 s101 h101 =>
 w_if (p' := 10) (q' := 8) f_308_5 rfl rfl
 (fun c102 => w_iconst (p' := 11) f_308_10 rfl
 (w_istore_n (p' := 12) f_308_11 (L' := [some (.inr (.inr (40, k0, i0))), some (.inl x1), some (.inl 0), none, none]) rfl rfl
 (w_iconst (p' := 13) f_308_12 rfl
 (w_istore_n (p' := 14) f_308_13 (L' := [some (.inr (.inr (40, k0, i0))), some (.inl x1), some (.inl 0), some (.inl 0), none]) rfl rfl
 ((h101.1 c102))))))
 (fun c102 => w_iconst (p' := 9) f_308_8 rfl
 (w_iret f_308_9 rk_308 (h101.2 c102)))) h)))
set_option maxRecDepth 100000 in
theorem T_Z_leaks_14 (k0 i0 x1 x2 x3 : Int) (o4 : Option AV) (σ : ST) (Q : Option AV → ST → Prop) (h :
  ((0 : Int) ≤ 1 ∧ (1 : Int) < 4) ∧
  ((((σ 43 0 0 1) ≤ x3 : Prop) →
    Q (some (.inl x2)) σ) ∧
  (¬ ((σ 43 0 0 1) ≤ x3) →
    wp m_Z_leaks (27, [some (.inr (.inr (40, k0, i0))), some (.inl x1), some (.inl x2), some (.inl x3), some (.inl 0)], [], σ) Q))) :
  wp m_Z_leaks (14, [some (.inr (.inr (40, k0, i0))), some (.inl x1), some (.inl x2), some (.inl x3), o4], [], σ) Q :=
 w_iload_n (p' := 15) f_308_14 rfl rfl
 (w_aload_n (p' := 16) f_308_15 rfl rfl
 (w_getfield (p' := 19) f_308_16 rfl (x := .inr (.inr (43, 0, 0))) rfl rfl
 (w_iconst (p' := 20) f_308_19 rfl
 (w_iaload (p' := 21) f_308_20 rfl (n := 4) rfl h.1 rfl
 (w_icmp (p' := 102) (q' := 24) f_308_21 rfl rfl
 (fun c101 => w_iload_n (p' := 103) f_308_102 rfl rfl
 (w_iret f_308_103 rk_308 (h.2.1 c101)))
 (fun c101 => w_iconst (p' := 25) f_308_24 rfl
 (w_istore (p' := 27) f_308_25 (L' := [some (.inr (.inr (40, k0, i0))), some (.inl x1), some (.inl x2), some (.inl x3), some (.inl 0)]) rfl rfl
 ((h.2.2 c101)))))))))
set_option maxRecDepth 100000 in
theorem T_Z_leaks_27 (k0 i0 x1 x2 x3 x4 : Int) (σ : ST) (Q : Option AV → ST → Prop) (h :
  wpM m_Z_ofCore [.inr (.inr (40, k0, i0)), .inl x3, .inl 4] σ (asI fun r101 s101 =>
  (((r101 ≤ x4 : Prop) →
    wp m_Z_leaks (14, [some (.inr (.inr (40, k0, i0))), some (.inl x1), some (.inl x2), some (.inl (wr (x3 + 1))), some (.inl x4)], [], s101) Q) ∧
  (¬ (r101 ≤ x4) →
    wpM m_Z_ofCore [.inr (.inr (40, k0, i0)), .inl x3, .inl 1] s101 (asI fun r102 s102 =>
    (((r102 ≠ x1 : Prop) →
      wp m_Z_leaks (14, [some (.inr (.inr (40, k0, i0))), some (.inl x1), some (.inl x2), some (.inl (wr (x3 + 1))), some (.inl x4)], [], s102) Q) ∧
    (¬ (r102 ≠ x1) →
      wpM m_Z_ofCore [.inr (.inr (40, k0, i0)), .inl x3, .inl (wr ((wr (5 + (wr (2 * x4)))) + 1))] s102 (asI fun r103 s103 =>
      wpM m_Z_ofPage [.inr (.inr (40, k0, i0)), .inl r103, .inl 5] s103 (asI fun r104 s104 =>
      (((r104 = (-1) : Prop) →
        wp m_Z_leaks (27, [some (.inr (.inr (40, k0, i0))), some (.inl x1), some (.inl (i_or x2 0)), some (.inl x3), some (.inl (wr (x4 + 1)))], [], s104) Q) ∧
      (¬ (r104 = (-1)) →
        wpM m_Z_ofCore [.inr (.inr (40, k0, i0)), .inl x3, .inl (wr (5 + (wr (2 * x4))))] s104 (asI fun r105 s105 =>
        wp m_Z_leaks (27, [some (.inr (.inr (40, k0, i0))), some (.inl x1), some (.inl (i_or x2 (i_shl 1 r105))), some (.inl x3), some (.inl (wr (x4 + 1)))], [], s105) Q)))))))))))) :
  wp m_Z_leaks (27, [some (.inr (.inr (40, k0, i0))), some (.inl x1), some (.inl x2), some (.inl x3), some (.inl x4)], [], σ) Q :=
 w_iload (p' := 29) f_308_27 rfl rfl
 (w_aload_n (p' := 30) f_308_29 rfl rfl
 (w_iload_n (p' := 31) f_308_30 rfl rfl
 (w_iconst (p' := 32) f_308_31 rfl
 (w_callV (p' := 35) f_308_32 rfl rfl rfl rfl rfl (r := [.inl x4]) rfl rfl (kI (.inl rk_208) fun r101 s101 h101 =>
 w_icmp (p' := 96) (q' := 38) f_308_35 rfl rfl
 (fun c108 => w_iinc (p' := 99) f_308_96 rfl (L' := [some (.inr (.inr (40, k0, i0))), some (.inl x1), some (.inl x2), some (.inl (wr (x3 + 1))), some (.inl x4)]) rfl rfl
 (w_goto (p' := 14) f_308_99 rfl
 ((h101.1 c108))))
 (fun c108 => w_aload_n (p' := 39) f_308_38 rfl rfl
 (w_iload_n (p' := 40) f_308_39 rfl rfl
 (w_iconst (p' := 41) f_308_40 rfl
 (w_callV (p' := 44) f_308_41 rfl rfl rfl rfl rfl (r := []) rfl rfl (kI (.inl rk_208) fun r102 s102 h102 =>
 w_iload_n (p' := 45) f_308_44 rfl rfl
 (w_icmp (p' := 96) (q' := 48) f_308_45 rfl rfl
 (fun c107 => w_iinc (p' := 99) f_308_96 rfl (L' := [some (.inr (.inr (40, k0, i0))), some (.inl x1), some (.inl x2), some (.inl (wr (x3 + 1))), some (.inl x4)]) rfl rfl
 (w_goto (p' := 14) f_308_99 rfl
 ((h102.1 c107))))
 (fun c107 => w_iload_n (p' := 49) f_308_48 rfl rfl
 (w_aload_n (p' := 50) f_308_49 rfl rfl
 (w_aload_n (p' := 51) f_308_50 rfl rfl
 (w_iload_n (p' := 52) f_308_51 rfl rfl
 (w_iconst (p' := 53) f_308_52 rfl
 (w_iconst (p' := 54) f_308_53 rfl
 (w_iload (p' := 56) f_308_54 rfl rfl
 (w_imul (p' := 57) f_308_56 rfl
 (w_iadd (p' := 58) f_308_57 rfl
 (w_iconst (p' := 59) f_308_58 rfl
 (w_iadd (p' := 60) f_308_59 rfl
 (w_callV (p' := 63) f_308_60 rfl rfl rfl rfl rfl (r := [.inr (.inr (40, k0, i0)), .inl x2]) rfl rfl (kI (.inl rk_208) fun r103 s103 h103 =>
 w_iconst (p' := 64) f_308_63 rfl
 (w_callV (p' := 67) f_308_64 rfl rfl rfl rfl rfl (r := [.inl x2]) rfl rfl (kI (.inl rk_196) fun r104 s104 h104 =>
 w_iconst (p' := 68) f_308_67 rfl
 (w_icmp (p' := 87) (q' := 71) f_308_68 rfl rfl
 (fun c106 => w_iconst (p' := 88) f_308_87 rfl
 (w_ior (p' := 89) f_308_88 rfl
 (w_istore_n (p' := 90) f_308_89 (L' := [some (.inr (.inr (40, k0, i0))), some (.inl x1), some (.inl (i_or x2 0)), some (.inl x3), some (.inl x4)]) rfl rfl
 (w_iinc (p' := 93) f_308_90 rfl (L' := [some (.inr (.inr (40, k0, i0))), some (.inl x1), some (.inl (i_or x2 0)), some (.inl x3), some (.inl (wr (x4 + 1)))]) rfl rfl
 (w_goto (p' := 27) f_308_93 rfl
 ((h104.1 c106)))))))
 (fun c106 => w_iconst (p' := 72) f_308_71 rfl
 (w_aload_n (p' := 73) f_308_72 rfl rfl
 (w_iload_n (p' := 74) f_308_73 rfl rfl
 (w_iconst (p' := 75) f_308_74 rfl
 (w_iconst (p' := 76) f_308_75 rfl
 (w_iload (p' := 78) f_308_76 rfl rfl
 (w_imul (p' := 79) f_308_78 rfl
 (w_iadd (p' := 80) f_308_79 rfl
 (w_callV (p' := 83) f_308_80 rfl rfl rfl rfl rfl (r := [.inl 1, .inl x2]) rfl rfl (kI (.inl rk_208) fun r105 s105 h105 =>
 w_ishl (p' := 84) f_308_83 rfl
 (w_goto (p' := 88) f_308_84 rfl
 (w_ior (p' := 89) f_308_88 rfl
 (w_istore_n (p' := 90) f_308_89 (L' := [some (.inr (.inr (40, k0, i0))), some (.inl x1), some (.inl (i_or x2 (i_shl 1 r105))), some (.inl x3), some (.inl x4)]) rfl rfl
 (w_iinc (p' := 93) f_308_90 rfl (L' := [some (.inr (.inr (40, k0, i0))), some (.inl x1), some (.inl (i_or x2 (i_shl 1 r105))), some (.inl x3), some (.inl (wr (x4 + 1)))]) rfl rfl
 (w_goto (p' := 27) f_308_93 rfl
 (h105))))))) (h104.2 c106)))))))))))) h103)) (h102.2 c107))))))))))))))) (h101.2 c108)))))) h))))
/-! ClosedRoomsModel.lies(I)I -/
theorem f_309_0 : fnd 309 0 = some (0, .aload_n 0, 1, 0, 0, 0, 0) := ceB_eq (by decide +kernel)
theorem f_309_1 : fnd 309 1 = some (1, .iload_n 1, 1, 0, 0, 0, 0) := ceB_eq (by decide +kernel)
theorem f_309_2 : fnd 309 2 = some (2, .invokevirtual 252, 3, 201, 2, 10, 0) := ceB_eq (by decide +kernel)
theorem f_309_5 : fnd 309 5 = some (5, .ifCond .ne 5, 3, 0, 0, 0, 0) := ceB_eq (by decide +kernel)
theorem f_309_8 : fnd 309 8 = some (8, .iconst (-1), 1, 0, 0, 0, 0) := ceB_eq (by decide +kernel)
theorem f_309_9 : fnd 309 9 = some (9, .ireturn, 1, 0, 0, 0, 0) := ceB_eq (by decide +kernel)
theorem f_309_10 : fnd 309 10 = some (10, .iconst 0, 1, 0, 0, 0, 0) := ceB_eq (by decide +kernel)
theorem f_309_11 : fnd 309 11 = some (11, .istore_n 2, 1, 0, 0, 0, 0) := ceB_eq (by decide +kernel)
theorem f_309_12 : fnd 309 12 = some (12, .iconst 0, 1, 0, 0, 0, 0) := ceB_eq (by decide +kernel)
theorem f_309_13 : fnd 309 13 = some (13, .istore_n 3, 1, 0, 0, 0, 0) := ceB_eq (by decide +kernel)
theorem f_309_14 : fnd 309 14 = some (14, .iload_n 3, 1, 0, 0, 0, 0) := ceB_eq (by decide +kernel)
theorem f_309_15 : fnd 309 15 = some (15, .aload_n 0, 1, 0, 0, 0, 0) := ceB_eq (by decide +kernel)
theorem f_309_16 : fnd 309 16 = some (16, .iload_n 1, 1, 0, 0, 0, 0) := ceB_eq (by decide +kernel)
theorem f_309_17 : fnd 309 17 = some (17, .iconst 2, 1, 0, 0, 0, 0) := ceB_eq (by decide +kernel)
theorem f_309_18 : fnd 309 18 = some (18, .invokevirtual 209, 3, 198, 3, 10, 0) := ceB_eq (by decide +kernel)
theorem f_309_21 : fnd 309 21 = some (21, .if_icmp .ge 44, 3, 0, 0, 0, 0) := ceB_eq (by decide +kernel)
theorem f_309_24 : fnd 309 24 = some (24, .iload_n 2, 1, 0, 0, 0, 0) := ceB_eq (by decide +kernel)
theorem f_309_25 : fnd 309 25 = some (25, .aload_n 0, 1, 0, 0, 0, 0) := ceB_eq (by decide +kernel)
theorem f_309_26 : fnd 309 26 = some (26, .iload_n 1, 1, 0, 0, 0, 0) := ceB_eq (by decide +kernel)
theorem f_309_27 : fnd 309 27 = some (27, .iload_n 3, 1, 0, 0, 0, 0) := ceB_eq (by decide +kernel)
theorem f_309_28 : fnd 309 28 = some (28, .invokevirtual 267, 3, 210, 3, 10, 0) := ceB_eq (by decide +kernel)
theorem f_309_31 : fnd 309 31 = some (31, .iconst (-1), 1, 0, 0, 0, 0) := ceB_eq (by decide +kernel)
theorem f_309_32 : fnd 309 32 = some (32, .if_icmp .eq 24, 3, 0, 0, 0, 0) := ceB_eq (by decide +kernel)
theorem f_309_35 : fnd 309 35 = some (35, .aload_n 0, 1, 0, 0, 0, 0) := ceB_eq (by decide +kernel)
theorem f_309_36 : fnd 309 36 = some (36, .aload_n 0, 1, 0, 0, 0, 0) := ceB_eq (by decide +kernel)
theorem f_309_37 : fnd 309 37 = some (37, .iload_n 1, 1, 0, 0, 0, 0) := ceB_eq (by decide +kernel)
theorem f_309_38 : fnd 309 38 = some (38, .iload_n 3, 1, 0, 0, 0, 0) := ceB_eq (by decide +kernel)
theorem f_309_39 : fnd 309 39 = some (39, .invokevirtual 267, 3, 210, 3, 10, 0) := ceB_eq (by decide +kernel)
theorem f_309_42 : fnd 309 42 = some (42, .iload_n 1, 1, 0, 0, 0, 0) := ceB_eq (by decide +kernel)
theorem f_309_43 : fnd 309 43 = some (43, .iload_n 3, 1, 0, 0, 0, 0) := ceB_eq (by decide +kernel)
theorem f_309_44 : fnd 309 44 = some (44, .invokevirtual 243, 3, 212, 4, 10, 0) := ceB_eq (by decide +kernel)
theorem f_309_47 : fnd 309 47 = some (47, .ifCond .ne 9, 3, 0, 0, 0, 0) := ceB_eq (by decide +kernel)
theorem f_309_50 : fnd 309 50 = some (50, .iconst 1, 1, 0, 0, 0, 0) := ceB_eq (by decide +kernel)
theorem f_309_51 : fnd 309 51 = some (51, .iload_n 3, 1, 0, 0, 0, 0) := ceB_eq (by decide +kernel)
theorem f_309_52 : fnd 309 52 = some (52, .ishl, 1, 0, 0, 0, 0) := ceB_eq (by decide +kernel)
theorem f_309_53 : fnd 309 53 = some (53, .goto 4, 3, 0, 0, 0, 0) := ceB_eq (by decide +kernel)
theorem f_309_56 : fnd 309 56 = some (56, .iconst 0, 1, 0, 0, 0, 0) := ceB_eq (by decide +kernel)
theorem f_309_57 : fnd 309 57 = some (57, .ior, 1, 0, 0, 0, 0) := ceB_eq (by decide +kernel)
theorem f_309_58 : fnd 309 58 = some (58, .istore_n 2, 1, 0, 0, 0, 0) := ceB_eq (by decide +kernel)
theorem f_309_59 : fnd 309 59 = some (59, .iinc 3 1, 3, 0, 0, 0, 0) := ceB_eq (by decide +kernel)
theorem f_309_62 : fnd 309 62 = some (62, .goto (-48), 3, 0, 0, 0, 0) := ceB_eq (by decide +kernel)
theorem f_309_65 : fnd 309 65 = some (65, .iload_n 2, 1, 0, 0, 0, 0) := ceB_eq (by decide +kernel)
theorem f_309_66 : fnd 309 66 = some (66, .ireturn, 1, 0, 0, 0, 0) := ceB_eq (by decide +kernel)
theorem rk_309 : rkm 309 = 0 := by decide +kernel
theorem ml_309 : (mth 309).2.1 = 4 := by decide +kernel
set_option maxRecDepth 100000 in
theorem T_Z_lies (k0 i0 x1 : Int) (σ : ST) (Q : Option AV → ST → Prop) (h :
  wpM m_Z_isRoom [.inr (.inr (40, k0, i0)), .inl x1] σ (asI fun r101 s101 =>
  (((r101 ≠ 0 : Prop) →
    wp m_Z_lies (14, [some (.inr (.inr (40, k0, i0))), some (.inl x1), some (.inl 0), some (.inl 0)], [], s101) Q) ∧
  (¬ (r101 ≠ 0) →
    Q (some (.inl (-1))) s101)))) :
  wpM m_Z_lies [.inr (.inr (40, k0, i0)), .inl x1] σ Q :=
 wpM_of ml_309 (L := [some (.inr (.inr (40, k0, i0))), some (.inl x1), none, none]) rfl
 (w_aload_n (p' := 1) f_309_0 rfl rfl
 (w_iload_n (p' := 2) f_309_1 rfl rfl
 (w_callV (p' := 5) f_309_2 rfl rfl rfl rfl rfl (r := []) rfl rfl (kI (.inr rk_201) fun r101 s101 h101 =>
 w_if (p' := 10) (q' := 8) f_309_5 rfl rfl
 (fun c102 => w_iconst (p' := 11) f_309_10 rfl
 (w_istore_n (p' := 12) f_309_11 (L' := [some (.inr (.inr (40, k0, i0))), some (.inl x1), some (.inl 0), none]) rfl rfl
 (w_iconst (p' := 13) f_309_12 rfl
 (w_istore_n (p' := 14) f_309_13 (L' := [some (.inr (.inr (40, k0, i0))), some (.inl x1), some (.inl 0), some (.inl 0)]) rfl rfl
 ((h101.1 c102))))))
 (fun c102 => w_iconst (p' := 9) f_309_8 rfl
 (w_iret f_309_9 rk_309 (h101.2 c102)))) h)))
set_option maxRecDepth 100000 in
theorem T_Z_lies_14 (k0 i0 x1 x2 x3 : Int) (σ : ST) (Q : Option AV → ST → Prop) (h :
  wpM m_Z_ofRoom [.inr (.inr (40, k0, i0)), .inl x1, .inl 2] σ (asI fun r101 s101 =>
  (((r101 ≤ x3 : Prop) →
    Q (some (.inl x2)) s101) ∧
  (¬ (r101 ≤ x3) →
    wpM m_Z_mapOf [.inr (.inr (40, k0, i0)), .inl x1, .inl x3] s101 (asI fun r102 s102 =>
    (((r102 = (-1) : Prop) →
      wp m_Z_lies (14, [some (.inr (.inr (40, k0, i0))), some (.inl x1), some (.inl (i_or x2 0)), some (.inl (wr (x3 + 1)))], [], s102) Q) ∧
    (¬ (r102 = (-1)) →
      wpM m_Z_mapOf [.inr (.inr (40, k0, i0)), .inl x1, .inl x3] s102 (asI fun r103 s103 =>
      wpM m_Z_isPageOf [.inr (.inr (40, k0, i0)), .inl r103, .inl x1, .inl x3] s103 (asI fun r104 s104 =>
      (((r104 ≠ 0 : Prop) →
        wp m_Z_lies (14, [some (.inr (.inr (40, k0, i0))), some (.inl x1), some (.inl (i_or x2 0)), some (.inl (wr (x3 + 1)))], [], s104) Q) ∧
      (¬ (r104 ≠ 0) →
        wp m_Z_lies (14, [some (.inr (.inr (40, k0, i0))), some (.inl x1), some (.inl (i_or x2 (i_shl 1 x3))), some (.inl (wr (x3 + 1)))], [], s104) Q))))))))))) :
  wp m_Z_lies (14, [some (.inr (.inr (40, k0, i0))), some (.inl x1), some (.inl x2), some (.inl x3)], [], σ) Q :=
 w_iload_n (p' := 15) f_309_14 rfl rfl
 (w_aload_n (p' := 16) f_309_15 rfl rfl
 (w_iload_n (p' := 17) f_309_16 rfl rfl
 (w_iconst (p' := 18) f_309_17 rfl
 (w_callV (p' := 21) f_309_18 rfl rfl rfl rfl rfl (r := [.inl x3]) rfl rfl (kI (.inl rk_198) fun r101 s101 h101 =>
 w_icmp (p' := 65) (q' := 24) f_309_21 rfl rfl
 (fun c107 => w_iload_n (p' := 66) f_309_65 rfl rfl
 (w_iret f_309_66 rk_309 (h101.1 c107)))
 (fun c107 => w_iload_n (p' := 25) f_309_24 rfl rfl
 (w_aload_n (p' := 26) f_309_25 rfl rfl
 (w_iload_n (p' := 27) f_309_26 rfl rfl
 (w_iload_n (p' := 28) f_309_27 rfl rfl
 (w_callV (p' := 31) f_309_28 rfl rfl rfl rfl rfl (r := [.inl x2]) rfl rfl (kI (.inl rk_210) fun r102 s102 h102 =>
 w_iconst (p' := 32) f_309_31 rfl
 (w_icmp (p' := 56) (q' := 35) f_309_32 rfl rfl
 (fun c106 => w_iconst (p' := 57) f_309_56 rfl
 (w_ior (p' := 58) f_309_57 rfl
 (w_istore_n (p' := 59) f_309_58 (L' := [some (.inr (.inr (40, k0, i0))), some (.inl x1), some (.inl (i_or x2 0)), some (.inl x3)]) rfl rfl
 (w_iinc (p' := 62) f_309_59 rfl (L' := [some (.inr (.inr (40, k0, i0))), some (.inl x1), some (.inl (i_or x2 0)), some (.inl (wr (x3 + 1)))]) rfl rfl
 (w_goto (p' := 14) f_309_62 rfl
 ((h102.1 c106)))))))
 (fun c106 => w_aload_n (p' := 36) f_309_35 rfl rfl
 (w_aload_n (p' := 37) f_309_36 rfl rfl
 (w_iload_n (p' := 38) f_309_37 rfl rfl
 (w_iload_n (p' := 39) f_309_38 rfl rfl
 (w_callV (p' := 42) f_309_39 rfl rfl rfl rfl rfl (r := [.inr (.inr (40, k0, i0)), .inl x2]) rfl rfl (kI (.inl rk_210) fun r103 s103 h103 =>
 w_iload_n (p' := 43) f_309_42 rfl rfl
 (w_iload_n (p' := 44) f_309_43 rfl rfl
 (w_callV (p' := 47) f_309_44 rfl rfl rfl rfl rfl (r := [.inl x2]) rfl rfl (kI (.inr rk_212) fun r104 s104 h104 =>
 w_if (p' := 56) (q' := 50) f_309_47 rfl rfl
 (fun c105 => w_iconst (p' := 57) f_309_56 rfl
 (w_ior (p' := 58) f_309_57 rfl
 (w_istore_n (p' := 59) f_309_58 (L' := [some (.inr (.inr (40, k0, i0))), some (.inl x1), some (.inl (i_or x2 0)), some (.inl x3)]) rfl rfl
 (w_iinc (p' := 62) f_309_59 rfl (L' := [some (.inr (.inr (40, k0, i0))), some (.inl x1), some (.inl (i_or x2 0)), some (.inl (wr (x3 + 1)))]) rfl rfl
 (w_goto (p' := 14) f_309_62 rfl
 ((h104.1 c105)))))))
 (fun c105 => w_iconst (p' := 51) f_309_50 rfl
 (w_iload_n (p' := 52) f_309_51 rfl rfl
 (w_ishl (p' := 53) f_309_52 rfl
 (w_goto (p' := 57) f_309_53 rfl
 (w_ior (p' := 58) f_309_57 rfl
 (w_istore_n (p' := 59) f_309_58 (L' := [some (.inr (.inr (40, k0, i0))), some (.inl x1), some (.inl (i_or x2 (i_shl 1 x3))), some (.inl x3)]) rfl rfl
 (w_iinc (p' := 62) f_309_59 rfl (L' := [some (.inr (.inr (40, k0, i0))), some (.inl x1), some (.inl (i_or x2 (i_shl 1 x3))), some (.inl (wr (x3 + 1)))]) rfl rfl
 (w_goto (p' := 14) f_309_62 rfl
 ((h104.2 c105))))))))))) h103))) (h102.2 c106)))))))) (h101.2 c107))))))) h))))
/-! ClosedRoomsModel.rankOf(I)I -/
theorem f_310_0 : fnd 310 0 = some (0, .iload_n 0, 1, 0, 0, 0, 0) := ceB_eq (by decide +kernel)
theorem f_310_1 : fnd 310 1 = some (1, .iconst 2, 1, 0, 0, 0, 0) := ceB_eq (by decide +kernel)
theorem f_310_2 : fnd 310 2 = some (2, .if_icmp .ne 7, 3, 0, 0, 0, 0) := ceB_eq (by decide +kernel)
theorem f_310_5 : fnd 310 5 = some (5, .iconst 0, 1, 0, 0, 0, 0) := ceB_eq (by decide +kernel)
theorem f_310_6 : fnd 310 6 = some (6, .goto 13, 3, 0, 0, 0, 0) := ceB_eq (by decide +kernel)
theorem f_310_9 : fnd 310 9 = some (9, .iload_n 0, 1, 0, 0, 0, 0) := ceB_eq (by decide +kernel)
theorem f_310_10 : fnd 310 10 = some (10, .iconst 3, 1, 0, 0, 0, 0) := ceB_eq (by decide +kernel)
theorem f_310_11 : fnd 310 11 = some (11, .if_icmp .ne 7, 3, 0, 0, 0, 0) := ceB_eq (by decide +kernel)
theorem f_310_14 : fnd 310 14 = some (14, .iconst 1, 1, 0, 0, 0, 0) := ceB_eq (by decide +kernel)
theorem f_310_15 : fnd 310 15 = some (15, .goto 4, 3, 0, 0, 0, 0) := ceB_eq (by decide +kernel)
theorem f_310_18 : fnd 310 18 = some (18, .iconst 2, 1, 0, 0, 0, 0) := ceB_eq (by decide +kernel)
theorem f_310_19 : fnd 310 19 = some (19, .ireturn, 1, 0, 0, 0, 0) := ceB_eq (by decide +kernel)
theorem rk_310 : rkm 310 = 0 := by decide +kernel
theorem ml_310 : (mth 310).2.1 = 1 := by decide +kernel
set_option maxRecDepth 100000 in
theorem T_Z_rankOf (x1 : Int) (σ : ST) (Q : Option AV → ST → Prop) (h :
  (((x1 ≠ 2 : Prop) →
    (((x1 ≠ 3 : Prop) →
      Q (some (.inl 2)) σ) ∧
    (¬ (x1 ≠ 3) →
      Q (some (.inl 1)) σ))) ∧
  (¬ (x1 ≠ 2) →
    Q (some (.inl 0)) σ))) :
  wpM m_Z_rankOf [.inl x1] σ Q :=
 wpM_of ml_310 (L := [some (.inl x1)]) rfl
 (w_iload_n (p' := 1) f_310_0 rfl rfl
 (w_iconst (p' := 2) f_310_1 rfl
 (w_icmp (p' := 9) (q' := 5) f_310_2 rfl rfl
 (fun c102 => w_iload_n (p' := 10) f_310_9 rfl rfl
 (w_iconst (p' := 11) f_310_10 rfl
 (w_icmp (p' := 18) (q' := 14) f_310_11 rfl rfl
 (fun c101 => w_iconst (p' := 19) f_310_18 rfl
 (w_iret f_310_19 rk_310 ((h.1 c102).1 c101)))
 (fun c101 => w_iconst (p' := 15) f_310_14 rfl
 (w_goto (p' := 19) f_310_15 rfl
 (w_iret f_310_19 rk_310 ((h.1 c102).2 c101)))))))
 (fun c102 => w_iconst (p' := 6) f_310_5 rfl
 (w_goto (p' := 19) f_310_6 rfl
 (w_iret f_310_19 rk_310 (h.2 c102)))))))
/-! ClosedRoomsModel.victim()I -/
theorem f_311_0 : fnd 311 0 = some (0, .aload_n 0, 1, 0, 0, 0, 0) := ceB_eq (by decide +kernel)
theorem f_311_1 : fnd 311 1 = some (1, .getfield 199, 3, 10, 11, 11, 0) := ceB_eq (by decide +kernel)
theorem f_311_4 : fnd 311 4 = some (4, .ifCond .ne 5, 3, 0, 0, 0, 0) := ceB_eq (by decide +kernel)
theorem f_311_7 : fnd 311 7 = some (7, .iconst (-1), 1, 0, 0, 0, 0) := ceB_eq (by decide +kernel)
theorem f_311_8 : fnd 311 8 = some (8, .ireturn, 1, 0, 0, 0, 0) := ceB_eq (by decide +kernel)
theorem f_311_9 : fnd 311 9 = some (9, .iconst (-1), 1, 0, 0, 0, 0) := ceB_eq (by decide +kernel)
theorem f_311_10 : fnd 311 10 = some (10, .istore_n 1, 1, 0, 0, 0, 0) := ceB_eq (by decide +kernel)
theorem f_311_11 : fnd 311 11 = some (11, .iconst 0, 1, 0, 0, 0, 0) := ceB_eq (by decide +kernel)
theorem f_311_12 : fnd 311 12 = some (12, .istore_n 2, 1, 0, 0, 0, 0) := ceB_eq (by decide +kernel)
theorem f_311_13 : fnd 311 13 = some (13, .iload_n 2, 1, 0, 0, 0, 0) := ceB_eq (by decide +kernel)
theorem f_311_14 : fnd 311 14 = some (14, .aload_n 0, 1, 0, 0, 0, 0) := ceB_eq (by decide +kernel)
theorem f_311_15 : fnd 311 15 = some (15, .getfield 16, 3, 10, 10, 10, 0) := ceB_eq (by decide +kernel)
theorem f_311_18 : fnd 311 18 = some (18, .iconst 0, 1, 0, 0, 0, 0) := ceB_eq (by decide +kernel)
theorem f_311_19 : fnd 311 19 = some (19, .iaload, 1, 0, 0, 0, 0) := ceB_eq (by decide +kernel)
theorem f_311_20 : fnd 311 20 = some (20, .if_icmp .ge 57, 3, 0, 0, 0, 0) := ceB_eq (by decide +kernel)
theorem f_311_23 : fnd 311 23 = some (23, .aload_n 0, 1, 0, 0, 0, 0) := ceB_eq (by decide +kernel)
theorem f_311_24 : fnd 311 24 = some (24, .iload_n 2, 1, 0, 0, 0, 0) := ceB_eq (by decide +kernel)
theorem f_311_25 : fnd 311 25 = some (25, .invokevirtual 276, 3, 218, 2, 10, 0) := ceB_eq (by decide +kernel)
theorem f_311_28 : fnd 311 28 = some (28, .ifCond .eq 43, 3, 0, 0, 0, 0) := ceB_eq (by decide +kernel)
theorem f_311_31 : fnd 311 31 = some (31, .aload_n 0, 1, 0, 0, 0, 0) := ceB_eq (by decide +kernel)
theorem f_311_32 : fnd 311 32 = some (32, .iload_n 2, 1, 0, 0, 0, 0) := ceB_eq (by decide +kernel)
theorem f_311_33 : fnd 311 33 = some (33, .invokevirtual 292, 3, 225, 2, 10, 0) := ceB_eq (by decide +kernel)
theorem f_311_36 : fnd 311 36 = some (36, .ifCond .eq 35, 3, 0, 0, 0, 0) := ceB_eq (by decide +kernel)
theorem f_311_39 : fnd 311 39 = some (39, .iload_n 1, 1, 0, 0, 0, 0) := ceB_eq (by decide +kernel)
theorem f_311_40 : fnd 311 40 = some (40, .iconst (-1), 1, 0, 0, 0, 0) := ceB_eq (by decide +kernel)
theorem f_311_41 : fnd 311 41 = some (41, .if_icmp .eq 24, 3, 0, 0, 0, 0) := ceB_eq (by decide +kernel)
theorem f_311_44 : fnd 311 44 = some (44, .aload_n 0, 1, 0, 0, 0, 0) := ceB_eq (by decide +kernel)
theorem f_311_45 : fnd 311 45 = some (45, .iload_n 2, 1, 0, 0, 0, 0) := ceB_eq (by decide +kernel)
theorem f_311_46 : fnd 311 46 = some (46, .iconst 0, 1, 0, 0, 0, 0) := ceB_eq (by decide +kernel)
theorem f_311_47 : fnd 311 47 = some (47, .invokevirtual 206, 3, 196, 3, 10, 0) := ceB_eq (by decide +kernel)
theorem f_311_50 : fnd 311 50 = some (50, .invokestatic 462, 3, 310, 1, 10, 0) := ceB_eq (by decide +kernel)
theorem f_311_53 : fnd 311 53 = some (53, .aload_n 0, 1, 0, 0, 0, 0) := ceB_eq (by decide +kernel)
theorem f_311_54 : fnd 311 54 = some (54, .iload_n 1, 1, 0, 0, 0, 0) := ceB_eq (by decide +kernel)
theorem f_311_55 : fnd 311 55 = some (55, .iconst 0, 1, 0, 0, 0, 0) := ceB_eq (by decide +kernel)
theorem f_311_56 : fnd 311 56 = some (56, .invokevirtual 206, 3, 196, 3, 10, 0) := ceB_eq (by decide +kernel)
theorem f_311_59 : fnd 311 59 = some (59, .invokestatic 462, 3, 310, 1, 10, 0) := ceB_eq (by decide +kernel)
theorem f_311_62 : fnd 311 62 = some (62, .if_icmp .ge 7, 3, 0, 0, 0, 0) := ceB_eq (by decide +kernel)
theorem f_311_65 : fnd 311 65 = some (65, .iload_n 2, 1, 0, 0, 0, 0) := ceB_eq (by decide +kernel)
theorem f_311_66 : fnd 311 66 = some (66, .goto 4, 3, 0, 0, 0, 0) := ceB_eq (by decide +kernel)
theorem f_311_69 : fnd 311 69 = some (69, .iload_n 1, 1, 0, 0, 0, 0) := ceB_eq (by decide +kernel)
theorem f_311_70 : fnd 311 70 = some (70, .istore_n 1, 1, 0, 0, 0, 0) := ceB_eq (by decide +kernel)
theorem f_311_71 : fnd 311 71 = some (71, .iinc 2 1, 3, 0, 0, 0, 0) := ceB_eq (by decide +kernel)
theorem f_311_74 : fnd 311 74 = some (74, .goto (-61), 3, 0, 0, 0, 0) := ceB_eq (by decide +kernel)
theorem f_311_77 : fnd 311 77 = some (77, .iload_n 1, 1, 0, 0, 0, 0) := ceB_eq (by decide +kernel)
theorem f_311_78 : fnd 311 78 = some (78, .ireturn, 1, 0, 0, 0, 0) := ceB_eq (by decide +kernel)
theorem rk_311 : rkm 311 = 0 := by decide +kernel
theorem ml_311 : (mth 311).2.1 = 3 := by decide +kernel
set_option maxRecDepth 100000 in
theorem T_Z_victim (k0 i0 : Int) (σ : ST) (Q : Option AV → ST → Prop) (h :
  ((((bz (σ 40 k0 i0 11)) ≠ 0 : Prop) →
    wp m_Z_victim (13, [some (.inr (.inr (40, k0, i0))), some (.inl (-1)), some (.inl 0)], [], σ) Q) ∧
  (¬ ((bz (σ 40 k0 i0 11)) ≠ 0) →
    Q (some (.inl (-1))) σ))) :
  wpM m_Z_victim [.inr (.inr (40, k0, i0))] σ Q :=
 wpM_of ml_311 (L := [some (.inr (.inr (40, k0, i0))), none, none]) rfl
 (w_aload_n (p' := 1) f_311_0 rfl rfl
 (w_getfield (p' := 4) f_311_1 rfl (x := .inl (bz (σ 40 k0 i0 11))) rfl rfl
 (w_if (p' := 9) (q' := 7) f_311_4 rfl rfl
 (fun c101 => w_iconst (p' := 10) f_311_9 rfl
 (w_istore_n (p' := 11) f_311_10 (L' := [some (.inr (.inr (40, k0, i0))), some (.inl (-1)), none]) rfl rfl
 (w_iconst (p' := 12) f_311_11 rfl
 (w_istore_n (p' := 13) f_311_12 (L' := [some (.inr (.inr (40, k0, i0))), some (.inl (-1)), some (.inl 0)]) rfl rfl
 ((h.1 c101))))))
 (fun c101 => w_iconst (p' := 8) f_311_7 rfl
 (w_iret f_311_8 rk_311 (h.2 c101))))))
set_option maxRecDepth 100000 in
theorem T_Z_victim_13 (k0 i0 x1 x2 : Int) (σ : ST) (Q : Option AV → ST → Prop) (h :
  ((0 : Int) ≤ 0 ∧ (0 : Int) < 4) ∧
  ((((σ 43 0 0 0) ≤ x2 : Prop) →
    Q (some (.inl x1)) σ) ∧
  (¬ ((σ 43 0 0 0) ≤ x2) →
    wpM m_Z_isUsed [.inr (.inr (40, k0, i0)), .inl x2] σ (asI fun r101 s101 =>
    (((r101 = 0 : Prop) →
      wp m_Z_victim (13, [some (.inr (.inr (40, k0, i0))), some (.inl x1), some (.inl (wr (x2 + 1)))], [], s101) Q) ∧
    (¬ (r101 = 0) →
      wpM m_Z_canGo [.inr (.inr (40, k0, i0)), .inl x2] s101 (asI fun r102 s102 =>
      (((r102 = 0 : Prop) →
        wp m_Z_victim (13, [some (.inr (.inr (40, k0, i0))), some (.inl x1), some (.inl (wr (x2 + 1)))], [], s102) Q) ∧
      (¬ (r102 = 0) →
        (((x1 = (-1) : Prop) →
          wp m_Z_victim (13, [some (.inr (.inr (40, k0, i0))), some (.inl x2), some (.inl (wr (x2 + 1)))], [], s102) Q) ∧
        (¬ (x1 = (-1)) →
          wpM m_Z_ofPage [.inr (.inr (40, k0, i0)), .inl x2, .inl 0] s102 (asI fun r103 s103 =>
          wpM m_Z_rankOf [.inl r103] s103 (asI fun r104 s104 =>
          wpM m_Z_ofPage [.inr (.inr (40, k0, i0)), .inl x1, .inl 0] s104 (asI fun r105 s105 =>
          wpM m_Z_rankOf [.inl r105] s105 (asI fun r106 s106 =>
          (((r106 ≤ r104 : Prop) →
            wp m_Z_victim (13, [some (.inr (.inr (40, k0, i0))), some (.inl x1), some (.inl (wr (x2 + 1)))], [], s106) Q) ∧
          (¬ (r106 ≤ r104) →
            wp m_Z_victim (13, [some (.inr (.inr (40, k0, i0))), some (.inl x2), some (.inl (wr (x2 + 1)))], [], s106) Q))))))))))))))))) :
  wp m_Z_victim (13, [some (.inr (.inr (40, k0, i0))), some (.inl x1), some (.inl x2)], [], σ) Q :=
 w_iload_n (p' := 14) f_311_13 rfl rfl
 (w_aload_n (p' := 15) f_311_14 rfl rfl
 (w_getfield (p' := 18) f_311_15 rfl (x := .inr (.inr (43, 0, 0))) rfl rfl
 (w_iconst (p' := 19) f_311_18 rfl
 (w_iaload (p' := 20) f_311_19 rfl (n := 4) rfl h.1 rfl
 (w_icmp (p' := 77) (q' := 23) f_311_20 rfl rfl
 (fun c111 => w_iload_n (p' := 78) f_311_77 rfl rfl
 (w_iret f_311_78 rk_311 (h.2.1 c111)))
 (fun c111 => w_aload_n (p' := 24) f_311_23 rfl rfl
 (w_iload_n (p' := 25) f_311_24 rfl rfl
 (w_callV (p' := 28) f_311_25 rfl rfl rfl rfl rfl (r := []) rfl rfl (kI (.inr rk_218) fun r101 s101 h101 =>
 w_if (p' := 71) (q' := 31) f_311_28 rfl rfl
 (fun c110 => w_iinc (p' := 74) f_311_71 rfl (L' := [some (.inr (.inr (40, k0, i0))), some (.inl x1), some (.inl (wr (x2 + 1)))]) rfl rfl
 (w_goto (p' := 13) f_311_74 rfl
 ((h101.1 c110))))
 (fun c110 => w_aload_n (p' := 32) f_311_31 rfl rfl
 (w_iload_n (p' := 33) f_311_32 rfl rfl
 (w_callV (p' := 36) f_311_33 rfl rfl rfl rfl rfl (r := []) rfl rfl (kI (.inr rk_225) fun r102 s102 h102 =>
 w_if (p' := 71) (q' := 39) f_311_36 rfl rfl
 (fun c109 => w_iinc (p' := 74) f_311_71 rfl (L' := [some (.inr (.inr (40, k0, i0))), some (.inl x1), some (.inl (wr (x2 + 1)))]) rfl rfl
 (w_goto (p' := 13) f_311_74 rfl
 ((h102.1 c109))))
 (fun c109 => w_iload_n (p' := 40) f_311_39 rfl rfl
 (w_iconst (p' := 41) f_311_40 rfl
 (w_icmp (p' := 65) (q' := 44) f_311_41 rfl rfl
 (fun c108 => w_iload_n (p' := 66) f_311_65 rfl rfl
 (w_goto (p' := 70) f_311_66 rfl
 (w_istore_n (p' := 71) f_311_70 (L' := [some (.inr (.inr (40, k0, i0))), some (.inl x2), some (.inl x2)]) rfl rfl
 (w_iinc (p' := 74) f_311_71 rfl (L' := [some (.inr (.inr (40, k0, i0))), some (.inl x2), some (.inl (wr (x2 + 1)))]) rfl rfl
 (w_goto (p' := 13) f_311_74 rfl
 (((h102.2 c109).1 c108)))))))
 (fun c108 => w_aload_n (p' := 45) f_311_44 rfl rfl
 (w_iload_n (p' := 46) f_311_45 rfl rfl
 (w_iconst (p' := 47) f_311_46 rfl
 (w_callV (p' := 50) f_311_47 rfl rfl rfl rfl rfl (r := []) rfl rfl (kI (.inl rk_196) fun r103 s103 h103 =>
 w_callS (p' := 53) f_311_50 rfl rfl rfl (r := []) rfl rfl (kI (.inl rk_310) fun r104 s104 h104 =>
 w_aload_n (p' := 54) f_311_53 rfl rfl
 (w_iload_n (p' := 55) f_311_54 rfl rfl
 (w_iconst (p' := 56) f_311_55 rfl
 (w_callV (p' := 59) f_311_56 rfl rfl rfl rfl rfl (r := [.inl r104]) rfl rfl (kI (.inl rk_196) fun r105 s105 h105 =>
 w_callS (p' := 62) f_311_59 rfl rfl rfl (r := [.inl r104]) rfl rfl (kI (.inl rk_310) fun r106 s106 h106 =>
 w_icmp (p' := 69) (q' := 65) f_311_62 rfl rfl
 (fun c107 => w_iload_n (p' := 70) f_311_69 rfl rfl
 (w_istore_n (p' := 71) f_311_70 (L' := [some (.inr (.inr (40, k0, i0))), some (.inl x1), some (.inl x2)]) rfl rfl
 (w_iinc (p' := 74) f_311_71 rfl (L' := [some (.inr (.inr (40, k0, i0))), some (.inl x1), some (.inl (wr (x2 + 1)))]) rfl rfl
 (w_goto (p' := 13) f_311_74 rfl
 ((h106.1 c107))))))
 (fun c107 => w_iload_n (p' := 66) f_311_65 rfl rfl
 (w_goto (p' := 70) f_311_66 rfl
 (w_istore_n (p' := 71) f_311_70 (L' := [some (.inr (.inr (40, k0, i0))), some (.inl x2), some (.inl x2)]) rfl rfl
 (w_iinc (p' := 74) f_311_71 rfl (L' := [some (.inr (.inr (40, k0, i0))), some (.inl x2), some (.inl (wr (x2 + 1)))]) rfl rfl
 (w_goto (p' := 13) f_311_74 rfl
 ((h106.2 c107)))))))) h105) h104)))) h103) ((h102.2 c109).2 c108))))))))) (h101.2 c110))))) (h.2.2 c111)))))))))
/-! ClosedRoomsModel.isScript(I)Z -/
theorem f_312_0 : fnd 312 0 = some (0, .iload_n 1, 1, 0, 0, 0, 0) := ceB_eq (by decide +kernel)
theorem f_312_1 : fnd 312 1 = some (1, .iconst 0, 1, 0, 0, 0, 0) := ceB_eq (by decide +kernel)
theorem f_312_2 : fnd 312 2 = some (2, .aload_n 0, 1, 0, 0, 0, 0) := ceB_eq (by decide +kernel)
theorem f_312_3 : fnd 312 3 = some (3, .getfield 240, 3, 10, 14, 14, 0) := ceB_eq (by decide +kernel)
theorem f_312_6 : fnd 312 6 = some (6, .iconst 1, 1, 0, 0, 0, 0) := ceB_eq (by decide +kernel)
theorem f_312_7 : fnd 312 7 = some (7, .isub, 1, 0, 0, 0, 0) := ceB_eq (by decide +kernel)
theorem f_312_8 : fnd 312 8 = some (8, .invokestatic 54, 3, 168, 3, 10, 0) := ceB_eq (by decide +kernel)
theorem f_312_11 : fnd 312 11 = some (11, .ireturn, 1, 0, 0, 0, 0) := ceB_eq (by decide +kernel)
theorem rk_312 : rkm 312 = 1 := by decide +kernel
theorem ml_312 : (mth 312).2.1 = 2 := by decide +kernel
set_option maxRecDepth 100000 in
theorem T_Z_isScript (k0 i0 x1 : Int) (σ : ST) (Q : Option AV → ST → Prop) (h :
  wpM m_Z_in [.inl x1, .inl 0, .inl (wr ((σ 40 k0 i0 14) - 1))] σ (asI fun r101 s101 =>
  ((r101 : Int) = 0 ∨ (r101 : Int) = 1) ∧ Q (some (.inl r101)) s101)) :
  wpM m_Z_isScript [.inr (.inr (40, k0, i0)), .inl x1] σ Q :=
 wpM_of ml_312 (L := [some (.inr (.inr (40, k0, i0))), some (.inl x1)]) rfl
 (w_iload_n (p' := 1) f_312_0 rfl rfl
 (w_iconst (p' := 2) f_312_1 rfl
 (w_aload_n (p' := 3) f_312_2 rfl rfl
 (w_getfield (p' := 6) f_312_3 rfl (x := .inl (σ 40 k0 i0 14)) rfl rfl
 (w_iconst (p' := 7) f_312_6 rfl
 (w_isub (p' := 8) f_312_7 rfl
 (w_callS (p' := 11) f_312_8 rfl rfl rfl (r := []) rfl rfl (kI (.inr rk_168) fun r101 s101 h101 =>
 w_zret f_312_11 rk_312 h101.1 h101.2) h)))))))
/-! ClosedRoomsModel.stepOf(III)I -/
theorem f_313_0 : fnd 313 0 = some (0, .aload_n 0, 1, 0, 0, 0, 0) := ceB_eq (by decide +kernel)
theorem f_313_1 : fnd 313 1 = some (1, .getfield 19, 3, 10, 12, 12, 0) := ceB_eq (by decide +kernel)
theorem f_313_4 : fnd 313 4 = some (4, .bipush 6, 2, 0, 0, 0, 0) := ceB_eq (by decide +kernel)
theorem f_313_6 : fnd 313 6 = some (6, .bipush 12, 2, 0, 0, 0, 0) := ceB_eq (by decide +kernel)
theorem f_313_8 : fnd 313 8 = some (8, .iload_n 1, 1, 0, 0, 0, 0) := ceB_eq (by decide +kernel)
theorem f_313_9 : fnd 313 9 = some (9, .imul, 1, 0, 0, 0, 0) := ceB_eq (by decide +kernel)
theorem f_313_10 : fnd 313 10 = some (10, .iload_n 2, 1, 0, 0, 0, 0) := ceB_eq (by decide +kernel)
theorem f_313_11 : fnd 313 11 = some (11, .iadd, 1, 0, 0, 0, 0) := ceB_eq (by decide +kernel)
theorem f_313_12 : fnd 313 12 = some (12, .imul, 1, 0, 0, 0, 0) := ceB_eq (by decide +kernel)
theorem f_313_13 : fnd 313 13 = some (13, .iload_n 3, 1, 0, 0, 0, 0) := ceB_eq (by decide +kernel)
theorem f_313_14 : fnd 313 14 = some (14, .iadd, 1, 0, 0, 0, 0) := ceB_eq (by decide +kernel)
theorem f_313_15 : fnd 313 15 = some (15, .iaload, 1, 0, 0, 0, 0) := ceB_eq (by decide +kernel)
theorem f_313_16 : fnd 313 16 = some (16, .ireturn, 1, 0, 0, 0, 0) := ceB_eq (by decide +kernel)
theorem rk_313 : rkm 313 = 0 := by decide +kernel
theorem ml_313 : (mth 313).2.1 = 4 := by decide +kernel
set_option maxRecDepth 100000 in
theorem T_Z_stepOf (k0 i0 x1 x2 x3 : Int) (σ : ST) (Q : Option AV → ST → Prop) (h :
  ((0 : Int) ≤ (wr ((wr (6 * (wr ((wr (12 * x1)) + x2)))) + x3)) ∧ ((wr ((wr (6 * (wr ((wr (12 * x1)) + x2)))) + x3)) : Int) < 360) ∧
  Q (some (.inl (σ 44 0 0 (wr ((wr (6 * (wr ((wr (12 * x1)) + x2)))) + x3))))) σ) :
  wpM m_Z_stepOf [.inr (.inr (40, k0, i0)), .inl x1, .inl x2, .inl x3] σ Q :=
 wpM_of ml_313 (L := [some (.inr (.inr (40, k0, i0))), some (.inl x1), some (.inl x2), some (.inl x3)]) rfl
 (w_aload_n (p' := 1) f_313_0 rfl rfl
 (w_getfield (p' := 4) f_313_1 rfl (x := .inr (.inr (44, 0, 0))) rfl rfl
 (w_bipush (p' := 6) f_313_4 rfl
 (w_bipush (p' := 8) f_313_6 rfl
 (w_iload_n (p' := 9) f_313_8 rfl rfl
 (w_imul (p' := 10) f_313_9 rfl
 (w_iload_n (p' := 11) f_313_10 rfl rfl
 (w_iadd (p' := 12) f_313_11 rfl
 (w_imul (p' := 13) f_313_12 rfl
 (w_iload_n (p' := 14) f_313_13 rfl rfl
 (w_iadd (p' := 15) f_313_14 rfl
 (w_iaload (p' := 16) f_313_15 rfl (n := 360) rfl h.1 rfl
 (w_iret f_313_16 rk_313 h.2)))))))))))))
/-! ClosedRoomsModel.paper(I)I -/
theorem f_314_0 : fnd 314 0 = some (0, .iconst 0, 1, 0, 0, 0, 0) := ceB_eq (by decide +kernel)
theorem f_314_1 : fnd 314 1 = some (1, .istore_n 2, 1, 0, 0, 0, 0) := ceB_eq (by decide +kernel)
theorem f_314_2 : fnd 314 2 = some (2, .aload_n 0, 1, 0, 0, 0, 0) := ceB_eq (by decide +kernel)
theorem f_314_3 : fnd 314 3 = some (3, .iload_n 1, 1, 0, 0, 0, 0) := ceB_eq (by decide +kernel)
theorem f_314_4 : fnd 314 4 = some (4, .invokevirtual 465, 3, 312, 2, 10, 0) := ceB_eq (by decide +kernel)
theorem f_314_7 : fnd 314 7 = some (7, .ifCond .eq 29, 3, 0, 0, 0, 0) := ceB_eq (by decide +kernel)
theorem f_314_10 : fnd 314 10 = some (10, .iload_n 2, 1, 0, 0, 0, 0) := ceB_eq (by decide +kernel)
theorem f_314_11 : fnd 314 11 = some (11, .aload_n 0, 1, 0, 0, 0, 0) := ceB_eq (by decide +kernel)
theorem f_314_12 : fnd 314 12 = some (12, .getfield 22, 3, 10, 13, 13, 0) := ceB_eq (by decide +kernel)
theorem f_314_15 : fnd 314 15 = some (15, .iload_n 1, 1, 0, 0, 0, 0) := ceB_eq (by decide +kernel)
theorem f_314_16 : fnd 314 16 = some (16, .iaload, 1, 0, 0, 0, 0) := ceB_eq (by decide +kernel)
theorem f_314_17 : fnd 314 17 = some (17, .if_icmp .ge 19, 3, 0, 0, 0, 0) := ceB_eq (by decide +kernel)
theorem f_314_20 : fnd 314 20 = some (20, .aload_n 0, 1, 0, 0, 0, 0) := ceB_eq (by decide +kernel)
theorem f_314_21 : fnd 314 21 = some (21, .iload_n 1, 1, 0, 0, 0, 0) := ceB_eq (by decide +kernel)
theorem f_314_22 : fnd 314 22 = some (22, .iload_n 2, 1, 0, 0, 0, 0) := ceB_eq (by decide +kernel)
theorem f_314_23 : fnd 314 23 = some (23, .iconst 0, 1, 0, 0, 0, 0) := ceB_eq (by decide +kernel)
theorem f_314_24 : fnd 314 24 = some (24, .invokevirtual 468, 3, 313, 4, 10, 0) := ceB_eq (by decide +kernel)
theorem f_314_27 : fnd 314 27 = some (27, .ifCond .eq 9, 3, 0, 0, 0, 0) := ceB_eq (by decide +kernel)
theorem f_314_30 : fnd 314 30 = some (30, .iinc 2 1, 3, 0, 0, 0, 0) := ceB_eq (by decide +kernel)
theorem f_314_33 : fnd 314 33 = some (33, .goto (-31), 3, 0, 0, 0, 0) := ceB_eq (by decide +kernel)
theorem f_314_36 : fnd 314 36 = some (36, .aload_n 0, 1, 0, 0, 0, 0) := ceB_eq (by decide +kernel)
theorem f_314_37 : fnd 314 37 = some (37, .iload_n 1, 1, 0, 0, 0, 0) := ceB_eq (by decide +kernel)
theorem f_314_38 : fnd 314 38 = some (38, .invokevirtual 465, 3, 312, 2, 10, 0) := ceB_eq (by decide +kernel)
theorem f_314_41 : fnd 314 41 = some (41, .ifCond .eq 13, 3, 0, 0, 0, 0) := ceB_eq (by decide +kernel)
theorem f_314_44 : fnd 314 44 = some (44, .iload_n 2, 1, 0, 0, 0, 0) := ceB_eq (by decide +kernel)
theorem f_314_45 : fnd 314 45 = some (45, .aload_n 0, 1, 0, 0, 0, 0) := ceB_eq (by decide +kernel)
theorem f_314_46 : fnd 314 46 = some (46, .getfield 22, 3, 10, 13, 13, 0) := ceB_eq (by decide +kernel)
theorem f_314_49 : fnd 314 49 = some (49, .iload_n 1, 1, 0, 0, 0, 0) := ceB_eq (by decide +kernel)
theorem f_314_50 : fnd 314 50 = some (50, .iaload, 1, 0, 0, 0, 0) := ceB_eq (by decide +kernel)
theorem f_314_51 : fnd 314 51 = some (51, .if_icmp .ne 7, 3, 0, 0, 0, 0) := ceB_eq (by decide +kernel)
theorem f_314_54 : fnd 314 54 = some (54, .ldc_w 452, 3, 0, 0, 0, (-1000000)) := ceB_eq (by decide +kernel)
theorem f_314_57 : fnd 314 57 = some (57, .ireturn, 1, 0, 0, 0, 0) := ceB_eq (by decide +kernel)
theorem f_314_58 : fnd 314 58 = some (58, .iconst 0, 1, 0, 0, 0, 0) := ceB_eq (by decide +kernel)
theorem f_314_59 : fnd 314 59 = some (59, .istore_n 3, 1, 0, 0, 0, 0) := ceB_eq (by decide +kernel)
theorem f_314_60 : fnd 314 60 = some (60, .iload_n 3, 1, 0, 0, 0, 0) := ceB_eq (by decide +kernel)
theorem f_314_61 : fnd 314 61 = some (61, .sipush 999, 3, 0, 0, 0, 0) := ceB_eq (by decide +kernel)
theorem f_314_64 : fnd 314 64 = some (64, .if_icmp .gt 16, 3, 0, 0, 0, 0) := ceB_eq (by decide +kernel)
theorem f_314_67 : fnd 314 67 = some (67, .aload_n 0, 1, 0, 0, 0, 0) := ceB_eq (by decide +kernel)
theorem f_314_68 : fnd 314 68 = some (68, .getfield 34, 3, 10, 19, 19, 0) := ceB_eq (by decide +kernel)
theorem f_314_71 : fnd 314 71 = some (71, .iload_n 3, 1, 0, 0, 0, 0) := ceB_eq (by decide +kernel)
theorem f_314_72 : fnd 314 72 = some (72, .iconst 0, 1, 0, 0, 0, 0) := ceB_eq (by decide +kernel)
theorem f_314_73 : fnd 314 73 = some (73, .iastore, 1, 0, 0, 0, 0) := ceB_eq (by decide +kernel)
theorem f_314_74 : fnd 314 74 = some (74, .iinc 3 1, 3, 0, 0, 0, 0) := ceB_eq (by decide +kernel)
theorem f_314_77 : fnd 314 77 = some (77, .goto (-17), 3, 0, 0, 0, 0) := ceB_eq (by decide +kernel)
theorem f_314_80 : fnd 314 80 = some (80, .bipush 7, 2, 0, 0, 0, 0) := ceB_eq (by decide +kernel)
theorem f_314_82 : fnd 314 82 = some (82, .aload_n 0, 1, 0, 0, 0, 0) := ceB_eq (by decide +kernel)
theorem f_314_83 : fnd 314 83 = some (83, .iload_n 1, 1, 0, 0, 0, 0) := ceB_eq (by decide +kernel)
theorem f_314_84 : fnd 314 84 = some (84, .iload_n 2, 1, 0, 0, 0, 0) := ceB_eq (by decide +kernel)
theorem f_314_85 : fnd 314 85 = some (85, .iconst 1, 1, 0, 0, 0, 0) := ceB_eq (by decide +kernel)
theorem f_314_86 : fnd 314 86 = some (86, .invokevirtual 468, 3, 313, 4, 10, 0) := ceB_eq (by decide +kernel)
theorem f_314_89 : fnd 314 89 = some (89, .iadd, 1, 0, 0, 0, 0) := ceB_eq (by decide +kernel)
theorem f_314_90 : fnd 314 90 = some (90, .istore_n 3, 1, 0, 0, 0, 0) := ceB_eq (by decide +kernel)
theorem f_314_91 : fnd 314 91 = some (91, .iload_n 2, 1, 0, 0, 0, 0) := ceB_eq (by decide +kernel)
theorem f_314_92 : fnd 314 92 = some (92, .iconst 1, 1, 0, 0, 0, 0) := ceB_eq (by decide +kernel)
theorem f_314_93 : fnd 314 93 = some (93, .iadd, 1, 0, 0, 0, 0) := ceB_eq (by decide +kernel)
theorem f_314_94 : fnd 314 94 = some (94, .istore 4, 2, 0, 0, 0, 0) := ceB_eq (by decide +kernel)
theorem f_314_96 : fnd 314 96 = some (96, .iload 4, 2, 0, 0, 0, 0) := ceB_eq (by decide +kernel)
theorem f_314_98 : fnd 314 98 = some (98, .aload_n 0, 1, 0, 0, 0, 0) := ceB_eq (by decide +kernel)
theorem f_314_99 : fnd 314 99 = some (99, .getfield 22, 3, 10, 13, 13, 0) := ceB_eq (by decide +kernel)
theorem f_314_102 : fnd 314 102 = some (102, .iload_n 1, 1, 0, 0, 0, 0) := ceB_eq (by decide +kernel)
theorem f_314_103 : fnd 314 103 = some (103, .iaload, 1, 0, 0, 0, 0) := ceB_eq (by decide +kernel)
theorem f_314_104 : fnd 314 104 = some (104, .if_icmp .ge 110, 3, 0, 0, 0, 0) := ceB_eq (by decide +kernel)
theorem f_314_107 : fnd 314 107 = some (107, .aload_n 0, 1, 0, 0, 0, 0) := ceB_eq (by decide +kernel)
theorem f_314_108 : fnd 314 108 = some (108, .iload_n 1, 1, 0, 0, 0, 0) := ceB_eq (by decide +kernel)
theorem f_314_109 : fnd 314 109 = some (109, .iload 4, 2, 0, 0, 0, 0) := ceB_eq (by decide +kernel)
theorem f_314_111 : fnd 314 111 = some (111, .iconst 2, 1, 0, 0, 0, 0) := ceB_eq (by decide +kernel)
theorem f_314_112 : fnd 314 112 = some (112, .invokevirtual 468, 3, 313, 4, 10, 0) := ceB_eq (by decide +kernel)
theorem f_314_115 : fnd 314 115 = some (115, .istore 5, 2, 0, 0, 0, 0) := ceB_eq (by decide +kernel)
theorem f_314_117 : fnd 314 117 = some (117, .aload_n 0, 1, 0, 0, 0, 0) := ceB_eq (by decide +kernel)
theorem f_314_118 : fnd 314 118 = some (118, .iload_n 1, 1, 0, 0, 0, 0) := ceB_eq (by decide +kernel)
theorem f_314_119 : fnd 314 119 = some (119, .iload 4, 2, 0, 0, 0, 0) := ceB_eq (by decide +kernel)
theorem f_314_121 : fnd 314 121 = some (121, .iconst 0, 1, 0, 0, 0, 0) := ceB_eq (by decide +kernel)
theorem f_314_122 : fnd 314 122 = some (122, .invokevirtual 468, 3, 313, 4, 10, 0) := ceB_eq (by decide +kernel)
theorem f_314_125 : fnd 314 125 = some (125, .iconst 2, 1, 0, 0, 0, 0) := ceB_eq (by decide +kernel)
theorem f_314_126 : fnd 314 126 = some (126, .if_icmp .ne 53, 3, 0, 0, 0, 0) := ceB_eq (by decide +kernel)
theorem f_314_129 : fnd 314 129 = some (129, .bipush 31, 2, 0, 0, 0, 0) := ceB_eq (by decide +kernel)
theorem f_314_131 : fnd 314 131 = some (131, .iload_n 3, 1, 0, 0, 0, 0) := ceB_eq (by decide +kernel)
theorem f_314_132 : fnd 314 132 = some (132, .imul, 1, 0, 0, 0, 0) := ceB_eq (by decide +kernel)
theorem f_314_133 : fnd 314 133 = some (133, .bipush 64, 2, 0, 0, 0, 0) := ceB_eq (by decide +kernel)
theorem f_314_135 : fnd 314 135 = some (135, .iload 5, 2, 0, 0, 0, 0) := ceB_eq (by decide +kernel)
theorem f_314_137 : fnd 314 137 = some (137, .imul, 1, 0, 0, 0, 0) := ceB_eq (by decide +kernel)
theorem f_314_138 : fnd 314 138 = some (138, .iadd, 1, 0, 0, 0, 0) := ceB_eq (by decide +kernel)
theorem f_314_139 : fnd 314 139 = some (139, .bipush 8, 2, 0, 0, 0, 0) := ceB_eq (by decide +kernel)
theorem f_314_141 : fnd 314 141 = some (141, .aload_n 0, 1, 0, 0, 0, 0) := ceB_eq (by decide +kernel)
theorem f_314_142 : fnd 314 142 = some (142, .iload_n 1, 1, 0, 0, 0, 0) := ceB_eq (by decide +kernel)
theorem f_314_143 : fnd 314 143 = some (143, .iload 4, 2, 0, 0, 0, 0) := ceB_eq (by decide +kernel)
theorem f_314_145 : fnd 314 145 = some (145, .iconst 3, 1, 0, 0, 0, 0) := ceB_eq (by decide +kernel)
theorem f_314_146 : fnd 314 146 = some (146, .invokevirtual 468, 3, 313, 4, 10, 0) := ceB_eq (by decide +kernel)
theorem f_314_149 : fnd 314 149 = some (149, .imul, 1, 0, 0, 0, 0) := ceB_eq (by decide +kernel)
theorem f_314_150 : fnd 314 150 = some (150, .iadd, 1, 0, 0, 0, 0) := ceB_eq (by decide +kernel)
theorem f_314_151 : fnd 314 151 = some (151, .aload_n 0, 1, 0, 0, 0, 0) := ceB_eq (by decide +kernel)
theorem f_314_152 : fnd 314 152 = some (152, .iload_n 1, 1, 0, 0, 0, 0) := ceB_eq (by decide +kernel)
theorem f_314_153 : fnd 314 153 = some (153, .iload 4, 2, 0, 0, 0, 0) := ceB_eq (by decide +kernel)
theorem f_314_155 : fnd 314 155 = some (155, .iconst 4, 1, 0, 0, 0, 0) := ceB_eq (by decide +kernel)
theorem f_314_156 : fnd 314 156 = some (156, .invokevirtual 468, 3, 313, 4, 10, 0) := ceB_eq (by decide +kernel)
theorem f_314_159 : fnd 314 159 = some (159, .iadd, 1, 0, 0, 0, 0) := ceB_eq (by decide +kernel)
theorem f_314_160 : fnd 314 160 = some (160, .istore_n 3, 1, 0, 0, 0, 0) := ceB_eq (by decide +kernel)
theorem f_314_161 : fnd 314 161 = some (161, .aload_n 0, 1, 0, 0, 0, 0) := ceB_eq (by decide +kernel)
theorem f_314_162 : fnd 314 162 = some (162, .getfield 34, 3, 10, 19, 19, 0) := ceB_eq (by decide +kernel)
theorem f_314_165 : fnd 314 165 = some (165, .iload 5, 2, 0, 0, 0, 0) := ceB_eq (by decide +kernel)
theorem f_314_167 : fnd 314 167 = some (167, .aload_n 0, 1, 0, 0, 0, 0) := ceB_eq (by decide +kernel)
theorem f_314_168 : fnd 314 168 = some (168, .iload_n 1, 1, 0, 0, 0, 0) := ceB_eq (by decide +kernel)
theorem f_314_169 : fnd 314 169 = some (169, .iload 4, 2, 0, 0, 0, 0) := ceB_eq (by decide +kernel)
theorem f_314_171 : fnd 314 171 = some (171, .iconst 5, 1, 0, 0, 0, 0) := ceB_eq (by decide +kernel)
theorem f_314_172 : fnd 314 172 = some (172, .invokevirtual 468, 3, 313, 4, 10, 0) := ceB_eq (by decide +kernel)
theorem f_314_175 : fnd 314 175 = some (175, .iastore, 1, 0, 0, 0, 0) := ceB_eq (by decide +kernel)
theorem f_314_176 : fnd 314 176 = some (176, .goto 32, 3, 0, 0, 0, 0) := ceB_eq (by decide +kernel)
theorem f_314_179 : fnd 314 179 = some (179, .aload_n 0, 1, 0, 0, 0, 0) := ceB_eq (by decide +kernel)
theorem f_314_180 : fnd 314 180 = some (180, .iload_n 1, 1, 0, 0, 0, 0) := ceB_eq (by decide +kernel)
theorem f_314_181 : fnd 314 181 = some (181, .iload 4, 2, 0, 0, 0, 0) := ceB_eq (by decide +kernel)
theorem f_314_183 : fnd 314 183 = some (183, .iconst 0, 1, 0, 0, 0, 0) := ceB_eq (by decide +kernel)
theorem f_314_184 : fnd 314 184 = some (184, .invokevirtual 468, 3, 313, 4, 10, 0) := ceB_eq (by decide +kernel)
theorem f_314_187 : fnd 314 187 = some (187, .iconst 3, 1, 0, 0, 0, 0) := ceB_eq (by decide +kernel)
theorem f_314_188 : fnd 314 188 = some (188, .if_icmp .ne 20, 3, 0, 0, 0, 0) := ceB_eq (by decide +kernel)
theorem f_314_191 : fnd 314 191 = some (191, .bipush 31, 2, 0, 0, 0, 0) := ceB_eq (by decide +kernel)
theorem f_314_193 : fnd 314 193 = some (193, .iload_n 3, 1, 0, 0, 0, 0) := ceB_eq (by decide +kernel)
theorem f_314_194 : fnd 314 194 = some (194, .imul, 1, 0, 0, 0, 0) := ceB_eq (by decide +kernel)
theorem f_314_195 : fnd 314 195 = some (195, .sipush 1000, 3, 0, 0, 0, 0) := ceB_eq (by decide +kernel)
theorem f_314_198 : fnd 314 198 = some (198, .iadd, 1, 0, 0, 0, 0) := ceB_eq (by decide +kernel)
theorem f_314_199 : fnd 314 199 = some (199, .aload_n 0, 1, 0, 0, 0, 0) := ceB_eq (by decide +kernel)
theorem f_314_200 : fnd 314 200 = some (200, .getfield 34, 3, 10, 19, 19, 0) := ceB_eq (by decide +kernel)
theorem f_314_203 : fnd 314 203 = some (203, .iload 5, 2, 0, 0, 0, 0) := ceB_eq (by decide +kernel)
theorem f_314_205 : fnd 314 205 = some (205, .iaload, 1, 0, 0, 0, 0) := ceB_eq (by decide +kernel)
theorem f_314_206 : fnd 314 206 = some (206, .iadd, 1, 0, 0, 0, 0) := ceB_eq (by decide +kernel)
theorem f_314_207 : fnd 314 207 = some (207, .istore_n 3, 1, 0, 0, 0, 0) := ceB_eq (by decide +kernel)
theorem f_314_208 : fnd 314 208 = some (208, .iinc 4 1, 3, 0, 0, 0, 0) := ceB_eq (by decide +kernel)
theorem f_314_211 : fnd 314 211 = some (211, .goto (-115), 3, 0, 0, 0, 0) := ceB_eq (by decide +kernel)
theorem f_314_214 : fnd 314 214 = some (214, .iload_n 3, 1, 0, 0, 0, 0) := ceB_eq (by decide +kernel)
theorem f_314_215 : fnd 314 215 = some (215, .ireturn, 1, 0, 0, 0, 0) := ceB_eq (by decide +kernel)
theorem rk_314 : rkm 314 = 0 := by decide +kernel
theorem ml_314 : (mth 314).2.1 = 6 := by decide +kernel
set_option maxRecDepth 100000 in
theorem T_Z_paper (k0 i0 x1 : Int) (σ : ST) (Q : Option AV → ST → Prop) (h :
  wp m_Z_paper (2, [some (.inr (.inr (40, k0, i0))), some (.inl x1), some (.inl 0), none, none, none], [], σ) Q) :
  wpM m_Z_paper [.inr (.inr (40, k0, i0)), .inl x1] σ Q :=
 wpM_of ml_314 (L := [some (.inr (.inr (40, k0, i0))), some (.inl x1), none, none, none, none]) rfl
 (w_iconst (p' := 1) f_314_0 rfl
 (w_istore_n (p' := 2) f_314_1 (L' := [some (.inr (.inr (40, k0, i0))), some (.inl x1), some (.inl 0), none, none, none]) rfl rfl
 (h)))
set_option maxRecDepth 100000 in
theorem T_Z_paper_2 (k0 i0 x1 x2 : Int) (o3 o4 o5 : Option AV) (σ : ST) (Q : Option AV → ST → Prop) (h :
  wpM m_Z_isScript [.inr (.inr (40, k0, i0)), .inl x1] σ (asI fun r101 s101 =>
  (((r101 = 0 : Prop) →
    wp m_Z_paper (36, [some (.inr (.inr (40, k0, i0))), some (.inl x1), some (.inl x2), o3, o4, o5], [], s101) Q) ∧
  (¬ (r101 = 0) →
    ((0 : Int) ≤ x1 ∧ (x1 : Int) < 5) ∧
    ((((s101 45 0 0 x1) ≤ x2 : Prop) →
      wp m_Z_paper (36, [some (.inr (.inr (40, k0, i0))), some (.inl x1), some (.inl x2), o3, o4, o5], [], s101) Q) ∧
    (¬ ((s101 45 0 0 x1) ≤ x2) →
      wpM m_Z_stepOf [.inr (.inr (40, k0, i0)), .inl x1, .inl x2, .inl 0] s101 (asI fun r102 s102 =>
      (((r102 = 0 : Prop) →
        wp m_Z_paper (36, [some (.inr (.inr (40, k0, i0))), some (.inl x1), some (.inl x2), o3, o4, o5], [], s102) Q) ∧
      (¬ (r102 = 0) →
        wp m_Z_paper (2, [some (.inr (.inr (40, k0, i0))), some (.inl x1), some (.inl (wr (x2 + 1))), o3, o4, o5], [], s102) Q))))))))) :
  wp m_Z_paper (2, [some (.inr (.inr (40, k0, i0))), some (.inl x1), some (.inl x2), o3, o4, o5], [], σ) Q :=
 w_aload_n (p' := 3) f_314_2 rfl rfl
 (w_iload_n (p' := 4) f_314_3 rfl rfl
 (w_callV (p' := 7) f_314_4 rfl rfl rfl rfl rfl (r := []) rfl rfl (kI (.inr rk_312) fun r101 s101 h101 =>
 w_if (p' := 36) (q' := 10) f_314_7 rfl rfl
 (fun c105 => (h101.1 c105))
 (fun c105 => w_iload_n (p' := 11) f_314_10 rfl rfl
 (w_aload_n (p' := 12) f_314_11 rfl rfl
 (w_getfield (p' := 15) f_314_12 rfl (x := .inr (.inr (45, 0, 0))) rfl rfl
 (w_iload_n (p' := 16) f_314_15 rfl rfl
 (w_iaload (p' := 17) f_314_16 rfl (n := 5) rfl (h101.2 c105).1 rfl
 (w_icmp (p' := 36) (q' := 20) f_314_17 rfl rfl
 (fun c104 => ((h101.2 c105).2.1 c104))
 (fun c104 => w_aload_n (p' := 21) f_314_20 rfl rfl
 (w_iload_n (p' := 22) f_314_21 rfl rfl
 (w_iload_n (p' := 23) f_314_22 rfl rfl
 (w_iconst (p' := 24) f_314_23 rfl
 (w_callV (p' := 27) f_314_24 rfl rfl rfl rfl rfl (r := []) rfl rfl (kI (.inl rk_313) fun r102 s102 h102 =>
 w_if (p' := 36) (q' := 30) f_314_27 rfl rfl
 (fun c103 => (h102.1 c103))
 (fun c103 => w_iinc (p' := 33) f_314_30 rfl (L' := [some (.inr (.inr (40, k0, i0))), some (.inl x1), some (.inl (wr (x2 + 1))), o3, o4, o5]) rfl rfl
 (w_goto (p' := 2) f_314_33 rfl
 ((h102.2 c103))))) ((h101.2 c105).2.2 c104))))))))))))) h))
set_option maxRecDepth 100000 in
theorem T_Z_paper_36 (k0 i0 x1 x2 : Int) (o3 o4 o5 : Option AV) (σ : ST) (Q : Option AV → ST → Prop) (h :
  wpM m_Z_isScript [.inr (.inr (40, k0, i0)), .inl x1] σ (asI fun r101 s101 =>
  (((r101 = 0 : Prop) →
    Q (some (.inl (-1000000))) s101) ∧
  (¬ (r101 = 0) →
    ((0 : Int) ≤ x1 ∧ (x1 : Int) < 5) ∧
    (((x2 ≠ (s101 45 0 0 x1) : Prop) →
      wp m_Z_paper (60, [some (.inr (.inr (40, k0, i0))), some (.inl x1), some (.inl x2), some (.inl 0), o4, o5], [], s101) Q) ∧
    (¬ (x2 ≠ (s101 45 0 0 x1)) →
      Q (some (.inl (-1000000))) s101)))))) :
  wp m_Z_paper (36, [some (.inr (.inr (40, k0, i0))), some (.inl x1), some (.inl x2), o3, o4, o5], [], σ) Q :=
 w_aload_n (p' := 37) f_314_36 rfl rfl
 (w_iload_n (p' := 38) f_314_37 rfl rfl
 (w_callV (p' := 41) f_314_38 rfl rfl rfl rfl rfl (r := []) rfl rfl (kI (.inr rk_312) fun r101 s101 h101 =>
 w_if (p' := 54) (q' := 44) f_314_41 rfl rfl
 (fun c103 => w_ldc_w (p' := 57) f_314_54 rfl
 (w_iret f_314_57 rk_314 (h101.1 c103)))
 (fun c103 => w_iload_n (p' := 45) f_314_44 rfl rfl
 (w_aload_n (p' := 46) f_314_45 rfl rfl
 (w_getfield (p' := 49) f_314_46 rfl (x := .inr (.inr (45, 0, 0))) rfl rfl
 (w_iload_n (p' := 50) f_314_49 rfl rfl
 (w_iaload (p' := 51) f_314_50 rfl (n := 5) rfl (h101.2 c103).1 rfl
 (w_icmp (p' := 58) (q' := 54) f_314_51 rfl rfl
 (fun c102 => w_iconst (p' := 59) f_314_58 rfl
 (w_istore_n (p' := 60) f_314_59 (L' := [some (.inr (.inr (40, k0, i0))), some (.inl x1), some (.inl x2), some (.inl 0), o4, o5]) rfl rfl
 (((h101.2 c103).2.1 c102))))
 (fun c102 => w_ldc_w (p' := 57) f_314_54 rfl
 (w_iret f_314_57 rk_314 ((h101.2 c103).2.2 c102)))))))))) h))
set_option maxRecDepth 100000 in
theorem T_Z_paper_60 (k0 i0 x1 x2 x3 : Int) (o4 o5 : Option AV) (σ : ST) (Q : Option AV → ST → Prop) (h :
  (((999 < x3 : Prop) →
    wpM m_Z_stepOf [.inr (.inr (40, k0, i0)), .inl x1, .inl x2, .inl 1] σ (asI fun r101 s101 =>
    wp m_Z_paper (96, [some (.inr (.inr (40, k0, i0))), some (.inl x1), some (.inl x2), some (.inl (wr (7 + r101))), some (.inl (wr (x2 + 1))), o5], [], s101) Q)) ∧
  (¬ (999 < x3) →
    ((0 : Int) ≤ x3 ∧ (x3 : Int) < 1000) ∧
    wp m_Z_paper (60, [some (.inr (.inr (40, k0, i0))), some (.inl x1), some (.inl x2), some (.inl (wr (x3 + 1))), o4, o5], [], (up σ 49 0 0 x3 0)) Q))) :
  wp m_Z_paper (60, [some (.inr (.inr (40, k0, i0))), some (.inl x1), some (.inl x2), some (.inl x3), o4, o5], [], σ) Q :=
 w_iload_n (p' := 61) f_314_60 rfl rfl
 (w_sipush (p' := 64) f_314_61 rfl
 (w_icmp (p' := 80) (q' := 67) f_314_64 rfl rfl
 (fun c102 => w_bipush (p' := 82) f_314_80 rfl
 (w_aload_n (p' := 83) f_314_82 rfl rfl
 (w_iload_n (p' := 84) f_314_83 rfl rfl
 (w_iload_n (p' := 85) f_314_84 rfl rfl
 (w_iconst (p' := 86) f_314_85 rfl
 (w_callV (p' := 89) f_314_86 rfl rfl rfl rfl rfl (r := [.inl 7]) rfl rfl (kI (.inl rk_313) fun r101 s101 h101 =>
 w_iadd (p' := 90) f_314_89 rfl
 (w_istore_n (p' := 91) f_314_90 (L' := [some (.inr (.inr (40, k0, i0))), some (.inl x1), some (.inl x2), some (.inl (wr (7 + r101))), o4, o5]) rfl rfl
 (w_iload_n (p' := 92) f_314_91 rfl rfl
 (w_iconst (p' := 93) f_314_92 rfl
 (w_iadd (p' := 94) f_314_93 rfl
 (w_istore (p' := 96) f_314_94 (L' := [some (.inr (.inr (40, k0, i0))), some (.inl x1), some (.inl x2), some (.inl (wr (7 + r101))), some (.inl (wr (x2 + 1))), o5]) rfl rfl
 (h101))))))) (h.1 c102)))))))
 (fun c102 => w_aload_n (p' := 68) f_314_67 rfl rfl
 (w_getfield (p' := 71) f_314_68 rfl (x := .inr (.inr (49, 0, 0))) rfl rfl
 (w_iload_n (p' := 72) f_314_71 rfl rfl
 (w_iconst (p' := 73) f_314_72 rfl
 (w_iastore (p' := 74) f_314_73 rfl (n := 1000) rfl (h.2 c102).1 rfl
 (w_iinc (p' := 77) f_314_74 rfl (L' := [some (.inr (.inr (40, k0, i0))), some (.inl x1), some (.inl x2), some (.inl (wr (x3 + 1))), o4, o5]) rfl rfl
 (w_goto (p' := 60) f_314_77 rfl
 ((h.2 c102).2))))))))))
set_option maxRecDepth 100000 in
theorem T_Z_paper_96 (k0 i0 x1 x3 x4 : Int) (o2 o5 : Option AV) (σ : ST) (Q : Option AV → ST → Prop) (h :
  ((0 : Int) ≤ x1 ∧ (x1 : Int) < 5) ∧
  ((((σ 45 0 0 x1) ≤ x4 : Prop) →
    Q (some (.inl x3)) σ) ∧
  (¬ ((σ 45 0 0 x1) ≤ x4) →
    wpM m_Z_stepOf [.inr (.inr (40, k0, i0)), .inl x1, .inl x4, .inl 2] σ (asI fun r101 s101 =>
    wpM m_Z_stepOf [.inr (.inr (40, k0, i0)), .inl x1, .inl x4, .inl 0] s101 (asI fun r102 s102 =>
    (((r102 ≠ 2 : Prop) →
      wpM m_Z_stepOf [.inr (.inr (40, k0, i0)), .inl x1, .inl x4, .inl 0] s102 (asI fun r103 s103 =>
      (((r103 ≠ 3 : Prop) →
        wp m_Z_paper (96, [some (.inr (.inr (40, k0, i0))), some (.inl x1), o2, some (.inl x3), some (.inl (wr (x4 + 1))), some (.inl r101)], [], s103) Q) ∧
      (¬ (r103 ≠ 3) →
        ((0 : Int) ≤ r101 ∧ (r101 : Int) < 1000) ∧
        wp m_Z_paper (96, [some (.inr (.inr (40, k0, i0))), some (.inl x1), o2, some (.inl (wr ((wr ((wr (31 * x3)) + 1000)) + (s103 49 0 0 r101)))), some (.inl (wr (x4 + 1))), some (.inl r101)], [], s103) Q)))) ∧
    (¬ (r102 ≠ 2) →
      wpM m_Z_stepOf [.inr (.inr (40, k0, i0)), .inl x1, .inl x4, .inl 3] s102 (asI fun r105 s105 =>
      wpM m_Z_stepOf [.inr (.inr (40, k0, i0)), .inl x1, .inl x4, .inl 4] s105 (asI fun r106 s106 =>
      wpM m_Z_stepOf [.inr (.inr (40, k0, i0)), .inl x1, .inl x4, .inl 5] s106 (asI fun r107 s107 =>
      ((0 : Int) ≤ r101 ∧ (r101 : Int) < 1000) ∧
      wp m_Z_paper (96, [some (.inr (.inr (40, k0, i0))), some (.inl x1), o2, some (.inl (wr ((wr ((wr ((wr (31 * x3)) + (wr (64 * r101)))) + (wr (8 * r105)))) + r106))), some (.inl (wr (x4 + 1))), some (.inl r101)], [], (up s107 49 0 0 r101 r107)) Q)))))))))) :
  wp m_Z_paper (96, [some (.inr (.inr (40, k0, i0))), some (.inl x1), o2, some (.inl x3), some (.inl x4), o5], [], σ) Q :=
 w_iload (p' := 98) f_314_96 rfl rfl
 (w_aload_n (p' := 99) f_314_98 rfl rfl
 (w_getfield (p' := 102) f_314_99 rfl (x := .inr (.inr (45, 0, 0))) rfl rfl
 (w_iload_n (p' := 103) f_314_102 rfl rfl
 (w_iaload (p' := 104) f_314_103 rfl (n := 5) rfl h.1 rfl
 (w_icmp (p' := 214) (q' := 107) f_314_104 rfl rfl
 (fun c109 => w_iload_n (p' := 215) f_314_214 rfl rfl
 (w_iret f_314_215 rk_314 (h.2.1 c109)))
 (fun c109 => w_aload_n (p' := 108) f_314_107 rfl rfl
 (w_iload_n (p' := 109) f_314_108 rfl rfl
 (w_iload (p' := 111) f_314_109 rfl rfl
 (w_iconst (p' := 112) f_314_111 rfl
 (w_callV (p' := 115) f_314_112 rfl rfl rfl rfl rfl (r := []) rfl rfl (kI (.inl rk_313) fun r101 s101 h101 =>
 w_istore (p' := 117) f_314_115 (L' := [some (.inr (.inr (40, k0, i0))), some (.inl x1), o2, some (.inl x3), some (.inl x4), some (.inl r101)]) rfl rfl
 (w_aload_n (p' := 118) f_314_117 rfl rfl
 (w_iload_n (p' := 119) f_314_118 rfl rfl
 (w_iload (p' := 121) f_314_119 rfl rfl
 (w_iconst (p' := 122) f_314_121 rfl
 (w_callV (p' := 125) f_314_122 rfl rfl rfl rfl rfl (r := []) rfl rfl (kI (.inl rk_313) fun r102 s102 h102 =>
 w_iconst (p' := 126) f_314_125 rfl
 (w_icmp (p' := 179) (q' := 129) f_314_126 rfl rfl
 (fun c108 => w_aload_n (p' := 180) f_314_179 rfl rfl
 (w_iload_n (p' := 181) f_314_180 rfl rfl
 (w_iload (p' := 183) f_314_181 rfl rfl
 (w_iconst (p' := 184) f_314_183 rfl
 (w_callV (p' := 187) f_314_184 rfl rfl rfl rfl rfl (r := []) rfl rfl (kI (.inl rk_313) fun r103 s103 h103 =>
 w_iconst (p' := 188) f_314_187 rfl
 (w_icmp (p' := 208) (q' := 191) f_314_188 rfl rfl
 (fun c104 => w_iinc (p' := 211) f_314_208 rfl (L' := [some (.inr (.inr (40, k0, i0))), some (.inl x1), o2, some (.inl x3), some (.inl (wr (x4 + 1))), some (.inl r101)]) rfl rfl
 (w_goto (p' := 96) f_314_211 rfl
 ((h103.1 c104))))
 (fun c104 => w_bipush (p' := 193) f_314_191 rfl
 (w_iload_n (p' := 194) f_314_193 rfl rfl
 (w_imul (p' := 195) f_314_194 rfl
 (w_sipush (p' := 198) f_314_195 rfl
 (w_iadd (p' := 199) f_314_198 rfl
 (w_aload_n (p' := 200) f_314_199 rfl rfl
 (w_getfield (p' := 203) f_314_200 rfl (x := .inr (.inr (49, 0, 0))) rfl rfl
 (w_iload (p' := 205) f_314_203 rfl rfl
 (w_iaload (p' := 206) f_314_205 rfl (n := 1000) rfl (h103.2 c104).1 rfl
 (w_iadd (p' := 207) f_314_206 rfl
 (w_istore_n (p' := 208) f_314_207 (L' := [some (.inr (.inr (40, k0, i0))), some (.inl x1), o2, some (.inl (wr ((wr ((wr (31 * x3)) + 1000)) + (s103 49 0 0 r101)))), some (.inl x4), some (.inl r101)]) rfl rfl
 (w_iinc (p' := 211) f_314_208 rfl (L' := [some (.inr (.inr (40, k0, i0))), some (.inl x1), o2, some (.inl (wr ((wr ((wr (31 * x3)) + 1000)) + (s103 49 0 0 r101)))), some (.inl (wr (x4 + 1))), some (.inl r101)]) rfl rfl
 (w_goto (p' := 96) f_314_211 rfl
 ((h103.2 c104).2)))))))))))))))) (h102.1 c108))))))
 (fun c108 => w_bipush (p' := 131) f_314_129 rfl
 (w_iload_n (p' := 132) f_314_131 rfl rfl
 (w_imul (p' := 133) f_314_132 rfl
 (w_bipush (p' := 135) f_314_133 rfl
 (w_iload (p' := 137) f_314_135 rfl rfl
 (w_imul (p' := 138) f_314_137 rfl
 (w_iadd (p' := 139) f_314_138 rfl
 (w_bipush (p' := 141) f_314_139 rfl
 (w_aload_n (p' := 142) f_314_141 rfl rfl
 (w_iload_n (p' := 143) f_314_142 rfl rfl
 (w_iload (p' := 145) f_314_143 rfl rfl
 (w_iconst (p' := 146) f_314_145 rfl
 (w_callV (p' := 149) f_314_146 rfl rfl rfl rfl rfl (r := [.inl 8, .inl (wr ((wr (31 * x3)) + (wr (64 * r101))))]) rfl rfl (kI (.inl rk_313) fun r105 s105 h105 =>
 w_imul (p' := 150) f_314_149 rfl
 (w_iadd (p' := 151) f_314_150 rfl
 (w_aload_n (p' := 152) f_314_151 rfl rfl
 (w_iload_n (p' := 153) f_314_152 rfl rfl
 (w_iload (p' := 155) f_314_153 rfl rfl
 (w_iconst (p' := 156) f_314_155 rfl
 (w_callV (p' := 159) f_314_156 rfl rfl rfl rfl rfl (r := [.inl (wr ((wr ((wr (31 * x3)) + (wr (64 * r101)))) + (wr (8 * r105))))]) rfl rfl (kI (.inl rk_313) fun r106 s106 h106 =>
 w_iadd (p' := 160) f_314_159 rfl
 (w_istore_n (p' := 161) f_314_160 (L' := [some (.inr (.inr (40, k0, i0))), some (.inl x1), o2, some (.inl (wr ((wr ((wr ((wr (31 * x3)) + (wr (64 * r101)))) + (wr (8 * r105)))) + r106))), some (.inl x4), some (.inl r101)]) rfl rfl
 (w_aload_n (p' := 162) f_314_161 rfl rfl
 (w_getfield (p' := 165) f_314_162 rfl (x := .inr (.inr (49, 0, 0))) rfl rfl
 (w_iload (p' := 167) f_314_165 rfl rfl
 (w_aload_n (p' := 168) f_314_167 rfl rfl
 (w_iload_n (p' := 169) f_314_168 rfl rfl
 (w_iload (p' := 171) f_314_169 rfl rfl
 (w_iconst (p' := 172) f_314_171 rfl
 (w_callV (p' := 175) f_314_172 rfl rfl rfl rfl rfl (r := [.inl r101, .inr (.inr (49, 0, 0))]) rfl rfl (kI (.inl rk_313) fun r107 s107 h107 =>
 w_iastore (p' := 176) f_314_175 rfl (n := 1000) rfl h107.1 rfl
 (w_goto (p' := 208) f_314_176 rfl
 (w_iinc (p' := 211) f_314_208 rfl (L' := [some (.inr (.inr (40, k0, i0))), some (.inl x1), o2, some (.inl (wr ((wr ((wr ((wr (31 * x3)) + (wr (64 * r101)))) + (wr (8 * r105)))) + r106))), some (.inl (wr (x4 + 1))), some (.inl r101)]) rfl rfl
 (w_goto (p' := 96) f_314_211 rfl
 (h107.2))))) h106)))))))))) h105))))))) (h102.2 c108)))))))))))))))) h101)))))) (h.2.2 c109)))))))))))
/-! ClosedRoomsModel.alike(II)Z -/
theorem f_315_0 : fnd 315 0 = some (0, .aload_n 0, 1, 0, 0, 0, 0) := ceB_eq (by decide +kernel)
theorem f_315_1 : fnd 315 1 = some (1, .iload_n 1, 1, 0, 0, 0, 0) := ceB_eq (by decide +kernel)
theorem f_315_2 : fnd 315 2 = some (2, .invokevirtual 252, 3, 201, 2, 10, 0) := ceB_eq (by decide +kernel)
theorem f_315_5 : fnd 315 5 = some (5, .ifCond .eq 35, 3, 0, 0, 0, 0) := ceB_eq (by decide +kernel)
theorem f_315_8 : fnd 315 8 = some (8, .aload_n 0, 1, 0, 0, 0, 0) := ceB_eq (by decide +kernel)
theorem f_315_9 : fnd 315 9 = some (9, .iload_n 2, 1, 0, 0, 0, 0) := ceB_eq (by decide +kernel)
theorem f_315_10 : fnd 315 10 = some (10, .invokevirtual 252, 3, 201, 2, 10, 0) := ceB_eq (by decide +kernel)
theorem f_315_13 : fnd 315 13 = some (13, .ifCond .eq 27, 3, 0, 0, 0, 0) := ceB_eq (by decide +kernel)
theorem f_315_16 : fnd 315 16 = some (16, .iload_n 1, 1, 0, 0, 0, 0) := ceB_eq (by decide +kernel)
theorem f_315_17 : fnd 315 17 = some (17, .iload_n 2, 1, 0, 0, 0, 0) := ceB_eq (by decide +kernel)
theorem f_315_18 : fnd 315 18 = some (18, .if_icmp .eq 22, 3, 0, 0, 0, 0) := ceB_eq (by decide +kernel)
theorem f_315_21 : fnd 315 21 = some (21, .aload_n 0, 1, 0, 0, 0, 0) := ceB_eq (by decide +kernel)
theorem f_315_22 : fnd 315 22 = some (22, .iload_n 1, 1, 0, 0, 0, 0) := ceB_eq (by decide +kernel)
theorem f_315_23 : fnd 315 23 = some (23, .iconst 4, 1, 0, 0, 0, 0) := ceB_eq (by decide +kernel)
theorem f_315_24 : fnd 315 24 = some (24, .invokevirtual 209, 3, 198, 3, 10, 0) := ceB_eq (by decide +kernel)
theorem f_315_27 : fnd 315 27 = some (27, .aload_n 0, 1, 0, 0, 0, 0) := ceB_eq (by decide +kernel)
theorem f_315_28 : fnd 315 28 = some (28, .iload_n 2, 1, 0, 0, 0, 0) := ceB_eq (by decide +kernel)
theorem f_315_29 : fnd 315 29 = some (29, .iconst 4, 1, 0, 0, 0, 0) := ceB_eq (by decide +kernel)
theorem f_315_30 : fnd 315 30 = some (30, .invokevirtual 209, 3, 198, 3, 10, 0) := ceB_eq (by decide +kernel)
theorem f_315_33 : fnd 315 33 = some (33, .if_icmp .ne 7, 3, 0, 0, 0, 0) := ceB_eq (by decide +kernel)
theorem f_315_36 : fnd 315 36 = some (36, .iconst 1, 1, 0, 0, 0, 0) := ceB_eq (by decide +kernel)
theorem f_315_37 : fnd 315 37 = some (37, .goto 4, 3, 0, 0, 0, 0) := ceB_eq (by decide +kernel)
theorem f_315_40 : fnd 315 40 = some (40, .iconst 0, 1, 0, 0, 0, 0) := ceB_eq (by decide +kernel)
theorem f_315_41 : fnd 315 41 = some (41, .ireturn, 1, 0, 0, 0, 0) := ceB_eq (by decide +kernel)
theorem rk_315 : rkm 315 = 1 := by decide +kernel
theorem ml_315 : (mth 315).2.1 = 3 := by decide +kernel
set_option maxRecDepth 100000 in
theorem T_Z_alike (k0 i0 x1 x2 : Int) (σ : ST) (Q : Option AV → ST → Prop) (h :
  wpM m_Z_isRoom [.inr (.inr (40, k0, i0)), .inl x1] σ (asI fun r101 s101 =>
  (((r101 = 0 : Prop) →
    ((0 : Int) = 0 ∨ (0 : Int) = 1) ∧ Q (some (.inl 0)) s101) ∧
  (¬ (r101 = 0) →
    wpM m_Z_isRoom [.inr (.inr (40, k0, i0)), .inl x2] s101 (asI fun r102 s102 =>
    (((r102 = 0 : Prop) →
      ((0 : Int) = 0 ∨ (0 : Int) = 1) ∧ Q (some (.inl 0)) s102) ∧
    (¬ (r102 = 0) →
      (((x1 = x2 : Prop) →
        ((0 : Int) = 0 ∨ (0 : Int) = 1) ∧ Q (some (.inl 0)) s102) ∧
      (¬ (x1 = x2) →
        wpM m_Z_ofRoom [.inr (.inr (40, k0, i0)), .inl x1, .inl 4] s102 (asI fun r103 s103 =>
        wpM m_Z_ofRoom [.inr (.inr (40, k0, i0)), .inl x2, .inl 4] s103 (asI fun r104 s104 =>
        (((r103 ≠ r104 : Prop) →
          ((0 : Int) = 0 ∨ (0 : Int) = 1) ∧ Q (some (.inl 0)) s104) ∧
        (¬ (r103 ≠ r104) →
          ((1 : Int) = 0 ∨ (1 : Int) = 1) ∧ Q (some (.inl 1)) s104))))))))))))) :
  wpM m_Z_alike [.inr (.inr (40, k0, i0)), .inl x1, .inl x2] σ Q :=
 wpM_of ml_315 (L := [some (.inr (.inr (40, k0, i0))), some (.inl x1), some (.inl x2)]) rfl
 (w_aload_n (p' := 1) f_315_0 rfl rfl
 (w_iload_n (p' := 2) f_315_1 rfl rfl
 (w_callV (p' := 5) f_315_2 rfl rfl rfl rfl rfl (r := []) rfl rfl (kI (.inr rk_201) fun r101 s101 h101 =>
 w_if (p' := 40) (q' := 8) f_315_5 rfl rfl
 (fun c108 => w_iconst (p' := 41) f_315_40 rfl
 (w_zret f_315_41 rk_315 (h101.1 c108).1 (h101.1 c108).2))
 (fun c108 => w_aload_n (p' := 9) f_315_8 rfl rfl
 (w_iload_n (p' := 10) f_315_9 rfl rfl
 (w_callV (p' := 13) f_315_10 rfl rfl rfl rfl rfl (r := []) rfl rfl (kI (.inr rk_201) fun r102 s102 h102 =>
 w_if (p' := 40) (q' := 16) f_315_13 rfl rfl
 (fun c107 => w_iconst (p' := 41) f_315_40 rfl
 (w_zret f_315_41 rk_315 (h102.1 c107).1 (h102.1 c107).2))
 (fun c107 => w_iload_n (p' := 17) f_315_16 rfl rfl
 (w_iload_n (p' := 18) f_315_17 rfl rfl
 (w_icmp (p' := 40) (q' := 21) f_315_18 rfl rfl
 (fun c106 => w_iconst (p' := 41) f_315_40 rfl
 (w_zret f_315_41 rk_315 ((h102.2 c107).1 c106).1 ((h102.2 c107).1 c106).2))
 (fun c106 => w_aload_n (p' := 22) f_315_21 rfl rfl
 (w_iload_n (p' := 23) f_315_22 rfl rfl
 (w_iconst (p' := 24) f_315_23 rfl
 (w_callV (p' := 27) f_315_24 rfl rfl rfl rfl rfl (r := []) rfl rfl (kI (.inl rk_198) fun r103 s103 h103 =>
 w_aload_n (p' := 28) f_315_27 rfl rfl
 (w_iload_n (p' := 29) f_315_28 rfl rfl
 (w_iconst (p' := 30) f_315_29 rfl
 (w_callV (p' := 33) f_315_30 rfl rfl rfl rfl rfl (r := [.inl r103]) rfl rfl (kI (.inl rk_198) fun r104 s104 h104 =>
 w_icmp (p' := 40) (q' := 36) f_315_33 rfl rfl
 (fun c105 => w_iconst (p' := 41) f_315_40 rfl
 (w_zret f_315_41 rk_315 (h104.1 c105).1 (h104.1 c105).2))
 (fun c105 => w_iconst (p' := 37) f_315_36 rfl
 (w_goto (p' := 41) f_315_37 rfl
 (w_zret f_315_41 rk_315 (h104.2 c105).1 (h104.2 c105).2)))) h103)))) ((h102.2 c107).2 c106))))))))) (h101.2 c108))))) h)))
/-! ClosedRoomsModel.byteAt(Ljava/lang/String;I)I -/
theorem f_316_0 : fnd 316 0 = some (0, .iload_n 1, 1, 0, 0, 0, 0) := ceB_eq (by decide +kernel)
theorem f_316_1 : fnd 316 1 = some (1, .iconst 0, 1, 0, 0, 0, 0) := ceB_eq (by decide +kernel)
theorem f_316_2 : fnd 316 2 = some (2, .aload_n 0, 1, 0, 0, 0, 0) := ceB_eq (by decide +kernel)
theorem f_316_3 : fnd 316 3 = some (3, .invokevirtual 99, 3, 901, 1, 0, 0) := ceB_eq (by decide +kernel)
theorem f_316_6 : fnd 316 6 = some (6, .iconst 1, 1, 0, 0, 0, 0) := ceB_eq (by decide +kernel)
theorem f_316_7 : fnd 316 7 = some (7, .isub, 1, 0, 0, 0, 0) := ceB_eq (by decide +kernel)
theorem f_316_8 : fnd 316 8 = some (8, .invokestatic 54, 3, 168, 3, 10, 0) := ceB_eq (by decide +kernel)
theorem f_316_11 : fnd 316 11 = some (11, .ifCond .eq 11, 3, 0, 0, 0, 0) := ceB_eq (by decide +kernel)
theorem f_316_14 : fnd 316 14 = some (14, .aload_n 0, 1, 0, 0, 0, 0) := ceB_eq (by decide +kernel)
theorem f_316_15 : fnd 316 15 = some (15, .iload_n 1, 1, 0, 0, 0, 0) := ceB_eq (by decide +kernel)
theorem f_316_16 : fnd 316 16 = some (16, .invokevirtual 104, 3, 902, 2, 0, 0) := ceB_eq (by decide +kernel)
theorem f_316_19 : fnd 316 19 = some (19, .goto 4, 3, 0, 0, 0, 0) := ceB_eq (by decide +kernel)
theorem f_316_22 : fnd 316 22 = some (22, .iconst (-1), 1, 0, 0, 0, 0) := ceB_eq (by decide +kernel)
theorem f_316_23 : fnd 316 23 = some (23, .ireturn, 1, 0, 0, 0, 0) := ceB_eq (by decide +kernel)
theorem rk_316 : rkm 316 = 0 := by decide +kernel
theorem ml_316 : (mth 316).2.1 = 2 := by decide +kernel
set_option maxRecDepth 100000 in
theorem T_Z_byteAt (k1 i1 x2 : Int) (σ : ST) (Q : Option AV → ST → Prop) (h :
  ((0 : Int) ≤ k1 ∧ k1 < (strs.length : Int)) ∧
  wpM m_Z_in [.inl x2, .inl 0, .inl (wr (((strs.getD (Int.toNat k1) []).length : Int) - 1))] σ (asI fun r101 s101 =>
  (((r101 = 0 : Prop) →
    Q (some (.inl (-1))) s101) ∧
  (¬ (r101 = 0) →
    (((0 : Int) ≤ k1 ∧ k1 < (strs.length : Int)) ∧ (0 : Int) ≤ x2 ∧ x2 < ((strs.getD (Int.toNat k1) []).length : Int)) ∧
    Q (some (.inl ((strs.getD (Int.toNat k1) []).getD (Int.toNat x2) 0))) s101)))) :
  wpM m_Z_byteAt [.inr (.inr (70, k1, i1)), .inl x2] σ Q :=
 wpM_of ml_316 (L := [some (.inr (.inr (70, k1, i1))), some (.inl x2)]) rfl
 (w_iload_n (p' := 1) f_316_0 rfl rfl
 (w_iconst (p' := 2) f_316_1 rfl
 (w_aload_n (p' := 3) f_316_2 rfl rfl
 (w_slen (p' := 6) f_316_3 rfl h.1 rfl
 (w_iconst (p' := 7) f_316_6 rfl
 (w_isub (p' := 8) f_316_7 rfl
 (w_callS (p' := 11) f_316_8 rfl rfl rfl (r := []) rfl rfl (kI (.inr rk_168) fun r101 s101 h101 =>
 w_if (p' := 22) (q' := 14) f_316_11 rfl rfl
 (fun c102 => w_iconst (p' := 23) f_316_22 rfl
 (w_iret f_316_23 rk_316 (h101.1 c102)))
 (fun c102 => w_aload_n (p' := 15) f_316_14 rfl rfl
 (w_iload_n (p' := 16) f_316_15 rfl rfl
 (w_schar (p' := 19) f_316_16 rfl (h101.2 c102).1 rfl
 (w_goto (p' := 23) f_316_19 rfl
 (w_iret f_316_23 rk_316 (h101.2 c102).2)))))) h.2)))))))
/-! ClosedRoomsModel.spell(II)I -/
theorem f_317_0 : fnd 317 0 = some (0, .aload_n 0, 1, 0, 0, 0, 0) := ceB_eq (by decide +kernel)
theorem f_317_1 : fnd 317 1 = some (1, .iload_n 1, 1, 0, 0, 0, 0) := ceB_eq (by decide +kernel)
theorem f_317_2 : fnd 317 2 = some (2, .invokevirtual 203, 3, 211, 2, 10, 0) := ceB_eq (by decide +kernel)
theorem f_317_5 : fnd 317 5 = some (5, .ifCond .ne 5, 3, 0, 0, 0, 0) := ceB_eq (by decide +kernel)
theorem f_317_8 : fnd 317 8 = some (8, .iconst (-1), 1, 0, 0, 0, 0) := ceB_eq (by decide +kernel)
theorem f_317_9 : fnd 317 9 = some (9, .ireturn, 1, 0, 0, 0, 0) := ceB_eq (by decide +kernel)
theorem f_317_10 : fnd 317 10 = some (10, .aload_n 0, 1, 0, 0, 0, 0) := ceB_eq (by decide +kernel)
theorem f_317_11 : fnd 317 11 = some (11, .iload_n 1, 1, 0, 0, 0, 0) := ceB_eq (by decide +kernel)
theorem f_317_12 : fnd 317 12 = some (12, .iconst 0, 1, 0, 0, 0, 0) := ceB_eq (by decide +kernel)
theorem f_317_13 : fnd 317 13 = some (13, .invokevirtual 206, 3, 196, 3, 10, 0) := ceB_eq (by decide +kernel)
theorem f_317_16 : fnd 317 16 = some (16, .istore_n 3, 1, 0, 0, 0, 0) := ceB_eq (by decide +kernel)
theorem f_317_17 : fnd 317 17 = some (17, .iload_n 3, 1, 0, 0, 0, 0) := ceB_eq (by decide +kernel)
theorem f_317_18 : fnd 317 18 = some (18, .ifCond .eq 12, 3, 0, 0, 0, 0) := ceB_eq (by decide +kernel)
theorem f_317_21 : fnd 317 21 = some (21, .iload_n 3, 1, 0, 0, 0, 0) := ceB_eq (by decide +kernel)
theorem f_317_22 : fnd 317 22 = some (22, .iconst 4, 1, 0, 0, 0, 0) := ceB_eq (by decide +kernel)
theorem f_317_23 : fnd 317 23 = some (23, .if_icmp .eq 7, 3, 0, 0, 0, 0) := ceB_eq (by decide +kernel)
theorem f_317_26 : fnd 317 26 = some (26, .iconst 1, 1, 0, 0, 0, 0) := ceB_eq (by decide +kernel)
theorem f_317_27 : fnd 317 27 = some (27, .goto 4, 3, 0, 0, 0, 0) := ceB_eq (by decide +kernel)
theorem f_317_30 : fnd 317 30 = some (30, .iconst 0, 1, 0, 0, 0, 0) := ceB_eq (by decide +kernel)
theorem f_317_31 : fnd 317 31 = some (31, .istore 4, 2, 0, 0, 0, 0) := ceB_eq (by decide +kernel)
theorem f_317_33 : fnd 317 33 = some (33, .iload 4, 2, 0, 0, 0, 0) := ceB_eq (by decide +kernel)
theorem f_317_35 : fnd 317 35 = some (35, .ifCond .eq 8, 3, 0, 0, 0, 0) := ceB_eq (by decide +kernel)
theorem f_317_38 : fnd 317 38 = some (38, .bipush 13, 2, 0, 0, 0, 0) := ceB_eq (by decide +kernel)
theorem f_317_40 : fnd 317 40 = some (40, .goto 14, 3, 0, 0, 0, 0) := ceB_eq (by decide +kernel)
theorem f_317_43 : fnd 317 43 = some (43, .iload_n 3, 1, 0, 0, 0, 0) := ceB_eq (by decide +kernel)
theorem f_317_44 : fnd 317 44 = some (44, .ifCond .ne 8, 3, 0, 0, 0, 0) := ceB_eq (by decide +kernel)
theorem f_317_47 : fnd 317 47 = some (47, .bipush 6, 2, 0, 0, 0, 0) := ceB_eq (by decide +kernel)
theorem f_317_49 : fnd 317 49 = some (49, .goto 5, 3, 0, 0, 0, 0) := ceB_eq (by decide +kernel)
theorem f_317_52 : fnd 317 52 = some (52, .bipush 7, 2, 0, 0, 0, 0) := ceB_eq (by decide +kernel)
theorem f_317_54 : fnd 317 54 = some (54, .istore 5, 2, 0, 0, 0, 0) := ceB_eq (by decide +kernel)
theorem f_317_56 : fnd 317 56 = some (56, .iload_n 2, 1, 0, 0, 0, 0) := ceB_eq (by decide +kernel)
theorem f_317_57 : fnd 317 57 = some (57, .iconst (-1), 1, 0, 0, 0, 0) := ceB_eq (by decide +kernel)
theorem f_317_58 : fnd 317 58 = some (58, .if_icmp .ne 6, 3, 0, 0, 0, 0) := ceB_eq (by decide +kernel)
theorem f_317_61 : fnd 317 61 = some (61, .iload 5, 2, 0, 0, 0, 0) := ceB_eq (by decide +kernel)
theorem f_317_63 : fnd 317 63 = some (63, .ireturn, 1, 0, 0, 0, 0) := ceB_eq (by decide +kernel)
theorem f_317_64 : fnd 317 64 = some (64, .iload_n 2, 1, 0, 0, 0, 0) := ceB_eq (by decide +kernel)
theorem f_317_65 : fnd 317 65 = some (65, .iload 5, 2, 0, 0, 0, 0) := ceB_eq (by decide +kernel)
theorem f_317_67 : fnd 317 67 = some (67, .iconst 1, 1, 0, 0, 0, 0) := ceB_eq (by decide +kernel)
theorem f_317_68 : fnd 317 68 = some (68, .isub, 1, 0, 0, 0, 0) := ceB_eq (by decide +kernel)
theorem f_317_69 : fnd 317 69 = some (69, .if_icmp .ne 8, 3, 0, 0, 0, 0) := ceB_eq (by decide +kernel)
theorem f_317_72 : fnd 317 72 = some (72, .bipush 48, 2, 0, 0, 0, 0) := ceB_eq (by decide +kernel)
theorem f_317_74 : fnd 317 74 = some (74, .iload_n 1, 1, 0, 0, 0, 0) := ceB_eq (by decide +kernel)
theorem f_317_75 : fnd 317 75 = some (75, .iadd, 1, 0, 0, 0, 0) := ceB_eq (by decide +kernel)
theorem f_317_76 : fnd 317 76 = some (76, .ireturn, 1, 0, 0, 0, 0) := ceB_eq (by decide +kernel)
theorem f_317_77 : fnd 317 77 = some (77, .iload 4, 2, 0, 0, 0, 0) := ceB_eq (by decide +kernel)
theorem f_317_79 : fnd 317 79 = some (79, .ifCond .eq 28, 3, 0, 0, 0, 0) := ceB_eq (by decide +kernel)
theorem f_317_82 : fnd 317 82 = some (82, .iload_n 2, 1, 0, 0, 0, 0) := ceB_eq (by decide +kernel)
theorem f_317_83 : fnd 317 83 = some (83, .iconst 5, 1, 0, 0, 0, 0) := ceB_eq (by decide +kernel)
theorem f_317_84 : fnd 317 84 = some (84, .if_icmp .ne 15, 3, 0, 0, 0, 0) := ceB_eq (by decide +kernel)
theorem f_317_87 : fnd 317 87 = some (87, .bipush 48, 2, 0, 0, 0, 0) := ceB_eq (by decide +kernel)
theorem f_317_89 : fnd 317 89 = some (89, .aload_n 0, 1, 0, 0, 0, 0) := ceB_eq (by decide +kernel)
theorem f_317_90 : fnd 317 90 = some (90, .iload_n 1, 1, 0, 0, 0, 0) := ceB_eq (by decide +kernel)
theorem f_317_91 : fnd 317 91 = some (91, .iconst 1, 1, 0, 0, 0, 0) := ceB_eq (by decide +kernel)
theorem f_317_92 : fnd 317 92 = some (92, .invokevirtual 206, 3, 196, 3, 10, 0) := ceB_eq (by decide +kernel)
theorem f_317_95 : fnd 317 95 = some (95, .iadd, 1, 0, 0, 0, 0) := ceB_eq (by decide +kernel)
theorem f_317_96 : fnd 317 96 = some (96, .goto 10, 3, 0, 0, 0, 0) := ceB_eq (by decide +kernel)
theorem f_317_99 : fnd 317 99 = some (99, .ldc_w 471, 3, 1, 0, 0, 25) := ceB_eq (by decide +kernel)
theorem f_317_102 : fnd 317 102 = some (102, .iload_n 2, 1, 0, 0, 0, 0) := ceB_eq (by decide +kernel)
theorem f_317_103 : fnd 317 103 = some (103, .invokestatic 473, 3, 316, 2, 10, 0) := ceB_eq (by decide +kernel)
theorem f_317_106 : fnd 317 106 = some (106, .ireturn, 1, 0, 0, 0, 0) := ceB_eq (by decide +kernel)
theorem f_317_107 : fnd 317 107 = some (107, .iload_n 3, 1, 0, 0, 0, 0) := ceB_eq (by decide +kernel)
theorem f_317_108 : fnd 317 108 = some (108, .ifCond .ne 9, 3, 0, 0, 0, 0) := ceB_eq (by decide +kernel)
theorem f_317_111 : fnd 317 111 = some (111, .ldc_w 477, 3, 1, 0, 0, 23) := ceB_eq (by decide +kernel)
theorem f_317_114 : fnd 317 114 = some (114, .goto 6, 3, 0, 0, 0, 0) := ceB_eq (by decide +kernel)
theorem f_317_117 : fnd 317 117 = some (117, .ldc_w 479, 3, 1, 0, 0, 22) := ceB_eq (by decide +kernel)
theorem f_317_120 : fnd 317 120 = some (120, .iload_n 2, 1, 0, 0, 0, 0) := ceB_eq (by decide +kernel)
theorem f_317_121 : fnd 317 121 = some (121, .invokestatic 473, 3, 316, 2, 10, 0) := ceB_eq (by decide +kernel)
theorem f_317_124 : fnd 317 124 = some (124, .ireturn, 1, 0, 0, 0, 0) := ceB_eq (by decide +kernel)
theorem rk_317 : rkm 317 = 0 := by decide +kernel
theorem ml_317 : (mth 317).2.1 = 6 := by decide +kernel
set_option maxRecDepth 100000 in
theorem T_Z_spell (k0 i0 x1 x2 : Int) (σ : ST) (Q : Option AV → ST → Prop) (h :
  wpM m_Z_isPage [.inr (.inr (40, k0, i0)), .inl x1] σ (asI fun r101 s101 =>
  (((r101 ≠ 0 : Prop) →
    wpM m_Z_ofPage [.inr (.inr (40, k0, i0)), .inl x1, .inl 0] s101 (asI fun r102 s102 =>
    (((r102 = 0 : Prop) →
      wp m_Z_spell (31, [some (.inr (.inr (40, k0, i0))), some (.inl x1), some (.inl x2), some (.inl r102), none, none], [.inl 0], s102) Q) ∧
    (¬ (r102 = 0) →
      (((r102 = 4 : Prop) →
        wp m_Z_spell (31, [some (.inr (.inr (40, k0, i0))), some (.inl x1), some (.inl x2), some (.inl r102), none, none], [.inl 0], s102) Q) ∧
      (¬ (r102 = 4) →
        wp m_Z_spell (31, [some (.inr (.inr (40, k0, i0))), some (.inl x1), some (.inl x2), some (.inl r102), none, none], [.inl 1], s102) Q)))))) ∧
  (¬ (r101 ≠ 0) →
    Q (some (.inl (-1))) s101)))) :
  wpM m_Z_spell [.inr (.inr (40, k0, i0)), .inl x1, .inl x2] σ Q :=
 wpM_of ml_317 (L := [some (.inr (.inr (40, k0, i0))), some (.inl x1), some (.inl x2), none, none, none]) rfl
 (w_aload_n (p' := 1) f_317_0 rfl rfl
 (w_iload_n (p' := 2) f_317_1 rfl rfl
 (w_callV (p' := 5) f_317_2 rfl rfl rfl rfl rfl (r := []) rfl rfl (kI (.inr rk_211) fun r101 s101 h101 =>
 w_if (p' := 10) (q' := 8) f_317_5 rfl rfl
 (fun c105 => w_aload_n (p' := 11) f_317_10 rfl rfl
 (w_iload_n (p' := 12) f_317_11 rfl rfl
 (w_iconst (p' := 13) f_317_12 rfl
 (w_callV (p' := 16) f_317_13 rfl rfl rfl rfl rfl (r := []) rfl rfl (kI (.inl rk_196) fun r102 s102 h102 =>
 w_istore_n (p' := 17) f_317_16 (L' := [some (.inr (.inr (40, k0, i0))), some (.inl x1), some (.inl x2), some (.inl r102), none, none]) rfl rfl
 (w_iload_n (p' := 18) f_317_17 rfl rfl
 (w_if (p' := 30) (q' := 21) f_317_18 rfl rfl
 (fun c104 => w_iconst (p' := 31) f_317_30 rfl
 ((h102.1 c104)))
 (fun c104 => w_iload_n (p' := 22) f_317_21 rfl rfl
 (w_iconst (p' := 23) f_317_22 rfl
 (w_icmp (p' := 30) (q' := 26) f_317_23 rfl rfl
 (fun c103 => w_iconst (p' := 31) f_317_30 rfl
 (((h102.2 c104).1 c103)))
 (fun c103 => w_iconst (p' := 27) f_317_26 rfl
 (w_goto (p' := 31) f_317_27 rfl
 (((h102.2 c104).2 c103)))))))))) (h101.1 c105)))))
 (fun c105 => w_iconst (p' := 9) f_317_8 rfl
 (w_iret f_317_9 rk_317 (h101.2 c105)))) h)))
set_option maxRecDepth 100000 in
theorem T_Z_spell_31 (k0 i0 x1 x2 x3 t0 : Int) (o4 o5 : Option AV) (σ : ST) (Q : Option AV → ST → Prop) (h :
  (((t0 = 0 : Prop) →
    (((x3 ≠ 0 : Prop) →
      wp m_Z_spell (54, [some (.inr (.inr (40, k0, i0))), some (.inl x1), some (.inl x2), some (.inl x3), some (.inl t0), o5], [.inl 7], σ) Q) ∧
    (¬ (x3 ≠ 0) →
      wp m_Z_spell (54, [some (.inr (.inr (40, k0, i0))), some (.inl x1), some (.inl x2), some (.inl x3), some (.inl t0), o5], [.inl 6], σ) Q))) ∧
  (¬ (t0 = 0) →
    wp m_Z_spell (54, [some (.inr (.inr (40, k0, i0))), some (.inl x1), some (.inl x2), some (.inl x3), some (.inl t0), o5], [.inl 13], σ) Q))) :
  wp m_Z_spell (31, [some (.inr (.inr (40, k0, i0))), some (.inl x1), some (.inl x2), some (.inl x3), o4, o5], [.inl t0], σ) Q :=
 w_istore (p' := 33) f_317_31 (L' := [some (.inr (.inr (40, k0, i0))), some (.inl x1), some (.inl x2), some (.inl x3), some (.inl t0), o5]) rfl rfl
 (w_iload (p' := 35) f_317_33 rfl rfl
 (w_if (p' := 43) (q' := 38) f_317_35 rfl rfl
 (fun c102 => w_iload_n (p' := 44) f_317_43 rfl rfl
 (w_if (p' := 52) (q' := 47) f_317_44 rfl rfl
 (fun c101 => w_bipush (p' := 54) f_317_52 rfl
 (((h.1 c102).1 c101)))
 (fun c101 => w_bipush (p' := 49) f_317_47 rfl
 (w_goto (p' := 54) f_317_49 rfl
 (((h.1 c102).2 c101))))))
 (fun c102 => w_bipush (p' := 40) f_317_38 rfl
 (w_goto (p' := 54) f_317_40 rfl
 ((h.2 c102))))))
set_option maxRecDepth 100000 in
theorem T_Z_spell_54 (k0 i0 x1 x2 x3 x4 t0 : Int) (o5 : Option AV) (σ : ST) (Q : Option AV → ST → Prop) (h :
  (((x2 ≠ (-1) : Prop) →
    (((x2 ≠ (wr (t0 - 1)) : Prop) →
      (((x4 = 0 : Prop) →
        (((x3 ≠ 0 : Prop) →
          wpM m_Z_byteAt [.inr (.inr (70, 22, 0)), .inl x2] σ (asI fun r101 s101 =>
          Q (some (.inl r101)) s101)) ∧
        (¬ (x3 ≠ 0) →
          wpM m_Z_byteAt [.inr (.inr (70, 23, 0)), .inl x2] σ (asI fun r102 s102 =>
          Q (some (.inl r102)) s102)))) ∧
      (¬ (x4 = 0) →
        (((x2 ≠ 5 : Prop) →
          wpM m_Z_byteAt [.inr (.inr (70, 25, 0)), .inl x2] σ (asI fun r104 s104 =>
          Q (some (.inl r104)) s104)) ∧
        (¬ (x2 ≠ 5) →
          wpM m_Z_ofPage [.inr (.inr (40, k0, i0)), .inl x1, .inl 1] σ (asI fun r105 s105 =>
          Q (some (.inl (wr (48 + r105)))) s105)))))) ∧
    (¬ (x2 ≠ (wr (t0 - 1))) →
      Q (some (.inl (wr (48 + x1)))) σ))) ∧
  (¬ (x2 ≠ (-1)) →
    Q (some (.inl t0)) σ))) :
  wp m_Z_spell (54, [some (.inr (.inr (40, k0, i0))), some (.inl x1), some (.inl x2), some (.inl x3), some (.inl x4), o5], [.inl t0], σ) Q :=
 w_istore (p' := 56) f_317_54 (L' := [some (.inr (.inr (40, k0, i0))), some (.inl x1), some (.inl x2), some (.inl x3), some (.inl x4), some (.inl t0)]) rfl rfl
 (w_iload_n (p' := 57) f_317_56 rfl rfl
 (w_iconst (p' := 58) f_317_57 rfl
 (w_icmp (p' := 64) (q' := 61) f_317_58 rfl rfl
 (fun c109 => w_iload_n (p' := 65) f_317_64 rfl rfl
 (w_iload (p' := 67) f_317_65 rfl rfl
 (w_iconst (p' := 68) f_317_67 rfl
 (w_isub (p' := 69) f_317_68 rfl
 (w_icmp (p' := 77) (q' := 72) f_317_69 rfl rfl
 (fun c108 => w_iload (p' := 79) f_317_77 rfl rfl
 (w_if (p' := 107) (q' := 82) f_317_79 rfl rfl
 (fun c107 => w_iload_n (p' := 108) f_317_107 rfl rfl
 (w_if (p' := 117) (q' := 111) f_317_108 rfl rfl
 (fun c103 => w_ldcS_w (p' := 120) f_317_117 rfl
 (w_iload_n (p' := 121) f_317_120 rfl rfl
 (w_callS (p' := 124) f_317_121 rfl rfl rfl (r := []) rfl rfl (kI (.inl rk_316) fun r101 s101 h101 =>
 w_iret f_317_124 rk_317 h101) ((((h.1 c109).1 c108).1 c107).1 c103))))
 (fun c103 => w_ldcS_w (p' := 114) f_317_111 rfl
 (w_goto (p' := 120) f_317_114 rfl
 (w_iload_n (p' := 121) f_317_120 rfl rfl
 (w_callS (p' := 124) f_317_121 rfl rfl rfl (r := []) rfl rfl (kI (.inl rk_316) fun r102 s102 h102 =>
 w_iret f_317_124 rk_317 h102) ((((h.1 c109).1 c108).1 c107).2 c103)))))))
 (fun c107 => w_iload_n (p' := 83) f_317_82 rfl rfl
 (w_iconst (p' := 84) f_317_83 rfl
 (w_icmp (p' := 99) (q' := 87) f_317_84 rfl rfl
 (fun c106 => w_ldcS_w (p' := 102) f_317_99 rfl
 (w_iload_n (p' := 103) f_317_102 rfl rfl
 (w_callS (p' := 106) f_317_103 rfl rfl rfl (r := []) rfl rfl (kI (.inl rk_316) fun r104 s104 h104 =>
 w_iret f_317_106 rk_317 h104) ((((h.1 c109).1 c108).2 c107).1 c106))))
 (fun c106 => w_bipush (p' := 89) f_317_87 rfl
 (w_aload_n (p' := 90) f_317_89 rfl rfl
 (w_iload_n (p' := 91) f_317_90 rfl rfl
 (w_iconst (p' := 92) f_317_91 rfl
 (w_callV (p' := 95) f_317_92 rfl rfl rfl rfl rfl (r := [.inl 48]) rfl rfl (kI (.inl rk_196) fun r105 s105 h105 =>
 w_iadd (p' := 96) f_317_95 rfl
 (w_goto (p' := 106) f_317_96 rfl
 (w_iret f_317_106 rk_317 h105))) ((((h.1 c109).1 c108).2 c107).2 c106)))))))))))
 (fun c108 => w_bipush (p' := 74) f_317_72 rfl
 (w_iload_n (p' := 75) f_317_74 rfl rfl
 (w_iadd (p' := 76) f_317_75 rfl
 (w_iret f_317_76 rk_317 ((h.1 c109).2 c108))))))))))
 (fun c109 => w_iload (p' := 63) f_317_61 rfl rfl
 (w_iret f_317_63 rk_317 (h.2 c109))))))
/-! ClosedRoomsModel.step(III)I -/
theorem f_318_0 : fnd 318 0 = some (0, .aload_n 0, 1, 0, 0, 0, 0) := ceB_eq (by decide +kernel)
theorem f_318_1 : fnd 318 1 = some (1, .iload_n 1, 1, 0, 0, 0, 0) := ceB_eq (by decide +kernel)
theorem f_318_2 : fnd 318 2 = some (2, .invokevirtual 465, 3, 312, 2, 10, 0) := ceB_eq (by decide +kernel)
theorem f_318_5 : fnd 318 5 = some (5, .ifCond .eq 38, 3, 0, 0, 0, 0) := ceB_eq (by decide +kernel)
theorem f_318_8 : fnd 318 8 = some (8, .iload_n 2, 1, 0, 0, 0, 0) := ceB_eq (by decide +kernel)
theorem f_318_9 : fnd 318 9 = some (9, .iconst 0, 1, 0, 0, 0, 0) := ceB_eq (by decide +kernel)
theorem f_318_10 : fnd 318 10 = some (10, .aload_n 0, 1, 0, 0, 0, 0) := ceB_eq (by decide +kernel)
theorem f_318_11 : fnd 318 11 = some (11, .getfield 22, 3, 10, 13, 13, 0) := ceB_eq (by decide +kernel)
theorem f_318_14 : fnd 318 14 = some (14, .iload_n 1, 1, 0, 0, 0, 0) := ceB_eq (by decide +kernel)
theorem f_318_15 : fnd 318 15 = some (15, .iaload, 1, 0, 0, 0, 0) := ceB_eq (by decide +kernel)
theorem f_318_16 : fnd 318 16 = some (16, .iconst 1, 1, 0, 0, 0, 0) := ceB_eq (by decide +kernel)
theorem f_318_17 : fnd 318 17 = some (17, .isub, 1, 0, 0, 0, 0) := ceB_eq (by decide +kernel)
theorem f_318_18 : fnd 318 18 = some (18, .invokestatic 54, 3, 168, 3, 10, 0) := ceB_eq (by decide +kernel)
theorem f_318_21 : fnd 318 21 = some (21, .ifCond .eq 22, 3, 0, 0, 0, 0) := ceB_eq (by decide +kernel)
theorem f_318_24 : fnd 318 24 = some (24, .iload_n 3, 1, 0, 0, 0, 0) := ceB_eq (by decide +kernel)
theorem f_318_25 : fnd 318 25 = some (25, .iconst 0, 1, 0, 0, 0, 0) := ceB_eq (by decide +kernel)
theorem f_318_26 : fnd 318 26 = some (26, .iconst 5, 1, 0, 0, 0, 0) := ceB_eq (by decide +kernel)
theorem f_318_27 : fnd 318 27 = some (27, .invokestatic 54, 3, 168, 3, 10, 0) := ceB_eq (by decide +kernel)
theorem f_318_30 : fnd 318 30 = some (30, .ifCond .eq 13, 3, 0, 0, 0, 0) := ceB_eq (by decide +kernel)
theorem f_318_33 : fnd 318 33 = some (33, .aload_n 0, 1, 0, 0, 0, 0) := ceB_eq (by decide +kernel)
theorem f_318_34 : fnd 318 34 = some (34, .iload_n 1, 1, 0, 0, 0, 0) := ceB_eq (by decide +kernel)
theorem f_318_35 : fnd 318 35 = some (35, .iload_n 2, 1, 0, 0, 0, 0) := ceB_eq (by decide +kernel)
theorem f_318_36 : fnd 318 36 = some (36, .iload_n 3, 1, 0, 0, 0, 0) := ceB_eq (by decide +kernel)
theorem f_318_37 : fnd 318 37 = some (37, .invokevirtual 468, 3, 313, 4, 10, 0) := ceB_eq (by decide +kernel)
theorem f_318_40 : fnd 318 40 = some (40, .goto 6, 3, 0, 0, 0, 0) := ceB_eq (by decide +kernel)
theorem f_318_43 : fnd 318 43 = some (43, .ldc_w 452, 3, 0, 0, 0, (-1000000)) := ceB_eq (by decide +kernel)
theorem f_318_46 : fnd 318 46 = some (46, .ireturn, 1, 0, 0, 0, 0) := ceB_eq (by decide +kernel)
theorem rk_318 : rkm 318 = 0 := by decide +kernel
theorem ml_318 : (mth 318).2.1 = 4 := by decide +kernel
set_option maxRecDepth 100000 in
theorem T_Z_step (k0 i0 x1 x2 x3 : Int) (σ : ST) (Q : Option AV → ST → Prop) (h :
  wpM m_Z_isScript [.inr (.inr (40, k0, i0)), .inl x1] σ (asI fun r101 s101 =>
  (((r101 = 0 : Prop) →
    Q (some (.inl (-1000000))) s101) ∧
  (¬ (r101 = 0) →
    ((0 : Int) ≤ x1 ∧ (x1 : Int) < 5) ∧
    wpM m_Z_in [.inl x2, .inl 0, .inl (wr ((s101 45 0 0 x1) - 1))] s101 (asI fun r102 s102 =>
    (((r102 = 0 : Prop) →
      Q (some (.inl (-1000000))) s102) ∧
    (¬ (r102 = 0) →
      wpM m_Z_in [.inl x3, .inl 0, .inl 5] s102 (asI fun r103 s103 =>
      (((r103 = 0 : Prop) →
        Q (some (.inl (-1000000))) s103) ∧
      (¬ (r103 = 0) →
        wpM m_Z_stepOf [.inr (.inr (40, k0, i0)), .inl x1, .inl x2, .inl x3] s103 (asI fun r104 s104 =>
        Q (some (.inl r104)) s104))))))))))) :
  wpM m_Z_step [.inr (.inr (40, k0, i0)), .inl x1, .inl x2, .inl x3] σ Q :=
 wpM_of ml_318 (L := [some (.inr (.inr (40, k0, i0))), some (.inl x1), some (.inl x2), some (.inl x3)]) rfl
 (w_aload_n (p' := 1) f_318_0 rfl rfl
 (w_iload_n (p' := 2) f_318_1 rfl rfl
 (w_callV (p' := 5) f_318_2 rfl rfl rfl rfl rfl (r := []) rfl rfl (kI (.inr rk_312) fun r101 s101 h101 =>
 w_if (p' := 43) (q' := 8) f_318_5 rfl rfl
 (fun c107 => w_ldc_w (p' := 46) f_318_43 rfl
 (w_iret f_318_46 rk_318 (h101.1 c107)))
 (fun c107 => w_iload_n (p' := 9) f_318_8 rfl rfl
 (w_iconst (p' := 10) f_318_9 rfl
 (w_aload_n (p' := 11) f_318_10 rfl rfl
 (w_getfield (p' := 14) f_318_11 rfl (x := .inr (.inr (45, 0, 0))) rfl rfl
 (w_iload_n (p' := 15) f_318_14 rfl rfl
 (w_iaload (p' := 16) f_318_15 rfl (n := 5) rfl (h101.2 c107).1 rfl
 (w_iconst (p' := 17) f_318_16 rfl
 (w_isub (p' := 18) f_318_17 rfl
 (w_callS (p' := 21) f_318_18 rfl rfl rfl (r := []) rfl rfl (kI (.inr rk_168) fun r102 s102 h102 =>
 w_if (p' := 43) (q' := 24) f_318_21 rfl rfl
 (fun c106 => w_ldc_w (p' := 46) f_318_43 rfl
 (w_iret f_318_46 rk_318 (h102.1 c106)))
 (fun c106 => w_iload_n (p' := 25) f_318_24 rfl rfl
 (w_iconst (p' := 26) f_318_25 rfl
 (w_iconst (p' := 27) f_318_26 rfl
 (w_callS (p' := 30) f_318_27 rfl rfl rfl (r := []) rfl rfl (kI (.inr rk_168) fun r103 s103 h103 =>
 w_if (p' := 43) (q' := 33) f_318_30 rfl rfl
 (fun c105 => w_ldc_w (p' := 46) f_318_43 rfl
 (w_iret f_318_46 rk_318 (h103.1 c105)))
 (fun c105 => w_aload_n (p' := 34) f_318_33 rfl rfl
 (w_iload_n (p' := 35) f_318_34 rfl rfl
 (w_iload_n (p' := 36) f_318_35 rfl rfl
 (w_iload_n (p' := 37) f_318_36 rfl rfl
 (w_callV (p' := 40) f_318_37 rfl rfl rfl rfl rfl (r := []) rfl rfl (kI (.inl rk_313) fun r104 s104 h104 =>
 w_goto (p' := 46) f_318_40 rfl
 (w_iret f_318_46 rk_318 h104)) (h103.2 c105))))))) (h102.2 c106)))))) (h101.2 c107).2)))))))))) h)))
/-! ClosedRoomsModel.goSteps(IZ)I -/
theorem f_319_0 : fnd 319 0 = some (0, .aload_n 0, 1, 0, 0, 0, 0) := ceB_eq (by decide +kernel)
theorem f_319_1 : fnd 319 1 = some (1, .iconst (-1), 1, 0, 0, 0, 0) := ceB_eq (by decide +kernel)
theorem f_319_2 : fnd 319 2 = some (2, .putfield 481, 3, 10, 20, 20, 0) := ceB_eq (by decide +kernel)
theorem f_319_5 : fnd 319 5 = some (5, .iconst 0, 1, 0, 0, 0, 0) := ceB_eq (by decide +kernel)
theorem f_319_6 : fnd 319 6 = some (6, .istore_n 3, 1, 0, 0, 0, 0) := ceB_eq (by decide +kernel)
theorem f_319_7 : fnd 319 7 = some (7, .iload_n 3, 1, 0, 0, 0, 0) := ceB_eq (by decide +kernel)
theorem f_319_8 : fnd 319 8 = some (8, .aload_n 0, 1, 0, 0, 0, 0) := ceB_eq (by decide +kernel)
theorem f_319_9 : fnd 319 9 = some (9, .getfield 22, 3, 10, 13, 13, 0) := ceB_eq (by decide +kernel)
theorem f_319_12 : fnd 319 12 = some (12, .iload_n 1, 1, 0, 0, 0, 0) := ceB_eq (by decide +kernel)
theorem f_319_13 : fnd 319 13 = some (13, .iaload, 1, 0, 0, 0, 0) := ceB_eq (by decide +kernel)
theorem f_319_14 : fnd 319 14 = some (14, .if_icmp .ge 177, 3, 0, 0, 0, 0) := ceB_eq (by decide +kernel)
theorem f_319_17 : fnd 319 17 = some (17, .aload_n 0, 1, 0, 0, 0, 0) := ceB_eq (by decide +kernel)
theorem f_319_18 : fnd 319 18 = some (18, .iload_n 1, 1, 0, 0, 0, 0) := ceB_eq (by decide +kernel)
theorem f_319_19 : fnd 319 19 = some (19, .iload_n 3, 1, 0, 0, 0, 0) := ceB_eq (by decide +kernel)
theorem f_319_20 : fnd 319 20 = some (20, .iconst 0, 1, 0, 0, 0, 0) := ceB_eq (by decide +kernel)
theorem f_319_21 : fnd 319 21 = some (21, .invokevirtual 468, 3, 313, 4, 10, 0) := ceB_eq (by decide +kernel)
theorem f_319_24 : fnd 319 24 = some (24, .istore 4, 2, 0, 0, 0, 0) := ceB_eq (by decide +kernel)
theorem f_319_26 : fnd 319 26 = some (26, .aload_n 0, 1, 0, 0, 0, 0) := ceB_eq (by decide +kernel)
theorem f_319_27 : fnd 319 27 = some (27, .iload_n 1, 1, 0, 0, 0, 0) := ceB_eq (by decide +kernel)
theorem f_319_28 : fnd 319 28 = some (28, .iload_n 3, 1, 0, 0, 0, 0) := ceB_eq (by decide +kernel)
theorem f_319_29 : fnd 319 29 = some (29, .iconst 1, 1, 0, 0, 0, 0) := ceB_eq (by decide +kernel)
theorem f_319_30 : fnd 319 30 = some (30, .invokevirtual 468, 3, 313, 4, 10, 0) := ceB_eq (by decide +kernel)
theorem f_319_33 : fnd 319 33 = some (33, .istore 5, 2, 0, 0, 0, 0) := ceB_eq (by decide +kernel)
theorem f_319_35 : fnd 319 35 = some (35, .iload 4, 2, 0, 0, 0, 0) := ceB_eq (by decide +kernel)
theorem f_319_37 : fnd 319 37 = some (37, .iconst 4, 1, 0, 0, 0, 0) := ceB_eq (by decide +kernel)
theorem f_319_38 : fnd 319 38 = some (38, .if_icmp .ne 22, 3, 0, 0, 0, 0) := ceB_eq (by decide +kernel)
theorem f_319_41 : fnd 319 41 = some (41, .aload_n 0, 1, 0, 0, 0, 0) := ceB_eq (by decide +kernel)
theorem f_319_42 : fnd 319 42 = some (42, .iload 5, 2, 0, 0, 0, 0) := ceB_eq (by decide +kernel)
theorem f_319_44 : fnd 319 44 = some (44, .invokevirtual 252, 3, 201, 2, 10, 0) := ceB_eq (by decide +kernel)
theorem f_319_47 : fnd 319 47 = some (47, .ifCond .eq 13, 3, 0, 0, 0, 0) := ceB_eq (by decide +kernel)
theorem f_319_50 : fnd 319 50 = some (50, .aload_n 0, 1, 0, 0, 0, 0) := ceB_eq (by decide +kernel)
theorem f_319_51 : fnd 319 51 = some (51, .iload 5, 2, 0, 0, 0, 0) := ceB_eq (by decide +kernel)
theorem f_319_53 : fnd 319 53 = some (53, .iconst 4, 1, 0, 0, 0, 0) := ceB_eq (by decide +kernel)
theorem f_319_54 : fnd 319 54 = some (54, .invokevirtual 209, 3, 198, 3, 10, 0) := ceB_eq (by decide +kernel)
theorem f_319_57 : fnd 319 57 = some (57, .goto 10, 3, 0, 0, 0, 0) := ceB_eq (by decide +kernel)
theorem f_319_60 : fnd 319 60 = some (60, .aload_n 0, 1, 0, 0, 0, 0) := ceB_eq (by decide +kernel)
theorem f_319_61 : fnd 319 61 = some (61, .iload_n 1, 1, 0, 0, 0, 0) := ceB_eq (by decide +kernel)
theorem f_319_62 : fnd 319 62 = some (62, .iload_n 3, 1, 0, 0, 0, 0) := ceB_eq (by decide +kernel)
theorem f_319_63 : fnd 319 63 = some (63, .iconst 2, 1, 0, 0, 0, 0) := ceB_eq (by decide +kernel)
theorem f_319_64 : fnd 319 64 = some (64, .invokevirtual 468, 3, 313, 4, 10, 0) := ceB_eq (by decide +kernel)
theorem f_319_67 : fnd 319 67 = some (67, .istore 6, 2, 0, 0, 0, 0) := ceB_eq (by decide +kernel)
theorem f_319_69 : fnd 319 69 = some (69, .aload_n 0, 1, 0, 0, 0, 0) := ceB_eq (by decide +kernel)
theorem f_319_70 : fnd 319 70 = some (70, .aload_n 0, 1, 0, 0, 0, 0) := ceB_eq (by decide +kernel)
theorem f_319_71 : fnd 319 71 = some (71, .iload 4, 2, 0, 0, 0, 0) := ceB_eq (by decide +kernel)
theorem f_319_73 : fnd 319 73 = some (73, .iload 5, 2, 0, 0, 0, 0) := ceB_eq (by decide +kernel)
theorem f_319_75 : fnd 319 75 = some (75, .iload 6, 2, 0, 0, 0, 0) := ceB_eq (by decide +kernel)
theorem f_319_77 : fnd 319 77 = some (77, .aload_n 0, 1, 0, 0, 0, 0) := ceB_eq (by decide +kernel)
theorem f_319_78 : fnd 319 78 = some (78, .iload_n 1, 1, 0, 0, 0, 0) := ceB_eq (by decide +kernel)
theorem f_319_79 : fnd 319 79 = some (79, .iload_n 3, 1, 0, 0, 0, 0) := ceB_eq (by decide +kernel)
theorem f_319_80 : fnd 319 80 = some (80, .iconst 3, 1, 0, 0, 0, 0) := ceB_eq (by decide +kernel)
theorem f_319_81 : fnd 319 81 = some (81, .invokevirtual 468, 3, 313, 4, 10, 0) := ceB_eq (by decide +kernel)
theorem f_319_84 : fnd 319 84 = some (84, .aload_n 0, 1, 0, 0, 0, 0) := ceB_eq (by decide +kernel)
theorem f_319_85 : fnd 319 85 = some (85, .iload_n 1, 1, 0, 0, 0, 0) := ceB_eq (by decide +kernel)
theorem f_319_86 : fnd 319 86 = some (86, .iload_n 3, 1, 0, 0, 0, 0) := ceB_eq (by decide +kernel)
theorem f_319_87 : fnd 319 87 = some (87, .iconst 4, 1, 0, 0, 0, 0) := ceB_eq (by decide +kernel)
theorem f_319_88 : fnd 319 88 = some (88, .invokevirtual 468, 3, 313, 4, 10, 0) := ceB_eq (by decide +kernel)
theorem f_319_91 : fnd 319 91 = some (91, .aload_n 0, 1, 0, 0, 0, 0) := ceB_eq (by decide +kernel)
theorem f_319_92 : fnd 319 92 = some (92, .iload_n 1, 1, 0, 0, 0, 0) := ceB_eq (by decide +kernel)
theorem f_319_93 : fnd 319 93 = some (93, .iload_n 3, 1, 0, 0, 0, 0) := ceB_eq (by decide +kernel)
theorem f_319_94 : fnd 319 94 = some (94, .iconst 5, 1, 0, 0, 0, 0) := ceB_eq (by decide +kernel)
theorem f_319_95 : fnd 319 95 = some (95, .invokevirtual 468, 3, 313, 4, 10, 0) := ceB_eq (by decide +kernel)
theorem f_319_98 : fnd 319 98 = some (98, .invokevirtual 442, 3, 239, 7, 10, 0) := ceB_eq (by decide +kernel)
theorem f_319_101 : fnd 319 101 = some (101, .putfield 481, 3, 10, 20, 20, 0) := ceB_eq (by decide +kernel)
theorem f_319_104 : fnd 319 104 = some (104, .aload_n 0, 1, 0, 0, 0, 0) := ceB_eq (by decide +kernel)
theorem f_319_105 : fnd 319 105 = some (105, .getfield 481, 3, 10, 20, 20, 0) := ceB_eq (by decide +kernel)
theorem f_319_108 : fnd 319 108 = some (108, .iconst (-1), 1, 0, 0, 0, 0) := ceB_eq (by decide +kernel)
theorem f_319_109 : fnd 319 109 = some (109, .if_icmp .eq 5, 3, 0, 0, 0, 0) := ceB_eq (by decide +kernel)
theorem f_319_112 : fnd 319 112 = some (112, .iload_n 3, 1, 0, 0, 0, 0) := ceB_eq (by decide +kernel)
theorem f_319_113 : fnd 319 113 = some (113, .ireturn, 1, 0, 0, 0, 0) := ceB_eq (by decide +kernel)
theorem f_319_114 : fnd 319 114 = some (114, .iload_n 2, 1, 0, 0, 0, 0) := ceB_eq (by decide +kernel)
theorem f_319_115 : fnd 319 115 = some (115, .ifCond .eq 38, 3, 0, 0, 0, 0) := ceB_eq (by decide +kernel)
theorem f_319_118 : fnd 319 118 = some (118, .aload_n 0, 1, 0, 0, 0, 0) := ceB_eq (by decide +kernel)
theorem f_319_119 : fnd 319 119 = some (119, .iload 4, 2, 0, 0, 0, 0) := ceB_eq (by decide +kernel)
theorem f_319_121 : fnd 319 121 = some (121, .iload 5, 2, 0, 0, 0, 0) := ceB_eq (by decide +kernel)
theorem f_319_123 : fnd 319 123 = some (123, .iload 6, 2, 0, 0, 0, 0) := ceB_eq (by decide +kernel)
theorem f_319_125 : fnd 319 125 = some (125, .aload_n 0, 1, 0, 0, 0, 0) := ceB_eq (by decide +kernel)
theorem f_319_126 : fnd 319 126 = some (126, .iload_n 1, 1, 0, 0, 0, 0) := ceB_eq (by decide +kernel)
theorem f_319_127 : fnd 319 127 = some (127, .iload_n 3, 1, 0, 0, 0, 0) := ceB_eq (by decide +kernel)
theorem f_319_128 : fnd 319 128 = some (128, .iconst 3, 1, 0, 0, 0, 0) := ceB_eq (by decide +kernel)
theorem f_319_129 : fnd 319 129 = some (129, .invokevirtual 468, 3, 313, 4, 10, 0) := ceB_eq (by decide +kernel)
theorem f_319_132 : fnd 319 132 = some (132, .aload_n 0, 1, 0, 0, 0, 0) := ceB_eq (by decide +kernel)
theorem f_319_133 : fnd 319 133 = some (133, .iload_n 1, 1, 0, 0, 0, 0) := ceB_eq (by decide +kernel)
theorem f_319_134 : fnd 319 134 = some (134, .iload_n 3, 1, 0, 0, 0, 0) := ceB_eq (by decide +kernel)
theorem f_319_135 : fnd 319 135 = some (135, .iconst 4, 1, 0, 0, 0, 0) := ceB_eq (by decide +kernel)
theorem f_319_136 : fnd 319 136 = some (136, .invokevirtual 468, 3, 313, 4, 10, 0) := ceB_eq (by decide +kernel)
theorem f_319_139 : fnd 319 139 = some (139, .aload_n 0, 1, 0, 0, 0, 0) := ceB_eq (by decide +kernel)
theorem f_319_140 : fnd 319 140 = some (140, .iload_n 1, 1, 0, 0, 0, 0) := ceB_eq (by decide +kernel)
theorem f_319_141 : fnd 319 141 = some (141, .iload_n 3, 1, 0, 0, 0, 0) := ceB_eq (by decide +kernel)
theorem f_319_142 : fnd 319 142 = some (142, .iconst 5, 1, 0, 0, 0, 0) := ceB_eq (by decide +kernel)
theorem f_319_143 : fnd 319 143 = some (143, .invokevirtual 468, 3, 313, 4, 10, 0) := ceB_eq (by decide +kernel)
theorem f_319_146 : fnd 319 146 = some (146, .invokevirtual 445, 3, 267, 7, 10, 0) := ceB_eq (by decide +kernel)
theorem f_319_149 : fnd 319 149 = some (149, .pop, 1, 0, 0, 0, 0) := ceB_eq (by decide +kernel)
theorem f_319_150 : fnd 319 150 = some (150, .goto 35, 3, 0, 0, 0, 0) := ceB_eq (by decide +kernel)
theorem f_319_153 : fnd 319 153 = some (153, .aload_n 0, 1, 0, 0, 0, 0) := ceB_eq (by decide +kernel)
theorem f_319_154 : fnd 319 154 = some (154, .iload 4, 2, 0, 0, 0, 0) := ceB_eq (by decide +kernel)
theorem f_319_156 : fnd 319 156 = some (156, .iload 5, 2, 0, 0, 0, 0) := ceB_eq (by decide +kernel)
theorem f_319_158 : fnd 319 158 = some (158, .iload 6, 2, 0, 0, 0, 0) := ceB_eq (by decide +kernel)
theorem f_319_160 : fnd 319 160 = some (160, .aload_n 0, 1, 0, 0, 0, 0) := ceB_eq (by decide +kernel)
theorem f_319_161 : fnd 319 161 = some (161, .iload_n 1, 1, 0, 0, 0, 0) := ceB_eq (by decide +kernel)
theorem f_319_162 : fnd 319 162 = some (162, .iload_n 3, 1, 0, 0, 0, 0) := ceB_eq (by decide +kernel)
theorem f_319_163 : fnd 319 163 = some (163, .iconst 3, 1, 0, 0, 0, 0) := ceB_eq (by decide +kernel)
theorem f_319_164 : fnd 319 164 = some (164, .invokevirtual 468, 3, 313, 4, 10, 0) := ceB_eq (by decide +kernel)
theorem f_319_167 : fnd 319 167 = some (167, .aload_n 0, 1, 0, 0, 0, 0) := ceB_eq (by decide +kernel)
theorem f_319_168 : fnd 319 168 = some (168, .iload_n 1, 1, 0, 0, 0, 0) := ceB_eq (by decide +kernel)
theorem f_319_169 : fnd 319 169 = some (169, .iload_n 3, 1, 0, 0, 0, 0) := ceB_eq (by decide +kernel)
theorem f_319_170 : fnd 319 170 = some (170, .iconst 4, 1, 0, 0, 0, 0) := ceB_eq (by decide +kernel)
theorem f_319_171 : fnd 319 171 = some (171, .invokevirtual 468, 3, 313, 4, 10, 0) := ceB_eq (by decide +kernel)
theorem f_319_174 : fnd 319 174 = some (174, .aload_n 0, 1, 0, 0, 0, 0) := ceB_eq (by decide +kernel)
theorem f_319_175 : fnd 319 175 = some (175, .iload_n 1, 1, 0, 0, 0, 0) := ceB_eq (by decide +kernel)
theorem f_319_176 : fnd 319 176 = some (176, .iload_n 3, 1, 0, 0, 0, 0) := ceB_eq (by decide +kernel)
theorem f_319_177 : fnd 319 177 = some (177, .iconst 5, 1, 0, 0, 0, 0) := ceB_eq (by decide +kernel)
theorem f_319_178 : fnd 319 178 = some (178, .invokevirtual 468, 3, 313, 4, 10, 0) := ceB_eq (by decide +kernel)
theorem f_319_181 : fnd 319 181 = some (181, .invokevirtual 436, 3, 265, 7, 10, 0) := ceB_eq (by decide +kernel)
theorem f_319_184 : fnd 319 184 = some (184, .pop, 1, 0, 0, 0, 0) := ceB_eq (by decide +kernel)
theorem f_319_185 : fnd 319 185 = some (185, .iinc 3 1, 3, 0, 0, 0, 0) := ceB_eq (by decide +kernel)
theorem f_319_188 : fnd 319 188 = some (188, .goto (-181), 3, 0, 0, 0, 0) := ceB_eq (by decide +kernel)
theorem f_319_191 : fnd 319 191 = some (191, .aload_n 0, 1, 0, 0, 0, 0) := ceB_eq (by decide +kernel)
theorem f_319_192 : fnd 319 192 = some (192, .getfield 22, 3, 10, 13, 13, 0) := ceB_eq (by decide +kernel)
theorem f_319_195 : fnd 319 195 = some (195, .iload_n 1, 1, 0, 0, 0, 0) := ceB_eq (by decide +kernel)
theorem f_319_196 : fnd 319 196 = some (196, .iaload, 1, 0, 0, 0, 0) := ceB_eq (by decide +kernel)
theorem f_319_197 : fnd 319 197 = some (197, .ireturn, 1, 0, 0, 0, 0) := ceB_eq (by decide +kernel)
theorem rk_319 : rkm 319 = 0 := by decide +kernel
theorem ml_319 : (mth 319).2.1 = 7 := by decide +kernel
set_option maxRecDepth 100000 in
theorem T_Z_goSteps (k0 i0 x1 x2 : Int) (σ : ST) (Q : Option AV → ST → Prop) (h :
  wp m_Z_goSteps (7, [some (.inr (.inr (40, k0, i0))), some (.inl x1), some (.inl x2), some (.inl 0), none, none, none], [], (up σ 40 k0 i0 20 (-1))) Q) :
  wpM m_Z_goSteps [.inr (.inr (40, k0, i0)), .inl x1, .inl x2] σ Q :=
 wpM_of ml_319 (L := [some (.inr (.inr (40, k0, i0))), some (.inl x1), some (.inl x2), none, none, none, none]) rfl
 (w_aload_n (p' := 1) f_319_0 rfl rfl
 (w_iconst (p' := 2) f_319_1 rfl
 (w_putI (p' := 5) f_319_2 rfl rfl (c' := 20) rfl rfl
 (w_iconst (p' := 6) f_319_5 rfl
 (w_istore_n (p' := 7) f_319_6 (L' := [some (.inr (.inr (40, k0, i0))), some (.inl x1), some (.inl x2), some (.inl 0), none, none, none]) rfl rfl
 (h))))))
set_option maxRecDepth 100000 in
theorem T_Z_goSteps_7 (k0 i0 x1 x2 x3 : Int) (o4 o5 o6 : Option AV) (σ : ST) (Q : Option AV → ST → Prop) (h :
  ((0 : Int) ≤ x1 ∧ (x1 : Int) < 5) ∧
  ((((σ 45 0 0 x1) ≤ x3 : Prop) →
    ((0 : Int) ≤ x1 ∧ (x1 : Int) < 5) ∧
    Q (some (.inl (σ 45 0 0 x1))) σ) ∧
  (¬ ((σ 45 0 0 x1) ≤ x3) →
    wpM m_Z_stepOf [.inr (.inr (40, k0, i0)), .inl x1, .inl x3, .inl 0] σ (asI fun r101 s101 =>
    wpM m_Z_stepOf [.inr (.inr (40, k0, i0)), .inl x1, .inl x3, .inl 1] s101 (asI fun r102 s102 =>
    (((r101 ≠ 4 : Prop) →
      wpM m_Z_stepOf [.inr (.inr (40, k0, i0)), .inl x1, .inl x3, .inl 2] s102 (asI fun r103 s103 =>
      wp m_Z_goSteps (67, [some (.inr (.inr (40, k0, i0))), some (.inl x1), some (.inl x2), some (.inl x3), some (.inl r101), some (.inl r102), o6], [.inl r103], s103) Q)) ∧
    (¬ (r101 ≠ 4) →
      wpM m_Z_isRoom [.inr (.inr (40, k0, i0)), .inl r102] s102 (asI fun r104 s104 =>
      (((r104 = 0 : Prop) →
        wpM m_Z_stepOf [.inr (.inr (40, k0, i0)), .inl x1, .inl x3, .inl 2] s104 (asI fun r105 s105 =>
        wp m_Z_goSteps (67, [some (.inr (.inr (40, k0, i0))), some (.inl x1), some (.inl x2), some (.inl x3), some (.inl r101), some (.inl r102), o6], [.inl r105], s105) Q)) ∧
      (¬ (r104 = 0) →
        wpM m_Z_ofRoom [.inr (.inr (40, k0, i0)), .inl r102, .inl 4] s104 (asI fun r106 s106 =>
        wp m_Z_goSteps (67, [some (.inr (.inr (40, k0, i0))), some (.inl x1), some (.inl x2), some (.inl x3), some (.inl r101), some (.inl r102), o6], [.inl r106], s106) Q))))))))))) :
  wp m_Z_goSteps (7, [some (.inr (.inr (40, k0, i0))), some (.inl x1), some (.inl x2), some (.inl x3), o4, o5, o6], [], σ) Q :=
 w_iload_n (p' := 8) f_319_7 rfl rfl
 (w_aload_n (p' := 9) f_319_8 rfl rfl
 (w_getfield (p' := 12) f_319_9 rfl (x := .inr (.inr (45, 0, 0))) rfl rfl
 (w_iload_n (p' := 13) f_319_12 rfl rfl
 (w_iaload (p' := 14) f_319_13 rfl (n := 5) rfl h.1 rfl
 (w_icmp (p' := 191) (q' := 17) f_319_14 rfl rfl
 (fun c109 => w_aload_n (p' := 192) f_319_191 rfl rfl
 (w_getfield (p' := 195) f_319_192 rfl (x := .inr (.inr (45, 0, 0))) rfl rfl
 (w_iload_n (p' := 196) f_319_195 rfl rfl
 (w_iaload (p' := 197) f_319_196 rfl (n := 5) rfl (h.2.1 c109).1 rfl
 (w_iret f_319_197 rk_319 (h.2.1 c109).2)))))
 (fun c109 => w_aload_n (p' := 18) f_319_17 rfl rfl
 (w_iload_n (p' := 19) f_319_18 rfl rfl
 (w_iload_n (p' := 20) f_319_19 rfl rfl
 (w_iconst (p' := 21) f_319_20 rfl
 (w_callV (p' := 24) f_319_21 rfl rfl rfl rfl rfl (r := []) rfl rfl (kI (.inl rk_313) fun r101 s101 h101 =>
 w_istore (p' := 26) f_319_24 (L' := [some (.inr (.inr (40, k0, i0))), some (.inl x1), some (.inl x2), some (.inl x3), some (.inl r101), o5, o6]) rfl rfl
 (w_aload_n (p' := 27) f_319_26 rfl rfl
 (w_iload_n (p' := 28) f_319_27 rfl rfl
 (w_iload_n (p' := 29) f_319_28 rfl rfl
 (w_iconst (p' := 30) f_319_29 rfl
 (w_callV (p' := 33) f_319_30 rfl rfl rfl rfl rfl (r := []) rfl rfl (kI (.inl rk_313) fun r102 s102 h102 =>
 w_istore (p' := 35) f_319_33 (L' := [some (.inr (.inr (40, k0, i0))), some (.inl x1), some (.inl x2), some (.inl x3), some (.inl r101), some (.inl r102), o6]) rfl rfl
 (w_iload (p' := 37) f_319_35 rfl rfl
 (w_iconst (p' := 38) f_319_37 rfl
 (w_icmp (p' := 60) (q' := 41) f_319_38 rfl rfl
 (fun c108 => w_aload_n (p' := 61) f_319_60 rfl rfl
 (w_iload_n (p' := 62) f_319_61 rfl rfl
 (w_iload_n (p' := 63) f_319_62 rfl rfl
 (w_iconst (p' := 64) f_319_63 rfl
 (w_callV (p' := 67) f_319_64 rfl rfl rfl rfl rfl (r := []) rfl rfl (kI (.inl rk_313) fun r103 s103 h103 =>
 h103) (h102.1 c108))))))
 (fun c108 => w_aload_n (p' := 42) f_319_41 rfl rfl
 (w_iload (p' := 44) f_319_42 rfl rfl
 (w_callV (p' := 47) f_319_44 rfl rfl rfl rfl rfl (r := []) rfl rfl (kI (.inr rk_201) fun r104 s104 h104 =>
 w_if (p' := 60) (q' := 50) f_319_47 rfl rfl
 (fun c107 => w_aload_n (p' := 61) f_319_60 rfl rfl
 (w_iload_n (p' := 62) f_319_61 rfl rfl
 (w_iload_n (p' := 63) f_319_62 rfl rfl
 (w_iconst (p' := 64) f_319_63 rfl
 (w_callV (p' := 67) f_319_64 rfl rfl rfl rfl rfl (r := []) rfl rfl (kI (.inl rk_313) fun r105 s105 h105 =>
 h105) (h104.1 c107))))))
 (fun c107 => w_aload_n (p' := 51) f_319_50 rfl rfl
 (w_iload (p' := 53) f_319_51 rfl rfl
 (w_iconst (p' := 54) f_319_53 rfl
 (w_callV (p' := 57) f_319_54 rfl rfl rfl rfl rfl (r := []) rfl rfl (kI (.inl rk_198) fun r106 s106 h106 =>
 w_goto (p' := 67) f_319_57 rfl
 (h106)) (h104.2 c107)))))) (h102.2 c108)))))))) h101)))))) (h.2.2 c109)))))))))))
set_option maxRecDepth 100000 in
theorem T_Z_goSteps_67 (k0 i0 x1 x2 x3 x4 x5 t0 : Int) (o6 : Option AV) (σ : ST) (Q : Option AV → ST → Prop) (h :
  wpM m_Z_stepOf [.inr (.inr (40, k0, i0)), .inl x1, .inl x3, .inl 3] σ (asI fun r101 s101 =>
  wpM m_Z_stepOf [.inr (.inr (40, k0, i0)), .inl x1, .inl x3, .inl 4] s101 (asI fun r102 s102 =>
  wpM m_Z_stepOf [.inr (.inr (40, k0, i0)), .inl x1, .inl x3, .inl 5] s102 (asI fun r103 s103 =>
  wpM m_Z_whyNot [.inr (.inr (40, k0, i0)), .inl x4, .inl x5, .inl t0, .inl r101, .inl r102, .inl r103] s103 (asI fun r104 s104 =>
  (((((up s104 40 k0 i0 20 r104) 40 k0 i0 20) = (-1) : Prop) →
    (((x2 = 0 : Prop) →
      wpM m_Z_stepOf [.inr (.inr (40, k0, i0)), .inl x1, .inl x3, .inl 3] (up s104 40 k0 i0 20 r104) (asI fun r105 s105 =>
      wpM m_Z_stepOf [.inr (.inr (40, k0, i0)), .inl x1, .inl x3, .inl 4] s105 (asI fun r106 s106 =>
      wpM m_Z_stepOf [.inr (.inr (40, k0, i0)), .inl x1, .inl x3, .inl 5] s106 (asI fun r107 s107 =>
      wpM m_Z_doNow [.inr (.inr (40, k0, i0)), .inl x4, .inl x5, .inl t0, .inl r105, .inl r106, .inl r107] s107 (asI fun r108 s108 =>
      wp m_Z_goSteps (7, [some (.inr (.inr (40, k0, i0))), some (.inl x1), some (.inl x2), some (.inl (wr (x3 + 1))), some (.inl x4), some (.inl x5), some (.inl t0)], [], s108) Q))))) ∧
    (¬ (x2 = 0) →
      wpM m_Z_stepOf [.inr (.inr (40, k0, i0)), .inl x1, .inl x3, .inl 3] (up s104 40 k0 i0 20 r104) (asI fun r109 s109 =>
      wpM m_Z_stepOf [.inr (.inr (40, k0, i0)), .inl x1, .inl x3, .inl 4] s109 (asI fun r110 s110 =>
      wpM m_Z_stepOf [.inr (.inr (40, k0, i0)), .inl x1, .inl x3, .inl 5] s110 (asI fun r111 s111 =>
      wpM m_Z_act [.inr (.inr (40, k0, i0)), .inl x4, .inl x5, .inl t0, .inl r109, .inl r110, .inl r111] s111 (asI fun r112 s112 =>
      wp m_Z_goSteps (7, [some (.inr (.inr (40, k0, i0))), some (.inl x1), some (.inl x2), some (.inl (wr (x3 + 1))), some (.inl x4), some (.inl x5), some (.inl t0)], [], s112) Q))))))) ∧
  (¬ (((up s104 40 k0 i0 20 r104) 40 k0 i0 20) = (-1)) →
    Q (some (.inl x3)) (up s104 40 k0 i0 20 r104)))))))) :
  wp m_Z_goSteps (67, [some (.inr (.inr (40, k0, i0))), some (.inl x1), some (.inl x2), some (.inl x3), some (.inl x4), some (.inl x5), o6], [.inl t0], σ) Q :=
 w_istore (p' := 69) f_319_67 (L' := [some (.inr (.inr (40, k0, i0))), some (.inl x1), some (.inl x2), some (.inl x3), some (.inl x4), some (.inl x5), some (.inl t0)]) rfl rfl
 (w_aload_n (p' := 70) f_319_69 rfl rfl
 (w_aload_n (p' := 71) f_319_70 rfl rfl
 (w_iload (p' := 73) f_319_71 rfl rfl
 (w_iload (p' := 75) f_319_73 rfl rfl
 (w_iload (p' := 77) f_319_75 rfl rfl
 (w_aload_n (p' := 78) f_319_77 rfl rfl
 (w_iload_n (p' := 79) f_319_78 rfl rfl
 (w_iload_n (p' := 80) f_319_79 rfl rfl
 (w_iconst (p' := 81) f_319_80 rfl
 (w_callV (p' := 84) f_319_81 rfl rfl rfl rfl rfl (r := [.inl t0, .inl x5, .inl x4, .inr (.inr (40, k0, i0)), .inr (.inr (40, k0, i0))]) rfl rfl (kI (.inl rk_313) fun r101 s101 h101 =>
 w_aload_n (p' := 85) f_319_84 rfl rfl
 (w_iload_n (p' := 86) f_319_85 rfl rfl
 (w_iload_n (p' := 87) f_319_86 rfl rfl
 (w_iconst (p' := 88) f_319_87 rfl
 (w_callV (p' := 91) f_319_88 rfl rfl rfl rfl rfl (r := [.inl r101, .inl t0, .inl x5, .inl x4, .inr (.inr (40, k0, i0)), .inr (.inr (40, k0, i0))]) rfl rfl (kI (.inl rk_313) fun r102 s102 h102 =>
 w_aload_n (p' := 92) f_319_91 rfl rfl
 (w_iload_n (p' := 93) f_319_92 rfl rfl
 (w_iload_n (p' := 94) f_319_93 rfl rfl
 (w_iconst (p' := 95) f_319_94 rfl
 (w_callV (p' := 98) f_319_95 rfl rfl rfl rfl rfl (r := [.inl r102, .inl r101, .inl t0, .inl x5, .inl x4, .inr (.inr (40, k0, i0)), .inr (.inr (40, k0, i0))]) rfl rfl (kI (.inl rk_313) fun r103 s103 h103 =>
 w_callV (p' := 101) f_319_98 rfl rfl rfl rfl rfl (r := [.inr (.inr (40, k0, i0))]) rfl rfl (kI (.inl rk_239) fun r104 s104 h104 =>
 w_putI (p' := 104) f_319_101 rfl rfl (c' := 20) rfl rfl
 (w_aload_n (p' := 105) f_319_104 rfl rfl
 (w_getfield (p' := 108) f_319_105 rfl (x := .inl ((up s104 40 k0 i0 20 r104) 40 k0 i0 20)) rfl rfl
 (w_iconst (p' := 109) f_319_108 rfl
 (w_icmp (p' := 114) (q' := 112) f_319_109 rfl rfl
 (fun c114 => w_iload_n (p' := 115) f_319_114 rfl rfl
 (w_if (p' := 153) (q' := 118) f_319_115 rfl rfl
 (fun c113 => w_aload_n (p' := 154) f_319_153 rfl rfl
 (w_iload (p' := 156) f_319_154 rfl rfl
 (w_iload (p' := 158) f_319_156 rfl rfl
 (w_iload (p' := 160) f_319_158 rfl rfl
 (w_aload_n (p' := 161) f_319_160 rfl rfl
 (w_iload_n (p' := 162) f_319_161 rfl rfl
 (w_iload_n (p' := 163) f_319_162 rfl rfl
 (w_iconst (p' := 164) f_319_163 rfl
 (w_callV (p' := 167) f_319_164 rfl rfl rfl rfl rfl (r := [.inl t0, .inl x5, .inl x4, .inr (.inr (40, k0, i0))]) rfl rfl (kI (.inl rk_313) fun r105 s105 h105 =>
 w_aload_n (p' := 168) f_319_167 rfl rfl
 (w_iload_n (p' := 169) f_319_168 rfl rfl
 (w_iload_n (p' := 170) f_319_169 rfl rfl
 (w_iconst (p' := 171) f_319_170 rfl
 (w_callV (p' := 174) f_319_171 rfl rfl rfl rfl rfl (r := [.inl r105, .inl t0, .inl x5, .inl x4, .inr (.inr (40, k0, i0))]) rfl rfl (kI (.inl rk_313) fun r106 s106 h106 =>
 w_aload_n (p' := 175) f_319_174 rfl rfl
 (w_iload_n (p' := 176) f_319_175 rfl rfl
 (w_iload_n (p' := 177) f_319_176 rfl rfl
 (w_iconst (p' := 178) f_319_177 rfl
 (w_callV (p' := 181) f_319_178 rfl rfl rfl rfl rfl (r := [.inl r106, .inl r105, .inl t0, .inl x5, .inl x4, .inr (.inr (40, k0, i0))]) rfl rfl (kI (.inl rk_313) fun r107 s107 h107 =>
 w_callV (p' := 184) f_319_181 rfl rfl rfl rfl rfl (r := []) rfl rfl (kI (.inl rk_265) fun r108 s108 h108 =>
 w_pop (p' := 185) f_319_184 rfl
 (w_iinc (p' := 188) f_319_185 rfl (L' := [some (.inr (.inr (40, k0, i0))), some (.inl x1), some (.inl x2), some (.inl (wr (x3 + 1))), some (.inl x4), some (.inl x5), some (.inl t0)]) rfl rfl
 (w_goto (p' := 7) f_319_188 rfl
 (h108)))) h107) h106))))) h105))))) ((h104.1 c114).1 c113))))))))))
 (fun c113 => w_aload_n (p' := 119) f_319_118 rfl rfl
 (w_iload (p' := 121) f_319_119 rfl rfl
 (w_iload (p' := 123) f_319_121 rfl rfl
 (w_iload (p' := 125) f_319_123 rfl rfl
 (w_aload_n (p' := 126) f_319_125 rfl rfl
 (w_iload_n (p' := 127) f_319_126 rfl rfl
 (w_iload_n (p' := 128) f_319_127 rfl rfl
 (w_iconst (p' := 129) f_319_128 rfl
 (w_callV (p' := 132) f_319_129 rfl rfl rfl rfl rfl (r := [.inl t0, .inl x5, .inl x4, .inr (.inr (40, k0, i0))]) rfl rfl (kI (.inl rk_313) fun r109 s109 h109 =>
 w_aload_n (p' := 133) f_319_132 rfl rfl
 (w_iload_n (p' := 134) f_319_133 rfl rfl
 (w_iload_n (p' := 135) f_319_134 rfl rfl
 (w_iconst (p' := 136) f_319_135 rfl
 (w_callV (p' := 139) f_319_136 rfl rfl rfl rfl rfl (r := [.inl r109, .inl t0, .inl x5, .inl x4, .inr (.inr (40, k0, i0))]) rfl rfl (kI (.inl rk_313) fun r110 s110 h110 =>
 w_aload_n (p' := 140) f_319_139 rfl rfl
 (w_iload_n (p' := 141) f_319_140 rfl rfl
 (w_iload_n (p' := 142) f_319_141 rfl rfl
 (w_iconst (p' := 143) f_319_142 rfl
 (w_callV (p' := 146) f_319_143 rfl rfl rfl rfl rfl (r := [.inl r110, .inl r109, .inl t0, .inl x5, .inl x4, .inr (.inr (40, k0, i0))]) rfl rfl (kI (.inl rk_313) fun r111 s111 h111 =>
 w_callV (p' := 149) f_319_146 rfl rfl rfl rfl rfl (r := []) rfl rfl (kI (.inl rk_267) fun r112 s112 h112 =>
 w_pop (p' := 150) f_319_149 rfl
 (w_goto (p' := 185) f_319_150 rfl
 (w_iinc (p' := 188) f_319_185 rfl (L' := [some (.inr (.inr (40, k0, i0))), some (.inl x1), some (.inl x2), some (.inl (wr (x3 + 1))), some (.inl x4), some (.inl x5), some (.inl t0)]) rfl rfl
 (w_goto (p' := 7) f_319_188 rfl
 (h112))))) h111) h110))))) h109))))) ((h104.1 c114).2 c113))))))))))))
 (fun c114 => w_iload_n (p' := 113) f_319_112 rfl rfl
 (w_iret f_319_113 rk_319 (h104.2 c114)))))))) h103) h102))))) h101))))) h))))))))))
/-! ClosedRoomsModel.run(II)I -/
theorem f_320_0 : fnd 320 0 = some (0, .aload_n 0, 1, 0, 0, 0, 0) := ceB_eq (by decide +kernel)
theorem f_320_1 : fnd 320 1 = some (1, .iload_n 1, 1, 0, 0, 0, 0) := ceB_eq (by decide +kernel)
theorem f_320_2 : fnd 320 2 = some (2, .invokevirtual 465, 3, 312, 2, 10, 0) := ceB_eq (by decide +kernel)
theorem f_320_5 : fnd 320 5 = some (5, .ifCond .eq 19, 3, 0, 0, 0, 0) := ceB_eq (by decide +kernel)
theorem f_320_8 : fnd 320 8 = some (8, .aload_n 0, 1, 0, 0, 0, 0) := ceB_eq (by decide +kernel)
theorem f_320_9 : fnd 320 9 = some (9, .getfield 199, 3, 10, 11, 11, 0) := ceB_eq (by decide +kernel)
theorem f_320_12 : fnd 320 12 = some (12, .ifCond .eq 12, 3, 0, 0, 0, 0) := ceB_eq (by decide +kernel)
theorem f_320_15 : fnd 320 15 = some (15, .iload_n 2, 1, 0, 0, 0, 0) := ceB_eq (by decide +kernel)
theorem f_320_16 : fnd 320 16 = some (16, .iconst 0, 1, 0, 0, 0, 0) := ceB_eq (by decide +kernel)
theorem f_320_17 : fnd 320 17 = some (17, .iconst 1, 1, 0, 0, 0, 0) := ceB_eq (by decide +kernel)
theorem f_320_18 : fnd 320 18 = some (18, .invokestatic 54, 3, 168, 3, 10, 0) := ceB_eq (by decide +kernel)
theorem f_320_21 : fnd 320 21 = some (21, .ifCond .ne 7, 3, 0, 0, 0, 0) := ceB_eq (by decide +kernel)
theorem f_320_24 : fnd 320 24 = some (24, .ldc_w 452, 3, 0, 0, 0, (-1000000)) := ceB_eq (by decide +kernel)
theorem f_320_27 : fnd 320 27 = some (27, .ireturn, 1, 0, 0, 0, 0) := ceB_eq (by decide +kernel)
theorem f_320_28 : fnd 320 28 = some (28, .iconst 0, 1, 0, 0, 0, 0) := ceB_eq (by decide +kernel)
theorem f_320_29 : fnd 320 29 = some (29, .istore_n 3, 1, 0, 0, 0, 0) := ceB_eq (by decide +kernel)
theorem f_320_30 : fnd 320 30 = some (30, .iload_n 3, 1, 0, 0, 0, 0) := ceB_eq (by decide +kernel)
theorem f_320_31 : fnd 320 31 = some (31, .sipush 345, 3, 0, 0, 0, 0) := ceB_eq (by decide +kernel)
theorem f_320_34 : fnd 320 34 = some (34, .if_icmp .ge 21, 3, 0, 0, 0, 0) := ceB_eq (by decide +kernel)
theorem f_320_37 : fnd 320 37 = some (37, .aload_n 0, 1, 0, 0, 0, 0) := ceB_eq (by decide +kernel)
theorem f_320_38 : fnd 320 38 = some (38, .getfield 37, 3, 10, 21, 21, 0) := ceB_eq (by decide +kernel)
theorem f_320_41 : fnd 320 41 = some (41, .iload_n 3, 1, 0, 0, 0, 0) := ceB_eq (by decide +kernel)
theorem f_320_42 : fnd 320 42 = some (42, .aload_n 0, 1, 0, 0, 0, 0) := ceB_eq (by decide +kernel)
theorem f_320_43 : fnd 320 43 = some (43, .getfield 25, 3, 10, 15, 15, 0) := ceB_eq (by decide +kernel)
theorem f_320_46 : fnd 320 46 = some (46, .iload_n 3, 1, 0, 0, 0, 0) := ceB_eq (by decide +kernel)
theorem f_320_47 : fnd 320 47 = some (47, .iaload, 1, 0, 0, 0, 0) := ceB_eq (by decide +kernel)
theorem f_320_48 : fnd 320 48 = some (48, .iastore, 1, 0, 0, 0, 0) := ceB_eq (by decide +kernel)
theorem f_320_49 : fnd 320 49 = some (49, .iinc 3 1, 3, 0, 0, 0, 0) := ceB_eq (by decide +kernel)
theorem f_320_52 : fnd 320 52 = some (52, .goto (-22), 3, 0, 0, 0, 0) := ceB_eq (by decide +kernel)
theorem f_320_55 : fnd 320 55 = some (55, .aload_n 0, 1, 0, 0, 0, 0) := ceB_eq (by decide +kernel)
theorem f_320_56 : fnd 320 56 = some (56, .iload_n 1, 1, 0, 0, 0, 0) := ceB_eq (by decide +kernel)
theorem f_320_57 : fnd 320 57 = some (57, .iconst 0, 1, 0, 0, 0, 0) := ceB_eq (by decide +kernel)
theorem f_320_58 : fnd 320 58 = some (58, .invokevirtual 484, 3, 319, 3, 10, 0) := ceB_eq (by decide +kernel)
theorem f_320_61 : fnd 320 61 = some (61, .istore_n 3, 1, 0, 0, 0, 0) := ceB_eq (by decide +kernel)
theorem f_320_62 : fnd 320 62 = some (62, .iconst 0, 1, 0, 0, 0, 0) := ceB_eq (by decide +kernel)
theorem f_320_63 : fnd 320 63 = some (63, .istore 4, 2, 0, 0, 0, 0) := ceB_eq (by decide +kernel)
theorem f_320_65 : fnd 320 65 = some (65, .iload 4, 2, 0, 0, 0, 0) := ceB_eq (by decide +kernel)
theorem f_320_67 : fnd 320 67 = some (67, .sipush 345, 3, 0, 0, 0, 0) := ceB_eq (by decide +kernel)
theorem f_320_70 : fnd 320 70 = some (70, .if_icmp .ge 23, 3, 0, 0, 0, 0) := ceB_eq (by decide +kernel)
theorem f_320_73 : fnd 320 73 = some (73, .aload_n 0, 1, 0, 0, 0, 0) := ceB_eq (by decide +kernel)
theorem f_320_74 : fnd 320 74 = some (74, .getfield 25, 3, 10, 15, 15, 0) := ceB_eq (by decide +kernel)
theorem f_320_77 : fnd 320 77 = some (77, .iload 4, 2, 0, 0, 0, 0) := ceB_eq (by decide +kernel)
theorem f_320_79 : fnd 320 79 = some (79, .aload_n 0, 1, 0, 0, 0, 0) := ceB_eq (by decide +kernel)
theorem f_320_80 : fnd 320 80 = some (80, .getfield 37, 3, 10, 21, 21, 0) := ceB_eq (by decide +kernel)
theorem f_320_83 : fnd 320 83 = some (83, .iload 4, 2, 0, 0, 0, 0) := ceB_eq (by decide +kernel)
theorem f_320_85 : fnd 320 85 = some (85, .iaload, 1, 0, 0, 0, 0) := ceB_eq (by decide +kernel)
theorem f_320_86 : fnd 320 86 = some (86, .iastore, 1, 0, 0, 0, 0) := ceB_eq (by decide +kernel)
theorem f_320_87 : fnd 320 87 = some (87, .iinc 4 1, 3, 0, 0, 0, 0) := ceB_eq (by decide +kernel)
theorem f_320_90 : fnd 320 90 = some (90, .goto (-25), 3, 0, 0, 0, 0) := ceB_eq (by decide +kernel)
theorem f_320_93 : fnd 320 93 = some (93, .iload_n 2, 1, 0, 0, 0, 0) := ceB_eq (by decide +kernel)
theorem f_320_94 : fnd 320 94 = some (94, .iconst 1, 1, 0, 0, 0, 0) := ceB_eq (by decide +kernel)
theorem f_320_95 : fnd 320 95 = some (95, .if_icmp .ne 10, 3, 0, 0, 0, 0) := ceB_eq (by decide +kernel)
theorem f_320_98 : fnd 320 98 = some (98, .aload_n 0, 1, 0, 0, 0, 0) := ceB_eq (by decide +kernel)
theorem f_320_99 : fnd 320 99 = some (99, .getfield 481, 3, 10, 20, 20, 0) := ceB_eq (by decide +kernel)
theorem f_320_102 : fnd 320 102 = some (102, .goto 16, 3, 0, 0, 0, 0) := ceB_eq (by decide +kernel)
theorem f_320_105 : fnd 320 105 = some (105, .aload_n 0, 1, 0, 0, 0, 0) := ceB_eq (by decide +kernel)
theorem f_320_106 : fnd 320 106 = some (106, .getfield 481, 3, 10, 20, 20, 0) := ceB_eq (by decide +kernel)
theorem f_320_109 : fnd 320 109 = some (109, .iconst (-1), 1, 0, 0, 0, 0) := ceB_eq (by decide +kernel)
theorem f_320_110 : fnd 320 110 = some (110, .if_icmp .ne 7, 3, 0, 0, 0, 0) := ceB_eq (by decide +kernel)
theorem f_320_113 : fnd 320 113 = some (113, .iconst (-1), 1, 0, 0, 0, 0) := ceB_eq (by decide +kernel)
theorem f_320_114 : fnd 320 114 = some (114, .goto 4, 3, 0, 0, 0, 0) := ceB_eq (by decide +kernel)
theorem f_320_117 : fnd 320 117 = some (117, .iload_n 3, 1, 0, 0, 0, 0) := ceB_eq (by decide +kernel)
theorem f_320_118 : fnd 320 118 = some (118, .ireturn, 1, 0, 0, 0, 0) := ceB_eq (by decide +kernel)
theorem rk_320 : rkm 320 = 0 := by decide +kernel
theorem ml_320 : (mth 320).2.1 = 5 := by decide +kernel
set_option maxRecDepth 100000 in
theorem T_Z_run (k0 i0 x1 x2 : Int) (σ : ST) (Q : Option AV → ST → Prop) (h :
  wpM m_Z_isScript [.inr (.inr (40, k0, i0)), .inl x1] σ (asI fun r101 s101 =>
  (((r101 = 0 : Prop) →
    Q (some (.inl (-1000000))) s101) ∧
  (¬ (r101 = 0) →
    ((((bz (s101 40 k0 i0 11)) = 0 : Prop) →
      Q (some (.inl (-1000000))) s101) ∧
    (¬ ((bz (s101 40 k0 i0 11)) = 0) →
      wpM m_Z_in [.inl x2, .inl 0, .inl 1] s101 (asI fun r102 s102 =>
      (((r102 ≠ 0 : Prop) →
        wp m_Z_run (30, [some (.inr (.inr (40, k0, i0))), some (.inl x1), some (.inl x2), some (.inl 0), none], [], s102) Q) ∧
      (¬ (r102 ≠ 0) →
        Q (some (.inl (-1000000))) s102))))))))) :
  wpM m_Z_run [.inr (.inr (40, k0, i0)), .inl x1, .inl x2] σ Q :=
 wpM_of ml_320 (L := [some (.inr (.inr (40, k0, i0))), some (.inl x1), some (.inl x2), none, none]) rfl
 (w_aload_n (p' := 1) f_320_0 rfl rfl
 (w_iload_n (p' := 2) f_320_1 rfl rfl
 (w_callV (p' := 5) f_320_2 rfl rfl rfl rfl rfl (r := []) rfl rfl (kI (.inr rk_312) fun r101 s101 h101 =>
 w_if (p' := 24) (q' := 8) f_320_5 rfl rfl
 (fun c105 => w_ldc_w (p' := 27) f_320_24 rfl
 (w_iret f_320_27 rk_320 (h101.1 c105)))
 (fun c105 => w_aload_n (p' := 9) f_320_8 rfl rfl
 (w_getfield (p' := 12) f_320_9 rfl (x := .inl (bz (s101 40 k0 i0 11))) rfl rfl
 (w_if (p' := 24) (q' := 15) f_320_12 rfl rfl
 (fun c104 => w_ldc_w (p' := 27) f_320_24 rfl
 (w_iret f_320_27 rk_320 ((h101.2 c105).1 c104)))
 (fun c104 => w_iload_n (p' := 16) f_320_15 rfl rfl
 (w_iconst (p' := 17) f_320_16 rfl
 (w_iconst (p' := 18) f_320_17 rfl
 (w_callS (p' := 21) f_320_18 rfl rfl rfl (r := []) rfl rfl (kI (.inr rk_168) fun r102 s102 h102 =>
 w_if (p' := 28) (q' := 24) f_320_21 rfl rfl
 (fun c103 => w_iconst (p' := 29) f_320_28 rfl
 (w_istore_n (p' := 30) f_320_29 (L' := [some (.inr (.inr (40, k0, i0))), some (.inl x1), some (.inl x2), some (.inl 0), none]) rfl rfl
 ((h102.1 c103))))
 (fun c103 => w_ldc_w (p' := 27) f_320_24 rfl
 (w_iret f_320_27 rk_320 (h102.2 c103)))) ((h101.2 c105).2 c104))))))))) h)))
set_option maxRecDepth 100000 in
theorem T_Z_run_30 (k0 i0 x1 x2 x3 : Int) (o4 : Option AV) (σ : ST) (Q : Option AV → ST → Prop) (h :
  (((345 ≤ x3 : Prop) →
    wpM m_Z_goSteps [.inr (.inr (40, k0, i0)), .inl x1, .inl 0] σ (asI fun r101 s101 =>
    wp m_Z_run (65, [some (.inr (.inr (40, k0, i0))), some (.inl x1), some (.inl x2), some (.inl r101), some (.inl 0)], [], s101) Q)) ∧
  (¬ (345 ≤ x3) →
    ((0 : Int) ≤ x3 ∧ (x3 : Int) < 526) ∧
    ((0 : Int) ≤ x3 ∧ (x3 : Int) < 345) ∧
    wp m_Z_run (30, [some (.inr (.inr (40, k0, i0))), some (.inl x1), some (.inl x2), some (.inl (wr (x3 + 1))), o4], [], (up σ 50 0 0 x3 (σ 46 0 0 x3))) Q))) :
  wp m_Z_run (30, [some (.inr (.inr (40, k0, i0))), some (.inl x1), some (.inl x2), some (.inl x3), o4], [], σ) Q :=
 w_iload_n (p' := 31) f_320_30 rfl rfl
 (w_sipush (p' := 34) f_320_31 rfl
 (w_icmp (p' := 55) (q' := 37) f_320_34 rfl rfl
 (fun c102 => w_aload_n (p' := 56) f_320_55 rfl rfl
 (w_iload_n (p' := 57) f_320_56 rfl rfl
 (w_iconst (p' := 58) f_320_57 rfl
 (w_callV (p' := 61) f_320_58 rfl rfl rfl rfl rfl (r := []) rfl rfl (kI (.inl rk_319) fun r101 s101 h101 =>
 w_istore_n (p' := 62) f_320_61 (L' := [some (.inr (.inr (40, k0, i0))), some (.inl x1), some (.inl x2), some (.inl r101), o4]) rfl rfl
 (w_iconst (p' := 63) f_320_62 rfl
 (w_istore (p' := 65) f_320_63 (L' := [some (.inr (.inr (40, k0, i0))), some (.inl x1), some (.inl x2), some (.inl r101), some (.inl 0)]) rfl rfl
 (h101)))) (h.1 c102)))))
 (fun c102 => w_aload_n (p' := 38) f_320_37 rfl rfl
 (w_getfield (p' := 41) f_320_38 rfl (x := .inr (.inr (50, 0, 0))) rfl rfl
 (w_iload_n (p' := 42) f_320_41 rfl rfl
 (w_aload_n (p' := 43) f_320_42 rfl rfl
 (w_getfield (p' := 46) f_320_43 rfl (x := .inr (.inr (46, 0, 0))) rfl rfl
 (w_iload_n (p' := 47) f_320_46 rfl rfl
 (w_iaload (p' := 48) f_320_47 rfl (n := 526) rfl (h.2 c102).1 rfl
 (w_iastore (p' := 49) f_320_48 rfl (n := 345) rfl (h.2 c102).2.1 rfl
 (w_iinc (p' := 52) f_320_49 rfl (L' := [some (.inr (.inr (40, k0, i0))), some (.inl x1), some (.inl x2), some (.inl (wr (x3 + 1))), o4]) rfl rfl
 (w_goto (p' := 30) f_320_52 rfl
 ((h.2 c102).2.2)))))))))))))
set_option maxRecDepth 100000 in
theorem T_Z_run_65 (k0 i0 x2 x3 x4 : Int) (o1 : Option AV) (σ : ST) (Q : Option AV → ST → Prop) (h :
  (((345 ≤ x4 : Prop) →
    (((x2 ≠ 1 : Prop) →
      ((((σ 40 k0 i0 20) ≠ (-1) : Prop) →
        Q (some (.inl x3)) σ) ∧
      (¬ ((σ 40 k0 i0 20) ≠ (-1)) →
        Q (some (.inl (-1))) σ))) ∧
    (¬ (x2 ≠ 1) →
      Q (some (.inl (σ 40 k0 i0 20))) σ))) ∧
  (¬ (345 ≤ x4) →
    ((0 : Int) ≤ x4 ∧ (x4 : Int) < 345) ∧
    ((0 : Int) ≤ x4 ∧ (x4 : Int) < 526) ∧
    wp m_Z_run (65, [some (.inr (.inr (40, k0, i0))), o1, some (.inl x2), some (.inl x3), some (.inl (wr (x4 + 1)))], [], (up σ 46 0 0 x4 (σ 50 0 0 x4))) Q))) :
  wp m_Z_run (65, [some (.inr (.inr (40, k0, i0))), o1, some (.inl x2), some (.inl x3), some (.inl x4)], [], σ) Q :=
 w_iload (p' := 67) f_320_65 rfl rfl
 (w_sipush (p' := 70) f_320_67 rfl
 (w_icmp (p' := 93) (q' := 73) f_320_70 rfl rfl
 (fun c103 => w_iload_n (p' := 94) f_320_93 rfl rfl
 (w_iconst (p' := 95) f_320_94 rfl
 (w_icmp (p' := 105) (q' := 98) f_320_95 rfl rfl
 (fun c102 => w_aload_n (p' := 106) f_320_105 rfl rfl
 (w_getfield (p' := 109) f_320_106 rfl (x := .inl (σ 40 k0 i0 20)) rfl rfl
 (w_iconst (p' := 110) f_320_109 rfl
 (w_icmp (p' := 117) (q' := 113) f_320_110 rfl rfl
 (fun c101 => w_iload_n (p' := 118) f_320_117 rfl rfl
 (w_iret f_320_118 rk_320 (((h.1 c103).1 c102).1 c101)))
 (fun c101 => w_iconst (p' := 114) f_320_113 rfl
 (w_goto (p' := 118) f_320_114 rfl
 (w_iret f_320_118 rk_320 (((h.1 c103).1 c102).2 c101))))))))
 (fun c102 => w_aload_n (p' := 99) f_320_98 rfl rfl
 (w_getfield (p' := 102) f_320_99 rfl (x := .inl (σ 40 k0 i0 20)) rfl rfl
 (w_goto (p' := 118) f_320_102 rfl
 (w_iret f_320_118 rk_320 ((h.1 c103).2 c102))))))))
 (fun c103 => w_aload_n (p' := 74) f_320_73 rfl rfl
 (w_getfield (p' := 77) f_320_74 rfl (x := .inr (.inr (46, 0, 0))) rfl rfl
 (w_iload (p' := 79) f_320_77 rfl rfl
 (w_aload_n (p' := 80) f_320_79 rfl rfl
 (w_getfield (p' := 83) f_320_80 rfl (x := .inr (.inr (50, 0, 0))) rfl rfl
 (w_iload (p' := 85) f_320_83 rfl rfl
 (w_iaload (p' := 86) f_320_85 rfl (n := 345) rfl (h.2 c103).1 rfl
 (w_iastore (p' := 87) f_320_86 rfl (n := 526) rfl (h.2 c103).2.1 rfl
 (w_iinc (p' := 90) f_320_87 rfl (L' := [some (.inr (.inr (40, k0, i0))), o1, some (.inl x2), some (.inl x3), some (.inl (wr (x4 + 1)))]) rfl rfl
 (w_goto (p' := 65) f_320_90 rfl
 ((h.2 c103).2.2)))))))))))))
/-! ClosedRoomsModel.perform(I)I -/
theorem f_321_0 : fnd 321 0 = some (0, .aload_n 0, 1, 0, 0, 0, 0) := ceB_eq (by decide +kernel)
theorem f_321_1 : fnd 321 1 = some (1, .iload_n 1, 1, 0, 0, 0, 0) := ceB_eq (by decide +kernel)
theorem f_321_2 : fnd 321 2 = some (2, .invokevirtual 465, 3, 312, 2, 10, 0) := ceB_eq (by decide +kernel)
theorem f_321_5 : fnd 321 5 = some (5, .ifCond .eq 19, 3, 0, 0, 0, 0) := ceB_eq (by decide +kernel)
theorem f_321_8 : fnd 321 8 = some (8, .aload_n 0, 1, 0, 0, 0, 0) := ceB_eq (by decide +kernel)
theorem f_321_9 : fnd 321 9 = some (9, .getfield 199, 3, 10, 11, 11, 0) := ceB_eq (by decide +kernel)
theorem f_321_12 : fnd 321 12 = some (12, .ifCond .eq 12, 3, 0, 0, 0, 0) := ceB_eq (by decide +kernel)
theorem f_321_15 : fnd 321 15 = some (15, .aload_n 0, 1, 0, 0, 0, 0) := ceB_eq (by decide +kernel)
theorem f_321_16 : fnd 321 16 = some (16, .iload_n 1, 1, 0, 0, 0, 0) := ceB_eq (by decide +kernel)
theorem f_321_17 : fnd 321 17 = some (17, .iconst 1, 1, 0, 0, 0, 0) := ceB_eq (by decide +kernel)
theorem f_321_18 : fnd 321 18 = some (18, .invokevirtual 484, 3, 319, 3, 10, 0) := ceB_eq (by decide +kernel)
theorem f_321_21 : fnd 321 21 = some (21, .goto 4, 3, 0, 0, 0, 0) := ceB_eq (by decide +kernel)
theorem f_321_24 : fnd 321 24 = some (24, .iconst (-1), 1, 0, 0, 0, 0) := ceB_eq (by decide +kernel)
theorem f_321_25 : fnd 321 25 = some (25, .ireturn, 1, 0, 0, 0, 0) := ceB_eq (by decide +kernel)
theorem rk_321 : rkm 321 = 0 := by decide +kernel
theorem ml_321 : (mth 321).2.1 = 2 := by decide +kernel
set_option maxRecDepth 100000 in
theorem T_Z_perform (k0 i0 x1 : Int) (σ : ST) (Q : Option AV → ST → Prop) (h :
  wpM m_Z_isScript [.inr (.inr (40, k0, i0)), .inl x1] σ (asI fun r101 s101 =>
  (((r101 = 0 : Prop) →
    Q (some (.inl (-1))) s101) ∧
  (¬ (r101 = 0) →
    ((((bz (s101 40 k0 i0 11)) = 0 : Prop) →
      Q (some (.inl (-1))) s101) ∧
    (¬ ((bz (s101 40 k0 i0 11)) = 0) →
      wpM m_Z_goSteps [.inr (.inr (40, k0, i0)), .inl x1, .inl 1] s101 (asI fun r102 s102 =>
      Q (some (.inl r102)) s102))))))) :
  wpM m_Z_perform [.inr (.inr (40, k0, i0)), .inl x1] σ Q :=
 wpM_of ml_321 (L := [some (.inr (.inr (40, k0, i0))), some (.inl x1)]) rfl
 (w_aload_n (p' := 1) f_321_0 rfl rfl
 (w_iload_n (p' := 2) f_321_1 rfl rfl
 (w_callV (p' := 5) f_321_2 rfl rfl rfl rfl rfl (r := []) rfl rfl (kI (.inr rk_312) fun r101 s101 h101 =>
 w_if (p' := 24) (q' := 8) f_321_5 rfl rfl
 (fun c104 => w_iconst (p' := 25) f_321_24 rfl
 (w_iret f_321_25 rk_321 (h101.1 c104)))
 (fun c104 => w_aload_n (p' := 9) f_321_8 rfl rfl
 (w_getfield (p' := 12) f_321_9 rfl (x := .inl (bz (s101 40 k0 i0 11))) rfl rfl
 (w_if (p' := 24) (q' := 15) f_321_12 rfl rfl
 (fun c103 => w_iconst (p' := 25) f_321_24 rfl
 (w_iret f_321_25 rk_321 ((h101.2 c104).1 c103)))
 (fun c103 => w_aload_n (p' := 16) f_321_15 rfl rfl
 (w_iload_n (p' := 17) f_321_16 rfl rfl
 (w_iconst (p' := 18) f_321_17 rfl
 (w_callV (p' := 21) f_321_18 rfl rfl rfl rfl rfl (r := []) rfl rfl (kI (.inl rk_319) fun r102 s102 h102 =>
 w_goto (p' := 25) f_321_21 rfl
 (w_iret f_321_25 rk_321 h102)) ((h101.2 c104).2 c103))))))))) h)))
/-! ClosedRoomsModel.freeSet()I -/
theorem f_322_0 : fnd 322 0 = some (0, .iconst 0, 1, 0, 0, 0, 0) := ceB_eq (by decide +kernel)
theorem f_322_1 : fnd 322 1 = some (1, .istore_n 1, 1, 0, 0, 0, 0) := ceB_eq (by decide +kernel)
theorem f_322_2 : fnd 322 2 = some (2, .iconst 0, 1, 0, 0, 0, 0) := ceB_eq (by decide +kernel)
theorem f_322_3 : fnd 322 3 = some (3, .istore_n 2, 1, 0, 0, 0, 0) := ceB_eq (by decide +kernel)
theorem f_322_4 : fnd 322 4 = some (4, .iload_n 2, 1, 0, 0, 0, 0) := ceB_eq (by decide +kernel)
theorem f_322_5 : fnd 322 5 = some (5, .aload_n 0, 1, 0, 0, 0, 0) := ceB_eq (by decide +kernel)
theorem f_322_6 : fnd 322 6 = some (6, .getfield 16, 3, 10, 10, 10, 0) := ceB_eq (by decide +kernel)
theorem f_322_9 : fnd 322 9 = some (9, .iconst 0, 1, 0, 0, 0, 0) := ceB_eq (by decide +kernel)
theorem f_322_10 : fnd 322 10 = some (10, .iaload, 1, 0, 0, 0, 0) := ceB_eq (by decide +kernel)
theorem f_322_11 : fnd 322 11 = some (11, .if_icmp .ge 28, 3, 0, 0, 0, 0) := ceB_eq (by decide +kernel)
theorem f_322_14 : fnd 322 14 = some (14, .iload_n 1, 1, 0, 0, 0, 0) := ceB_eq (by decide +kernel)
theorem f_322_15 : fnd 322 15 = some (15, .aload_n 0, 1, 0, 0, 0, 0) := ceB_eq (by decide +kernel)
theorem f_322_16 : fnd 322 16 = some (16, .iload_n 2, 1, 0, 0, 0, 0) := ceB_eq (by decide +kernel)
theorem f_322_17 : fnd 322 17 = some (17, .iconst 0, 1, 0, 0, 0, 0) := ceB_eq (by decide +kernel)
theorem f_322_18 : fnd 322 18 = some (18, .invokevirtual 206, 3, 196, 3, 10, 0) := ceB_eq (by decide +kernel)
theorem f_322_21 : fnd 322 21 = some (21, .ifCond .ne 9, 3, 0, 0, 0, 0) := ceB_eq (by decide +kernel)
theorem f_322_24 : fnd 322 24 = some (24, .iconst 1, 1, 0, 0, 0, 0) := ceB_eq (by decide +kernel)
theorem f_322_25 : fnd 322 25 = some (25, .iload_n 2, 1, 0, 0, 0, 0) := ceB_eq (by decide +kernel)
theorem f_322_26 : fnd 322 26 = some (26, .ishl, 1, 0, 0, 0, 0) := ceB_eq (by decide +kernel)
theorem f_322_27 : fnd 322 27 = some (27, .goto 4, 3, 0, 0, 0, 0) := ceB_eq (by decide +kernel)
theorem f_322_30 : fnd 322 30 = some (30, .iconst 0, 1, 0, 0, 0, 0) := ceB_eq (by decide +kernel)
theorem f_322_31 : fnd 322 31 = some (31, .ior, 1, 0, 0, 0, 0) := ceB_eq (by decide +kernel)
theorem f_322_32 : fnd 322 32 = some (32, .istore_n 1, 1, 0, 0, 0, 0) := ceB_eq (by decide +kernel)
theorem f_322_33 : fnd 322 33 = some (33, .iinc 2 1, 3, 0, 0, 0, 0) := ceB_eq (by decide +kernel)
theorem f_322_36 : fnd 322 36 = some (36, .goto (-32), 3, 0, 0, 0, 0) := ceB_eq (by decide +kernel)
theorem f_322_39 : fnd 322 39 = some (39, .iload_n 1, 1, 0, 0, 0, 0) := ceB_eq (by decide +kernel)
theorem f_322_40 : fnd 322 40 = some (40, .ireturn, 1, 0, 0, 0, 0) := ceB_eq (by decide +kernel)
theorem rk_322 : rkm 322 = 0 := by decide +kernel
theorem ml_322 : (mth 322).2.1 = 3 := by decide +kernel
set_option maxRecDepth 100000 in
theorem T_Z_freeSet (k0 i0 : Int) (σ : ST) (Q : Option AV → ST → Prop) (h :
  wp m_Z_freeSet (4, [some (.inr (.inr (40, k0, i0))), some (.inl 0), some (.inl 0)], [], σ) Q) :
  wpM m_Z_freeSet [.inr (.inr (40, k0, i0))] σ Q :=
 wpM_of ml_322 (L := [some (.inr (.inr (40, k0, i0))), none, none]) rfl
 (w_iconst (p' := 1) f_322_0 rfl
 (w_istore_n (p' := 2) f_322_1 (L' := [some (.inr (.inr (40, k0, i0))), some (.inl 0), none]) rfl rfl
 (w_iconst (p' := 3) f_322_2 rfl
 (w_istore_n (p' := 4) f_322_3 (L' := [some (.inr (.inr (40, k0, i0))), some (.inl 0), some (.inl 0)]) rfl rfl
 (h)))))
set_option maxRecDepth 100000 in
theorem T_Z_freeSet_4 (k0 i0 x1 x2 : Int) (σ : ST) (Q : Option AV → ST → Prop) (h :
  ((0 : Int) ≤ 0 ∧ (0 : Int) < 4) ∧
  ((((σ 43 0 0 0) ≤ x2 : Prop) →
    Q (some (.inl x1)) σ) ∧
  (¬ ((σ 43 0 0 0) ≤ x2) →
    wpM m_Z_ofPage [.inr (.inr (40, k0, i0)), .inl x2, .inl 0] σ (asI fun r101 s101 =>
    (((r101 ≠ 0 : Prop) →
      wp m_Z_freeSet (4, [some (.inr (.inr (40, k0, i0))), some (.inl (i_or x1 0)), some (.inl (wr (x2 + 1)))], [], s101) Q) ∧
    (¬ (r101 ≠ 0) →
      wp m_Z_freeSet (4, [some (.inr (.inr (40, k0, i0))), some (.inl (i_or x1 (i_shl 1 x2))), some (.inl (wr (x2 + 1)))], [], s101) Q)))))) :
  wp m_Z_freeSet (4, [some (.inr (.inr (40, k0, i0))), some (.inl x1), some (.inl x2)], [], σ) Q :=
 w_iload_n (p' := 5) f_322_4 rfl rfl
 (w_aload_n (p' := 6) f_322_5 rfl rfl
 (w_getfield (p' := 9) f_322_6 rfl (x := .inr (.inr (43, 0, 0))) rfl rfl
 (w_iconst (p' := 10) f_322_9 rfl
 (w_iaload (p' := 11) f_322_10 rfl (n := 4) rfl h.1 rfl
 (w_icmp (p' := 39) (q' := 14) f_322_11 rfl rfl
 (fun c103 => w_iload_n (p' := 40) f_322_39 rfl rfl
 (w_iret f_322_40 rk_322 (h.2.1 c103)))
 (fun c103 => w_iload_n (p' := 15) f_322_14 rfl rfl
 (w_aload_n (p' := 16) f_322_15 rfl rfl
 (w_iload_n (p' := 17) f_322_16 rfl rfl
 (w_iconst (p' := 18) f_322_17 rfl
 (w_callV (p' := 21) f_322_18 rfl rfl rfl rfl rfl (r := [.inl x1]) rfl rfl (kI (.inl rk_196) fun r101 s101 h101 =>
 w_if (p' := 30) (q' := 24) f_322_21 rfl rfl
 (fun c102 => w_iconst (p' := 31) f_322_30 rfl
 (w_ior (p' := 32) f_322_31 rfl
 (w_istore_n (p' := 33) f_322_32 (L' := [some (.inr (.inr (40, k0, i0))), some (.inl (i_or x1 0)), some (.inl x2)]) rfl rfl
 (w_iinc (p' := 36) f_322_33 rfl (L' := [some (.inr (.inr (40, k0, i0))), some (.inl (i_or x1 0)), some (.inl (wr (x2 + 1)))]) rfl rfl
 (w_goto (p' := 4) f_322_36 rfl
 ((h101.1 c102)))))))
 (fun c102 => w_iconst (p' := 25) f_322_24 rfl
 (w_iload_n (p' := 26) f_322_25 rfl rfl
 (w_ishl (p' := 27) f_322_26 rfl
 (w_goto (p' := 31) f_322_27 rfl
 (w_ior (p' := 32) f_322_31 rfl
 (w_istore_n (p' := 33) f_322_32 (L' := [some (.inr (.inr (40, k0, i0))), some (.inl (i_or x1 (i_shl 1 x2))), some (.inl x2)]) rfl rfl
 (w_iinc (p' := 36) f_322_33 rfl (L' := [some (.inr (.inr (40, k0, i0))), some (.inl (i_or x1 (i_shl 1 x2))), some (.inl (wr (x2 + 1)))]) rfl rfl
 (w_goto (p' := 4) f_322_36 rfl
 ((h101.2 c102))))))))))) (h.2.2 c103)))))))))))
/-! ClosedRoomsModel.roomSet()I -/
theorem f_323_0 : fnd 323 0 = some (0, .iconst 0, 1, 0, 0, 0, 0) := ceB_eq (by decide +kernel)
theorem f_323_1 : fnd 323 1 = some (1, .istore_n 1, 1, 0, 0, 0, 0) := ceB_eq (by decide +kernel)
theorem f_323_2 : fnd 323 2 = some (2, .iconst 0, 1, 0, 0, 0, 0) := ceB_eq (by decide +kernel)
theorem f_323_3 : fnd 323 3 = some (3, .istore_n 2, 1, 0, 0, 0, 0) := ceB_eq (by decide +kernel)
theorem f_323_4 : fnd 323 4 = some (4, .iload_n 2, 1, 0, 0, 0, 0) := ceB_eq (by decide +kernel)
theorem f_323_5 : fnd 323 5 = some (5, .iconst 4, 1, 0, 0, 0, 0) := ceB_eq (by decide +kernel)
theorem f_323_6 : fnd 323 6 = some (6, .if_icmp .ge 27, 3, 0, 0, 0, 0) := ceB_eq (by decide +kernel)
theorem f_323_9 : fnd 323 9 = some (9, .iload_n 1, 1, 0, 0, 0, 0) := ceB_eq (by decide +kernel)
theorem f_323_10 : fnd 323 10 = some (10, .aload_n 0, 1, 0, 0, 0, 0) := ceB_eq (by decide +kernel)
theorem f_323_11 : fnd 323 11 = some (11, .iload_n 2, 1, 0, 0, 0, 0) := ceB_eq (by decide +kernel)
theorem f_323_12 : fnd 323 12 = some (12, .invokevirtual 252, 3, 201, 2, 10, 0) := ceB_eq (by decide +kernel)
theorem f_323_15 : fnd 323 15 = some (15, .ifCond .eq 9, 3, 0, 0, 0, 0) := ceB_eq (by decide +kernel)
theorem f_323_18 : fnd 323 18 = some (18, .iconst 1, 1, 0, 0, 0, 0) := ceB_eq (by decide +kernel)
theorem f_323_19 : fnd 323 19 = some (19, .iload_n 2, 1, 0, 0, 0, 0) := ceB_eq (by decide +kernel)
theorem f_323_20 : fnd 323 20 = some (20, .ishl, 1, 0, 0, 0, 0) := ceB_eq (by decide +kernel)
theorem f_323_21 : fnd 323 21 = some (21, .goto 4, 3, 0, 0, 0, 0) := ceB_eq (by decide +kernel)
theorem f_323_24 : fnd 323 24 = some (24, .iconst 0, 1, 0, 0, 0, 0) := ceB_eq (by decide +kernel)
theorem f_323_25 : fnd 323 25 = some (25, .ior, 1, 0, 0, 0, 0) := ceB_eq (by decide +kernel)
theorem f_323_26 : fnd 323 26 = some (26, .istore_n 1, 1, 0, 0, 0, 0) := ceB_eq (by decide +kernel)
theorem f_323_27 : fnd 323 27 = some (27, .iinc 2 1, 3, 0, 0, 0, 0) := ceB_eq (by decide +kernel)
theorem f_323_30 : fnd 323 30 = some (30, .goto (-26), 3, 0, 0, 0, 0) := ceB_eq (by decide +kernel)
theorem f_323_33 : fnd 323 33 = some (33, .iload_n 1, 1, 0, 0, 0, 0) := ceB_eq (by decide +kernel)
theorem f_323_34 : fnd 323 34 = some (34, .ireturn, 1, 0, 0, 0, 0) := ceB_eq (by decide +kernel)
theorem rk_323 : rkm 323 = 0 := by decide +kernel
theorem ml_323 : (mth 323).2.1 = 3 := by decide +kernel
set_option maxRecDepth 100000 in
theorem T_Z_roomSet (k0 i0 : Int) (σ : ST) (Q : Option AV → ST → Prop) (h :
  wp m_Z_roomSet (4, [some (.inr (.inr (40, k0, i0))), some (.inl 0), some (.inl 0)], [], σ) Q) :
  wpM m_Z_roomSet [.inr (.inr (40, k0, i0))] σ Q :=
 wpM_of ml_323 (L := [some (.inr (.inr (40, k0, i0))), none, none]) rfl
 (w_iconst (p' := 1) f_323_0 rfl
 (w_istore_n (p' := 2) f_323_1 (L' := [some (.inr (.inr (40, k0, i0))), some (.inl 0), none]) rfl rfl
 (w_iconst (p' := 3) f_323_2 rfl
 (w_istore_n (p' := 4) f_323_3 (L' := [some (.inr (.inr (40, k0, i0))), some (.inl 0), some (.inl 0)]) rfl rfl
 (h)))))
set_option maxRecDepth 100000 in
theorem T_Z_roomSet_4 (k0 i0 x1 x2 : Int) (σ : ST) (Q : Option AV → ST → Prop) (h :
  (((4 ≤ x2 : Prop) →
    Q (some (.inl x1)) σ) ∧
  (¬ (4 ≤ x2) →
    wpM m_Z_isRoom [.inr (.inr (40, k0, i0)), .inl x2] σ (asI fun r101 s101 =>
    (((r101 = 0 : Prop) →
      wp m_Z_roomSet (4, [some (.inr (.inr (40, k0, i0))), some (.inl (i_or x1 0)), some (.inl (wr (x2 + 1)))], [], s101) Q) ∧
    (¬ (r101 = 0) →
      wp m_Z_roomSet (4, [some (.inr (.inr (40, k0, i0))), some (.inl (i_or x1 (i_shl 1 x2))), some (.inl (wr (x2 + 1)))], [], s101) Q)))))) :
  wp m_Z_roomSet (4, [some (.inr (.inr (40, k0, i0))), some (.inl x1), some (.inl x2)], [], σ) Q :=
 w_iload_n (p' := 5) f_323_4 rfl rfl
 (w_iconst (p' := 6) f_323_5 rfl
 (w_icmp (p' := 33) (q' := 9) f_323_6 rfl rfl
 (fun c103 => w_iload_n (p' := 34) f_323_33 rfl rfl
 (w_iret f_323_34 rk_323 (h.1 c103)))
 (fun c103 => w_iload_n (p' := 10) f_323_9 rfl rfl
 (w_aload_n (p' := 11) f_323_10 rfl rfl
 (w_iload_n (p' := 12) f_323_11 rfl rfl
 (w_callV (p' := 15) f_323_12 rfl rfl rfl rfl rfl (r := [.inl x1]) rfl rfl (kI (.inr rk_201) fun r101 s101 h101 =>
 w_if (p' := 24) (q' := 18) f_323_15 rfl rfl
 (fun c102 => w_iconst (p' := 25) f_323_24 rfl
 (w_ior (p' := 26) f_323_25 rfl
 (w_istore_n (p' := 27) f_323_26 (L' := [some (.inr (.inr (40, k0, i0))), some (.inl (i_or x1 0)), some (.inl x2)]) rfl rfl
 (w_iinc (p' := 30) f_323_27 rfl (L' := [some (.inr (.inr (40, k0, i0))), some (.inl (i_or x1 0)), some (.inl (wr (x2 + 1)))]) rfl rfl
 (w_goto (p' := 4) f_323_30 rfl
 ((h101.1 c102)))))))
 (fun c102 => w_iconst (p' := 19) f_323_18 rfl
 (w_iload_n (p' := 20) f_323_19 rfl rfl
 (w_ishl (p' := 21) f_323_20 rfl
 (w_goto (p' := 25) f_323_21 rfl
 (w_ior (p' := 26) f_323_25 rfl
 (w_istore_n (p' := 27) f_323_26 (L' := [some (.inr (.inr (40, k0, i0))), some (.inl (i_or x1 (i_shl 1 x2))), some (.inl x2)]) rfl rfl
 (w_iinc (p' := 30) f_323_27 rfl (L' := [some (.inr (.inr (40, k0, i0))), some (.inl (i_or x1 (i_shl 1 x2))), some (.inl (wr (x2 + 1)))]) rfl rfl
 (w_goto (p' := 4) f_323_30 rfl
 ((h101.2 c102))))))))))) (h.2 c103)))))))
/-! ClosedRoomsModel.insideSet()I -/
theorem f_324_0 : fnd 324 0 = some (0, .iconst 0, 1, 0, 0, 0, 0) := ceB_eq (by decide +kernel)
theorem f_324_1 : fnd 324 1 = some (1, .istore_n 1, 1, 0, 0, 0, 0) := ceB_eq (by decide +kernel)
theorem f_324_2 : fnd 324 2 = some (2, .iconst 0, 1, 0, 0, 0, 0) := ceB_eq (by decide +kernel)
theorem f_324_3 : fnd 324 3 = some (3, .istore_n 2, 1, 0, 0, 0, 0) := ceB_eq (by decide +kernel)
theorem f_324_4 : fnd 324 4 = some (4, .iload_n 2, 1, 0, 0, 0, 0) := ceB_eq (by decide +kernel)
theorem f_324_5 : fnd 324 5 = some (5, .aload_n 0, 1, 0, 0, 0, 0) := ceB_eq (by decide +kernel)
theorem f_324_6 : fnd 324 6 = some (6, .getfield 16, 3, 10, 10, 10, 0) := ceB_eq (by decide +kernel)
theorem f_324_9 : fnd 324 9 = some (9, .iconst 1, 1, 0, 0, 0, 0) := ceB_eq (by decide +kernel)
theorem f_324_10 : fnd 324 10 = some (10, .iaload, 1, 0, 0, 0, 0) := ceB_eq (by decide +kernel)
theorem f_324_11 : fnd 324 11 = some (11, .if_icmp .ge 27, 3, 0, 0, 0, 0) := ceB_eq (by decide +kernel)
theorem f_324_14 : fnd 324 14 = some (14, .iload_n 1, 1, 0, 0, 0, 0) := ceB_eq (by decide +kernel)
theorem f_324_15 : fnd 324 15 = some (15, .aload_n 0, 1, 0, 0, 0, 0) := ceB_eq (by decide +kernel)
theorem f_324_16 : fnd 324 16 = some (16, .iload_n 2, 1, 0, 0, 0, 0) := ceB_eq (by decide +kernel)
theorem f_324_17 : fnd 324 17 = some (17, .invokevirtual 264, 3, 209, 2, 10, 0) := ceB_eq (by decide +kernel)
theorem f_324_20 : fnd 324 20 = some (20, .ifCond .eq 9, 3, 0, 0, 0, 0) := ceB_eq (by decide +kernel)
theorem f_324_23 : fnd 324 23 = some (23, .iconst 1, 1, 0, 0, 0, 0) := ceB_eq (by decide +kernel)
theorem f_324_24 : fnd 324 24 = some (24, .iload_n 2, 1, 0, 0, 0, 0) := ceB_eq (by decide +kernel)
theorem f_324_25 : fnd 324 25 = some (25, .ishl, 1, 0, 0, 0, 0) := ceB_eq (by decide +kernel)
theorem f_324_26 : fnd 324 26 = some (26, .goto 4, 3, 0, 0, 0, 0) := ceB_eq (by decide +kernel)
theorem f_324_29 : fnd 324 29 = some (29, .iconst 0, 1, 0, 0, 0, 0) := ceB_eq (by decide +kernel)
theorem f_324_30 : fnd 324 30 = some (30, .ior, 1, 0, 0, 0, 0) := ceB_eq (by decide +kernel)
theorem f_324_31 : fnd 324 31 = some (31, .istore_n 1, 1, 0, 0, 0, 0) := ceB_eq (by decide +kernel)
theorem f_324_32 : fnd 324 32 = some (32, .iinc 2 1, 3, 0, 0, 0, 0) := ceB_eq (by decide +kernel)
theorem f_324_35 : fnd 324 35 = some (35, .goto (-31), 3, 0, 0, 0, 0) := ceB_eq (by decide +kernel)
theorem f_324_38 : fnd 324 38 = some (38, .iload_n 1, 1, 0, 0, 0, 0) := ceB_eq (by decide +kernel)
theorem f_324_39 : fnd 324 39 = some (39, .ireturn, 1, 0, 0, 0, 0) := ceB_eq (by decide +kernel)
theorem rk_324 : rkm 324 = 0 := by decide +kernel
theorem ml_324 : (mth 324).2.1 = 3 := by decide +kernel
set_option maxRecDepth 100000 in
theorem T_Z_insideSet (k0 i0 : Int) (σ : ST) (Q : Option AV → ST → Prop) (h :
  wp m_Z_insideSet (4, [some (.inr (.inr (40, k0, i0))), some (.inl 0), some (.inl 0)], [], σ) Q) :
  wpM m_Z_insideSet [.inr (.inr (40, k0, i0))] σ Q :=
 wpM_of ml_324 (L := [some (.inr (.inr (40, k0, i0))), none, none]) rfl
 (w_iconst (p' := 1) f_324_0 rfl
 (w_istore_n (p' := 2) f_324_1 (L' := [some (.inr (.inr (40, k0, i0))), some (.inl 0), none]) rfl rfl
 (w_iconst (p' := 3) f_324_2 rfl
 (w_istore_n (p' := 4) f_324_3 (L' := [some (.inr (.inr (40, k0, i0))), some (.inl 0), some (.inl 0)]) rfl rfl
 (h)))))
set_option maxRecDepth 100000 in
theorem T_Z_insideSet_4 (k0 i0 x1 x2 : Int) (σ : ST) (Q : Option AV → ST → Prop) (h :
  ((0 : Int) ≤ 1 ∧ (1 : Int) < 4) ∧
  ((((σ 43 0 0 1) ≤ x2 : Prop) →
    Q (some (.inl x1)) σ) ∧
  (¬ ((σ 43 0 0 1) ≤ x2) →
    wpM m_Z_isInside [.inr (.inr (40, k0, i0)), .inl x2] σ (asI fun r101 s101 =>
    (((r101 = 0 : Prop) →
      wp m_Z_insideSet (4, [some (.inr (.inr (40, k0, i0))), some (.inl (i_or x1 0)), some (.inl (wr (x2 + 1)))], [], s101) Q) ∧
    (¬ (r101 = 0) →
      wp m_Z_insideSet (4, [some (.inr (.inr (40, k0, i0))), some (.inl (i_or x1 (i_shl 1 x2))), some (.inl (wr (x2 + 1)))], [], s101) Q)))))) :
  wp m_Z_insideSet (4, [some (.inr (.inr (40, k0, i0))), some (.inl x1), some (.inl x2)], [], σ) Q :=
 w_iload_n (p' := 5) f_324_4 rfl rfl
 (w_aload_n (p' := 6) f_324_5 rfl rfl
 (w_getfield (p' := 9) f_324_6 rfl (x := .inr (.inr (43, 0, 0))) rfl rfl
 (w_iconst (p' := 10) f_324_9 rfl
 (w_iaload (p' := 11) f_324_10 rfl (n := 4) rfl h.1 rfl
 (w_icmp (p' := 38) (q' := 14) f_324_11 rfl rfl
 (fun c103 => w_iload_n (p' := 39) f_324_38 rfl rfl
 (w_iret f_324_39 rk_324 (h.2.1 c103)))
 (fun c103 => w_iload_n (p' := 15) f_324_14 rfl rfl
 (w_aload_n (p' := 16) f_324_15 rfl rfl
 (w_iload_n (p' := 17) f_324_16 rfl rfl
 (w_callV (p' := 20) f_324_17 rfl rfl rfl rfl rfl (r := [.inl x1]) rfl rfl (kI (.inr rk_209) fun r101 s101 h101 =>
 w_if (p' := 29) (q' := 23) f_324_20 rfl rfl
 (fun c102 => w_iconst (p' := 30) f_324_29 rfl
 (w_ior (p' := 31) f_324_30 rfl
 (w_istore_n (p' := 32) f_324_31 (L' := [some (.inr (.inr (40, k0, i0))), some (.inl (i_or x1 0)), some (.inl x2)]) rfl rfl
 (w_iinc (p' := 35) f_324_32 rfl (L' := [some (.inr (.inr (40, k0, i0))), some (.inl (i_or x1 0)), some (.inl (wr (x2 + 1)))]) rfl rfl
 (w_goto (p' := 4) f_324_35 rfl
 ((h101.1 c102)))))))
 (fun c102 => w_iconst (p' := 24) f_324_23 rfl
 (w_iload_n (p' := 25) f_324_24 rfl rfl
 (w_ishl (p' := 26) f_324_25 rfl
 (w_goto (p' := 30) f_324_26 rfl
 (w_ior (p' := 31) f_324_30 rfl
 (w_istore_n (p' := 32) f_324_31 (L' := [some (.inr (.inr (40, k0, i0))), some (.inl (i_or x1 (i_shl 1 x2))), some (.inl x2)]) rfl rfl
 (w_iinc (p' := 35) f_324_32 rfl (L' := [some (.inr (.inr (40, k0, i0))), some (.inl (i_or x1 (i_shl 1 x2))), some (.inl (wr (x2 + 1)))]) rfl rfl
 (w_goto (p' := 4) f_324_35 rfl
 ((h101.2 c102))))))))))) (h.2.2 c103))))))))))
/-! ClosedRoomsModel.copySet()I -/
theorem f_325_0 : fnd 325 0 = some (0, .iconst 0, 1, 0, 0, 0, 0) := ceB_eq (by decide +kernel)
theorem f_325_1 : fnd 325 1 = some (1, .istore_n 1, 1, 0, 0, 0, 0) := ceB_eq (by decide +kernel)
theorem f_325_2 : fnd 325 2 = some (2, .iconst 0, 1, 0, 0, 0, 0) := ceB_eq (by decide +kernel)
theorem f_325_3 : fnd 325 3 = some (3, .istore_n 2, 1, 0, 0, 0, 0) := ceB_eq (by decide +kernel)
theorem f_325_4 : fnd 325 4 = some (4, .iload_n 2, 1, 0, 0, 0, 0) := ceB_eq (by decide +kernel)
theorem f_325_5 : fnd 325 5 = some (5, .bipush 12, 2, 0, 0, 0, 0) := ceB_eq (by decide +kernel)
theorem f_325_7 : fnd 325 7 = some (7, .if_icmp .ge 27, 3, 0, 0, 0, 0) := ceB_eq (by decide +kernel)
theorem f_325_10 : fnd 325 10 = some (10, .iload_n 1, 1, 0, 0, 0, 0) := ceB_eq (by decide +kernel)
theorem f_325_11 : fnd 325 11 = some (11, .aload_n 0, 1, 0, 0, 0, 0) := ceB_eq (by decide +kernel)
theorem f_325_12 : fnd 325 12 = some (12, .iload_n 2, 1, 0, 0, 0, 0) := ceB_eq (by decide +kernel)
theorem f_325_13 : fnd 325 13 = some (13, .invokevirtual 301, 3, 229, 2, 10, 0) := ceB_eq (by decide +kernel)
theorem f_325_16 : fnd 325 16 = some (16, .ifCond .eq 9, 3, 0, 0, 0, 0) := ceB_eq (by decide +kernel)
theorem f_325_19 : fnd 325 19 = some (19, .iconst 1, 1, 0, 0, 0, 0) := ceB_eq (by decide +kernel)
theorem f_325_20 : fnd 325 20 = some (20, .iload_n 2, 1, 0, 0, 0, 0) := ceB_eq (by decide +kernel)
theorem f_325_21 : fnd 325 21 = some (21, .ishl, 1, 0, 0, 0, 0) := ceB_eq (by decide +kernel)
theorem f_325_22 : fnd 325 22 = some (22, .goto 4, 3, 0, 0, 0, 0) := ceB_eq (by decide +kernel)
theorem f_325_25 : fnd 325 25 = some (25, .iconst 0, 1, 0, 0, 0, 0) := ceB_eq (by decide +kernel)
theorem f_325_26 : fnd 325 26 = some (26, .ior, 1, 0, 0, 0, 0) := ceB_eq (by decide +kernel)
theorem f_325_27 : fnd 325 27 = some (27, .istore_n 1, 1, 0, 0, 0, 0) := ceB_eq (by decide +kernel)
theorem f_325_28 : fnd 325 28 = some (28, .iinc 2 1, 3, 0, 0, 0, 0) := ceB_eq (by decide +kernel)
theorem f_325_31 : fnd 325 31 = some (31, .goto (-27), 3, 0, 0, 0, 0) := ceB_eq (by decide +kernel)
theorem f_325_34 : fnd 325 34 = some (34, .iload_n 1, 1, 0, 0, 0, 0) := ceB_eq (by decide +kernel)
theorem f_325_35 : fnd 325 35 = some (35, .ireturn, 1, 0, 0, 0, 0) := ceB_eq (by decide +kernel)
theorem rk_325 : rkm 325 = 0 := by decide +kernel
theorem ml_325 : (mth 325).2.1 = 3 := by decide +kernel
set_option maxRecDepth 100000 in
theorem T_Z_copySet (k0 i0 : Int) (σ : ST) (Q : Option AV → ST → Prop) (h :
  wp m_Z_copySet (4, [some (.inr (.inr (40, k0, i0))), some (.inl 0), some (.inl 0)], [], σ) Q) :
  wpM m_Z_copySet [.inr (.inr (40, k0, i0))] σ Q :=
 wpM_of ml_325 (L := [some (.inr (.inr (40, k0, i0))), none, none]) rfl
 (w_iconst (p' := 1) f_325_0 rfl
 (w_istore_n (p' := 2) f_325_1 (L' := [some (.inr (.inr (40, k0, i0))), some (.inl 0), none]) rfl rfl
 (w_iconst (p' := 3) f_325_2 rfl
 (w_istore_n (p' := 4) f_325_3 (L' := [some (.inr (.inr (40, k0, i0))), some (.inl 0), some (.inl 0)]) rfl rfl
 (h)))))
set_option maxRecDepth 100000 in
theorem T_Z_copySet_4 (k0 i0 x1 x2 : Int) (σ : ST) (Q : Option AV → ST → Prop) (h :
  (((12 ≤ x2 : Prop) →
    Q (some (.inl x1)) σ) ∧
  (¬ (12 ≤ x2) →
    wpM m_Z_isCopy [.inr (.inr (40, k0, i0)), .inl x2] σ (asI fun r101 s101 =>
    (((r101 = 0 : Prop) →
      wp m_Z_copySet (4, [some (.inr (.inr (40, k0, i0))), some (.inl (i_or x1 0)), some (.inl (wr (x2 + 1)))], [], s101) Q) ∧
    (¬ (r101 = 0) →
      wp m_Z_copySet (4, [some (.inr (.inr (40, k0, i0))), some (.inl (i_or x1 (i_shl 1 x2))), some (.inl (wr (x2 + 1)))], [], s101) Q)))))) :
  wp m_Z_copySet (4, [some (.inr (.inr (40, k0, i0))), some (.inl x1), some (.inl x2)], [], σ) Q :=
 w_iload_n (p' := 5) f_325_4 rfl rfl
 (w_bipush (p' := 7) f_325_5 rfl
 (w_icmp (p' := 34) (q' := 10) f_325_7 rfl rfl
 (fun c103 => w_iload_n (p' := 35) f_325_34 rfl rfl
 (w_iret f_325_35 rk_325 (h.1 c103)))
 (fun c103 => w_iload_n (p' := 11) f_325_10 rfl rfl
 (w_aload_n (p' := 12) f_325_11 rfl rfl
 (w_iload_n (p' := 13) f_325_12 rfl rfl
 (w_callV (p' := 16) f_325_13 rfl rfl rfl rfl rfl (r := [.inl x1]) rfl rfl (kI (.inr rk_229) fun r101 s101 h101 =>
 w_if (p' := 25) (q' := 19) f_325_16 rfl rfl
 (fun c102 => w_iconst (p' := 26) f_325_25 rfl
 (w_ior (p' := 27) f_325_26 rfl
 (w_istore_n (p' := 28) f_325_27 (L' := [some (.inr (.inr (40, k0, i0))), some (.inl (i_or x1 0)), some (.inl x2)]) rfl rfl
 (w_iinc (p' := 31) f_325_28 rfl (L' := [some (.inr (.inr (40, k0, i0))), some (.inl (i_or x1 0)), some (.inl (wr (x2 + 1)))]) rfl rfl
 (w_goto (p' := 4) f_325_31 rfl
 ((h101.1 c102)))))))
 (fun c102 => w_iconst (p' := 20) f_325_19 rfl
 (w_iload_n (p' := 21) f_325_20 rfl rfl
 (w_ishl (p' := 22) f_325_21 rfl
 (w_goto (p' := 26) f_325_22 rfl
 (w_ior (p' := 27) f_325_26 rfl
 (w_istore_n (p' := 28) f_325_27 (L' := [some (.inr (.inr (40, k0, i0))), some (.inl (i_or x1 (i_shl 1 x2))), some (.inl x2)]) rfl rfl
 (w_iinc (p' := 31) f_325_28 rfl (L' := [some (.inr (.inr (40, k0, i0))), some (.inl (i_or x1 (i_shl 1 x2))), some (.inl (wr (x2 + 1)))]) rfl rfl
 (w_goto (p' := 4) f_325_31 rfl
 ((h101.2 c102))))))))))) (h.2 c103)))))))
/-! ClosedRoomsModel.emptyOfAll()I -/
theorem f_326_0 : fnd 326 0 = some (0, .iconst 0, 1, 0, 0, 0, 0) := ceB_eq (by decide +kernel)
theorem f_326_1 : fnd 326 1 = some (1, .istore_n 1, 1, 0, 0, 0, 0) := ceB_eq (by decide +kernel)
theorem f_326_2 : fnd 326 2 = some (2, .iconst 0, 1, 0, 0, 0, 0) := ceB_eq (by decide +kernel)
theorem f_326_3 : fnd 326 3 = some (3, .istore_n 2, 1, 0, 0, 0, 0) := ceB_eq (by decide +kernel)
theorem f_326_4 : fnd 326 4 = some (4, .iload_n 2, 1, 0, 0, 0, 0) := ceB_eq (by decide +kernel)
theorem f_326_5 : fnd 326 5 = some (5, .aload_n 0, 1, 0, 0, 0, 0) := ceB_eq (by decide +kernel)
theorem f_326_6 : fnd 326 6 = some (6, .getfield 16, 3, 10, 10, 10, 0) := ceB_eq (by decide +kernel)
theorem f_326_9 : fnd 326 9 = some (9, .iconst 0, 1, 0, 0, 0, 0) := ceB_eq (by decide +kernel)
theorem f_326_10 : fnd 326 10 = some (10, .iaload, 1, 0, 0, 0, 0) := ceB_eq (by decide +kernel)
theorem f_326_11 : fnd 326 11 = some (11, .if_icmp .ge 31, 3, 0, 0, 0, 0) := ceB_eq (by decide +kernel)
theorem f_326_14 : fnd 326 14 = some (14, .iload_n 1, 1, 0, 0, 0, 0) := ceB_eq (by decide +kernel)
theorem f_326_15 : fnd 326 15 = some (15, .aload_n 0, 1, 0, 0, 0, 0) := ceB_eq (by decide +kernel)
theorem f_326_16 : fnd 326 16 = some (16, .iload_n 2, 1, 0, 0, 0, 0) := ceB_eq (by decide +kernel)
theorem f_326_17 : fnd 326 17 = some (17, .iconst 0, 1, 0, 0, 0, 0) := ceB_eq (by decide +kernel)
theorem f_326_18 : fnd 326 18 = some (18, .invokevirtual 206, 3, 196, 3, 10, 0) := ceB_eq (by decide +kernel)
theorem f_326_21 : fnd 326 21 = some (21, .iconst 4, 1, 0, 0, 0, 0) := ceB_eq (by decide +kernel)
theorem f_326_22 : fnd 326 22 = some (22, .if_icmp .ne 11, 3, 0, 0, 0, 0) := ceB_eq (by decide +kernel)
theorem f_326_25 : fnd 326 25 = some (25, .aload_n 0, 1, 0, 0, 0, 0) := ceB_eq (by decide +kernel)
theorem f_326_26 : fnd 326 26 = some (26, .iload_n 2, 1, 0, 0, 0, 0) := ceB_eq (by decide +kernel)
theorem f_326_27 : fnd 326 27 = some (27, .invokevirtual 307, 3, 233, 2, 10, 0) := ceB_eq (by decide +kernel)
theorem f_326_30 : fnd 326 30 = some (30, .goto 4, 3, 0, 0, 0, 0) := ceB_eq (by decide +kernel)
theorem f_326_33 : fnd 326 33 = some (33, .iconst 0, 1, 0, 0, 0, 0) := ceB_eq (by decide +kernel)
theorem f_326_34 : fnd 326 34 = some (34, .iadd, 1, 0, 0, 0, 0) := ceB_eq (by decide +kernel)
theorem f_326_35 : fnd 326 35 = some (35, .istore_n 1, 1, 0, 0, 0, 0) := ceB_eq (by decide +kernel)
theorem f_326_36 : fnd 326 36 = some (36, .iinc 2 1, 3, 0, 0, 0, 0) := ceB_eq (by decide +kernel)
theorem f_326_39 : fnd 326 39 = some (39, .goto (-35), 3, 0, 0, 0, 0) := ceB_eq (by decide +kernel)
theorem f_326_42 : fnd 326 42 = some (42, .iload_n 1, 1, 0, 0, 0, 0) := ceB_eq (by decide +kernel)
theorem f_326_43 : fnd 326 43 = some (43, .ireturn, 1, 0, 0, 0, 0) := ceB_eq (by decide +kernel)
theorem rk_326 : rkm 326 = 0 := by decide +kernel
theorem ml_326 : (mth 326).2.1 = 3 := by decide +kernel
set_option maxRecDepth 100000 in
theorem T_Z_emptyOfAll (k0 i0 : Int) (σ : ST) (Q : Option AV → ST → Prop) (h :
  wp m_Z_emptyOfAll (4, [some (.inr (.inr (40, k0, i0))), some (.inl 0), some (.inl 0)], [], σ) Q) :
  wpM m_Z_emptyOfAll [.inr (.inr (40, k0, i0))] σ Q :=
 wpM_of ml_326 (L := [some (.inr (.inr (40, k0, i0))), none, none]) rfl
 (w_iconst (p' := 1) f_326_0 rfl
 (w_istore_n (p' := 2) f_326_1 (L' := [some (.inr (.inr (40, k0, i0))), some (.inl 0), none]) rfl rfl
 (w_iconst (p' := 3) f_326_2 rfl
 (w_istore_n (p' := 4) f_326_3 (L' := [some (.inr (.inr (40, k0, i0))), some (.inl 0), some (.inl 0)]) rfl rfl
 (h)))))
set_option maxRecDepth 100000 in
theorem T_Z_emptyOfAll_4 (k0 i0 x1 x2 : Int) (σ : ST) (Q : Option AV → ST → Prop) (h :
  ((0 : Int) ≤ 0 ∧ (0 : Int) < 4) ∧
  ((((σ 43 0 0 0) ≤ x2 : Prop) →
    Q (some (.inl x1)) σ) ∧
  (¬ ((σ 43 0 0 0) ≤ x2) →
    wpM m_Z_ofPage [.inr (.inr (40, k0, i0)), .inl x2, .inl 0] σ (asI fun r101 s101 =>
    (((r101 ≠ 4 : Prop) →
      wp m_Z_emptyOfAll (4, [some (.inr (.inr (40, k0, i0))), some (.inl (wr (x1 + 0))), some (.inl (wr (x2 + 1)))], [], s101) Q) ∧
    (¬ (r101 ≠ 4) →
      wpM m_Z_emptySlots [.inr (.inr (40, k0, i0)), .inl x2] s101 (asI fun r102 s102 =>
      wp m_Z_emptyOfAll (4, [some (.inr (.inr (40, k0, i0))), some (.inl (wr (x1 + r102))), some (.inl (wr (x2 + 1)))], [], s102) Q))))))) :
  wp m_Z_emptyOfAll (4, [some (.inr (.inr (40, k0, i0))), some (.inl x1), some (.inl x2)], [], σ) Q :=
 w_iload_n (p' := 5) f_326_4 rfl rfl
 (w_aload_n (p' := 6) f_326_5 rfl rfl
 (w_getfield (p' := 9) f_326_6 rfl (x := .inr (.inr (43, 0, 0))) rfl rfl
 (w_iconst (p' := 10) f_326_9 rfl
 (w_iaload (p' := 11) f_326_10 rfl (n := 4) rfl h.1 rfl
 (w_icmp (p' := 42) (q' := 14) f_326_11 rfl rfl
 (fun c104 => w_iload_n (p' := 43) f_326_42 rfl rfl
 (w_iret f_326_43 rk_326 (h.2.1 c104)))
 (fun c104 => w_iload_n (p' := 15) f_326_14 rfl rfl
 (w_aload_n (p' := 16) f_326_15 rfl rfl
 (w_iload_n (p' := 17) f_326_16 rfl rfl
 (w_iconst (p' := 18) f_326_17 rfl
 (w_callV (p' := 21) f_326_18 rfl rfl rfl rfl rfl (r := [.inl x1]) rfl rfl (kI (.inl rk_196) fun r101 s101 h101 =>
 w_iconst (p' := 22) f_326_21 rfl
 (w_icmp (p' := 33) (q' := 25) f_326_22 rfl rfl
 (fun c103 => w_iconst (p' := 34) f_326_33 rfl
 (w_iadd (p' := 35) f_326_34 rfl
 (w_istore_n (p' := 36) f_326_35 (L' := [some (.inr (.inr (40, k0, i0))), some (.inl (wr (x1 + 0))), some (.inl x2)]) rfl rfl
 (w_iinc (p' := 39) f_326_36 rfl (L' := [some (.inr (.inr (40, k0, i0))), some (.inl (wr (x1 + 0))), some (.inl (wr (x2 + 1)))]) rfl rfl
 (w_goto (p' := 4) f_326_39 rfl
 ((h101.1 c103)))))))
 (fun c103 => w_aload_n (p' := 26) f_326_25 rfl rfl
 (w_iload_n (p' := 27) f_326_26 rfl rfl
 (w_callV (p' := 30) f_326_27 rfl rfl rfl rfl rfl (r := [.inl x1]) rfl rfl (kI (.inl rk_233) fun r102 s102 h102 =>
 w_goto (p' := 34) f_326_30 rfl
 (w_iadd (p' := 35) f_326_34 rfl
 (w_istore_n (p' := 36) f_326_35 (L' := [some (.inr (.inr (40, k0, i0))), some (.inl (wr (x1 + r102))), some (.inl x2)]) rfl rfl
 (w_iinc (p' := 39) f_326_36 rfl (L' := [some (.inr (.inr (40, k0, i0))), some (.inl (wr (x1 + r102))), some (.inl (wr (x2 + 1)))]) rfl rfl
 (w_goto (p' := 4) f_326_39 rfl
 (h102)))))) (h101.2 c103)))))) (h.2.2 c104)))))))))))
/-! ClosedRoomsModel.blockedSet()I -/
theorem f_327_0 : fnd 327 0 = some (0, .iconst 0, 1, 0, 0, 0, 0) := ceB_eq (by decide +kernel)
theorem f_327_1 : fnd 327 1 = some (1, .istore_n 1, 1, 0, 0, 0, 0) := ceB_eq (by decide +kernel)
theorem f_327_2 : fnd 327 2 = some (2, .iconst 0, 1, 0, 0, 0, 0) := ceB_eq (by decide +kernel)
theorem f_327_3 : fnd 327 3 = some (3, .istore_n 2, 1, 0, 0, 0, 0) := ceB_eq (by decide +kernel)
theorem f_327_4 : fnd 327 4 = some (4, .iload_n 2, 1, 0, 0, 0, 0) := ceB_eq (by decide +kernel)
theorem f_327_5 : fnd 327 5 = some (5, .aload_n 0, 1, 0, 0, 0, 0) := ceB_eq (by decide +kernel)
theorem f_327_6 : fnd 327 6 = some (6, .getfield 16, 3, 10, 10, 10, 0) := ceB_eq (by decide +kernel)
theorem f_327_9 : fnd 327 9 = some (9, .iconst 0, 1, 0, 0, 0, 0) := ceB_eq (by decide +kernel)
theorem f_327_10 : fnd 327 10 = some (10, .iaload, 1, 0, 0, 0, 0) := ceB_eq (by decide +kernel)
theorem f_327_11 : fnd 327 11 = some (11, .if_icmp .ge 29, 3, 0, 0, 0, 0) := ceB_eq (by decide +kernel)
theorem f_327_14 : fnd 327 14 = some (14, .iload_n 1, 1, 0, 0, 0, 0) := ceB_eq (by decide +kernel)
theorem f_327_15 : fnd 327 15 = some (15, .aload_n 0, 1, 0, 0, 0, 0) := ceB_eq (by decide +kernel)
theorem f_327_16 : fnd 327 16 = some (16, .iload_n 2, 1, 0, 0, 0, 0) := ceB_eq (by decide +kernel)
theorem f_327_17 : fnd 327 17 = some (17, .iconst 5, 1, 0, 0, 0, 0) := ceB_eq (by decide +kernel)
theorem f_327_18 : fnd 327 18 = some (18, .invokevirtual 206, 3, 196, 3, 10, 0) := ceB_eq (by decide +kernel)
theorem f_327_21 : fnd 327 21 = some (21, .iconst (-1), 1, 0, 0, 0, 0) := ceB_eq (by decide +kernel)
theorem f_327_22 : fnd 327 22 = some (22, .if_icmp .eq 9, 3, 0, 0, 0, 0) := ceB_eq (by decide +kernel)
theorem f_327_25 : fnd 327 25 = some (25, .iconst 1, 1, 0, 0, 0, 0) := ceB_eq (by decide +kernel)
theorem f_327_26 : fnd 327 26 = some (26, .iload_n 2, 1, 0, 0, 0, 0) := ceB_eq (by decide +kernel)
theorem f_327_27 : fnd 327 27 = some (27, .ishl, 1, 0, 0, 0, 0) := ceB_eq (by decide +kernel)
theorem f_327_28 : fnd 327 28 = some (28, .goto 4, 3, 0, 0, 0, 0) := ceB_eq (by decide +kernel)
theorem f_327_31 : fnd 327 31 = some (31, .iconst 0, 1, 0, 0, 0, 0) := ceB_eq (by decide +kernel)
theorem f_327_32 : fnd 327 32 = some (32, .ior, 1, 0, 0, 0, 0) := ceB_eq (by decide +kernel)
theorem f_327_33 : fnd 327 33 = some (33, .istore_n 1, 1, 0, 0, 0, 0) := ceB_eq (by decide +kernel)
theorem f_327_34 : fnd 327 34 = some (34, .iinc 2 1, 3, 0, 0, 0, 0) := ceB_eq (by decide +kernel)
theorem f_327_37 : fnd 327 37 = some (37, .goto (-33), 3, 0, 0, 0, 0) := ceB_eq (by decide +kernel)
theorem f_327_40 : fnd 327 40 = some (40, .iload_n 1, 1, 0, 0, 0, 0) := ceB_eq (by decide +kernel)
theorem f_327_41 : fnd 327 41 = some (41, .ireturn, 1, 0, 0, 0, 0) := ceB_eq (by decide +kernel)
theorem rk_327 : rkm 327 = 0 := by decide +kernel
theorem ml_327 : (mth 327).2.1 = 3 := by decide +kernel
set_option maxRecDepth 100000 in
theorem T_Z_blockedSet (k0 i0 : Int) (σ : ST) (Q : Option AV → ST → Prop) (h :
  wp m_Z_blockedSet (4, [some (.inr (.inr (40, k0, i0))), some (.inl 0), some (.inl 0)], [], σ) Q) :
  wpM m_Z_blockedSet [.inr (.inr (40, k0, i0))] σ Q :=
 wpM_of ml_327 (L := [some (.inr (.inr (40, k0, i0))), none, none]) rfl
 (w_iconst (p' := 1) f_327_0 rfl
 (w_istore_n (p' := 2) f_327_1 (L' := [some (.inr (.inr (40, k0, i0))), some (.inl 0), none]) rfl rfl
 (w_iconst (p' := 3) f_327_2 rfl
 (w_istore_n (p' := 4) f_327_3 (L' := [some (.inr (.inr (40, k0, i0))), some (.inl 0), some (.inl 0)]) rfl rfl
 (h)))))
set_option maxRecDepth 100000 in
theorem T_Z_blockedSet_4 (k0 i0 x1 x2 : Int) (σ : ST) (Q : Option AV → ST → Prop) (h :
  ((0 : Int) ≤ 0 ∧ (0 : Int) < 4) ∧
  ((((σ 43 0 0 0) ≤ x2 : Prop) →
    Q (some (.inl x1)) σ) ∧
  (¬ ((σ 43 0 0 0) ≤ x2) →
    wpM m_Z_ofPage [.inr (.inr (40, k0, i0)), .inl x2, .inl 5] σ (asI fun r101 s101 =>
    (((r101 = (-1) : Prop) →
      wp m_Z_blockedSet (4, [some (.inr (.inr (40, k0, i0))), some (.inl (i_or x1 0)), some (.inl (wr (x2 + 1)))], [], s101) Q) ∧
    (¬ (r101 = (-1)) →
      wp m_Z_blockedSet (4, [some (.inr (.inr (40, k0, i0))), some (.inl (i_or x1 (i_shl 1 x2))), some (.inl (wr (x2 + 1)))], [], s101) Q)))))) :
  wp m_Z_blockedSet (4, [some (.inr (.inr (40, k0, i0))), some (.inl x1), some (.inl x2)], [], σ) Q :=
 w_iload_n (p' := 5) f_327_4 rfl rfl
 (w_aload_n (p' := 6) f_327_5 rfl rfl
 (w_getfield (p' := 9) f_327_6 rfl (x := .inr (.inr (43, 0, 0))) rfl rfl
 (w_iconst (p' := 10) f_327_9 rfl
 (w_iaload (p' := 11) f_327_10 rfl (n := 4) rfl h.1 rfl
 (w_icmp (p' := 40) (q' := 14) f_327_11 rfl rfl
 (fun c103 => w_iload_n (p' := 41) f_327_40 rfl rfl
 (w_iret f_327_41 rk_327 (h.2.1 c103)))
 (fun c103 => w_iload_n (p' := 15) f_327_14 rfl rfl
 (w_aload_n (p' := 16) f_327_15 rfl rfl
 (w_iload_n (p' := 17) f_327_16 rfl rfl
 (w_iconst (p' := 18) f_327_17 rfl
 (w_callV (p' := 21) f_327_18 rfl rfl rfl rfl rfl (r := [.inl x1]) rfl rfl (kI (.inl rk_196) fun r101 s101 h101 =>
 w_iconst (p' := 22) f_327_21 rfl
 (w_icmp (p' := 31) (q' := 25) f_327_22 rfl rfl
 (fun c102 => w_iconst (p' := 32) f_327_31 rfl
 (w_ior (p' := 33) f_327_32 rfl
 (w_istore_n (p' := 34) f_327_33 (L' := [some (.inr (.inr (40, k0, i0))), some (.inl (i_or x1 0)), some (.inl x2)]) rfl rfl
 (w_iinc (p' := 37) f_327_34 rfl (L' := [some (.inr (.inr (40, k0, i0))), some (.inl (i_or x1 0)), some (.inl (wr (x2 + 1)))]) rfl rfl
 (w_goto (p' := 4) f_327_37 rfl
 ((h101.1 c102)))))))
 (fun c102 => w_iconst (p' := 26) f_327_25 rfl
 (w_iload_n (p' := 27) f_327_26 rfl rfl
 (w_ishl (p' := 28) f_327_27 rfl
 (w_goto (p' := 32) f_327_28 rfl
 (w_ior (p' := 33) f_327_32 rfl
 (w_istore_n (p' := 34) f_327_33 (L' := [some (.inr (.inr (40, k0, i0))), some (.inl (i_or x1 (i_shl 1 x2))), some (.inl x2)]) rfl rfl
 (w_iinc (p' := 37) f_327_34 rfl (L' := [some (.inr (.inr (40, k0, i0))), some (.inl (i_or x1 (i_shl 1 x2))), some (.inl (wr (x2 + 1)))]) rfl rfl
 (w_goto (p' := 4) f_327_37 rfl
 ((h101.2 c102)))))))))))) (h.2.2 c103)))))))))))
/-! ClosedRoomsModel.fullest()I -/
theorem f_328_0 : fnd 328 0 = some (0, .iconst (-1), 1, 0, 0, 0, 0) := ceB_eq (by decide +kernel)
theorem f_328_1 : fnd 328 1 = some (1, .istore_n 1, 1, 0, 0, 0, 0) := ceB_eq (by decide +kernel)
theorem f_328_2 : fnd 328 2 = some (2, .iconst 0, 1, 0, 0, 0, 0) := ceB_eq (by decide +kernel)
theorem f_328_3 : fnd 328 3 = some (3, .istore_n 2, 1, 0, 0, 0, 0) := ceB_eq (by decide +kernel)
theorem f_328_4 : fnd 328 4 = some (4, .iload_n 2, 1, 0, 0, 0, 0) := ceB_eq (by decide +kernel)
theorem f_328_5 : fnd 328 5 = some (5, .iconst 4, 1, 0, 0, 0, 0) := ceB_eq (by decide +kernel)
theorem f_328_6 : fnd 328 6 = some (6, .if_icmp .ge 43, 3, 0, 0, 0, 0) := ceB_eq (by decide +kernel)
theorem f_328_9 : fnd 328 9 = some (9, .aload_n 0, 1, 0, 0, 0, 0) := ceB_eq (by decide +kernel)
theorem f_328_10 : fnd 328 10 = some (10, .iload_n 2, 1, 0, 0, 0, 0) := ceB_eq (by decide +kernel)
theorem f_328_11 : fnd 328 11 = some (11, .invokevirtual 252, 3, 201, 2, 10, 0) := ceB_eq (by decide +kernel)
theorem f_328_14 : fnd 328 14 = some (14, .ifCond .eq 29, 3, 0, 0, 0, 0) := ceB_eq (by decide +kernel)
theorem f_328_17 : fnd 328 17 = some (17, .iload_n 1, 1, 0, 0, 0, 0) := ceB_eq (by decide +kernel)
theorem f_328_18 : fnd 328 18 = some (18, .iconst (-1), 1, 0, 0, 0, 0) := ceB_eq (by decide +kernel)
theorem f_328_19 : fnd 328 19 = some (19, .if_icmp .eq 18, 3, 0, 0, 0, 0) := ceB_eq (by decide +kernel)
theorem f_328_22 : fnd 328 22 = some (22, .aload_n 0, 1, 0, 0, 0, 0) := ceB_eq (by decide +kernel)
theorem f_328_23 : fnd 328 23 = some (23, .iload_n 2, 1, 0, 0, 0, 0) := ceB_eq (by decide +kernel)
theorem f_328_24 : fnd 328 24 = some (24, .iconst 1, 1, 0, 0, 0, 0) := ceB_eq (by decide +kernel)
theorem f_328_25 : fnd 328 25 = some (25, .invokevirtual 285, 3, 224, 3, 10, 0) := ceB_eq (by decide +kernel)
theorem f_328_28 : fnd 328 28 = some (28, .aload_n 0, 1, 0, 0, 0, 0) := ceB_eq (by decide +kernel)
theorem f_328_29 : fnd 328 29 = some (29, .iload_n 1, 1, 0, 0, 0, 0) := ceB_eq (by decide +kernel)
theorem f_328_30 : fnd 328 30 = some (30, .iconst 1, 1, 0, 0, 0, 0) := ceB_eq (by decide +kernel)
theorem f_328_31 : fnd 328 31 = some (31, .invokevirtual 285, 3, 224, 3, 10, 0) := ceB_eq (by decide +kernel)
theorem f_328_34 : fnd 328 34 = some (34, .if_icmp .le 7, 3, 0, 0, 0, 0) := ceB_eq (by decide +kernel)
theorem f_328_37 : fnd 328 37 = some (37, .iload_n 2, 1, 0, 0, 0, 0) := ceB_eq (by decide +kernel)
theorem f_328_38 : fnd 328 38 = some (38, .goto 4, 3, 0, 0, 0, 0) := ceB_eq (by decide +kernel)
theorem f_328_41 : fnd 328 41 = some (41, .iload_n 1, 1, 0, 0, 0, 0) := ceB_eq (by decide +kernel)
theorem f_328_42 : fnd 328 42 = some (42, .istore_n 1, 1, 0, 0, 0, 0) := ceB_eq (by decide +kernel)
theorem f_328_43 : fnd 328 43 = some (43, .iinc 2 1, 3, 0, 0, 0, 0) := ceB_eq (by decide +kernel)
theorem f_328_46 : fnd 328 46 = some (46, .goto (-42), 3, 0, 0, 0, 0) := ceB_eq (by decide +kernel)
theorem f_328_49 : fnd 328 49 = some (49, .iload_n 1, 1, 0, 0, 0, 0) := ceB_eq (by decide +kernel)
theorem f_328_50 : fnd 328 50 = some (50, .ireturn, 1, 0, 0, 0, 0) := ceB_eq (by decide +kernel)
theorem rk_328 : rkm 328 = 0 := by decide +kernel
theorem ml_328 : (mth 328).2.1 = 3 := by decide +kernel
set_option maxRecDepth 100000 in
theorem T_Z_fullest (k0 i0 : Int) (σ : ST) (Q : Option AV → ST → Prop) (h :
  wp m_Z_fullest (4, [some (.inr (.inr (40, k0, i0))), some (.inl (-1)), some (.inl 0)], [], σ) Q) :
  wpM m_Z_fullest [.inr (.inr (40, k0, i0))] σ Q :=
 wpM_of ml_328 (L := [some (.inr (.inr (40, k0, i0))), none, none]) rfl
 (w_iconst (p' := 1) f_328_0 rfl
 (w_istore_n (p' := 2) f_328_1 (L' := [some (.inr (.inr (40, k0, i0))), some (.inl (-1)), none]) rfl rfl
 (w_iconst (p' := 3) f_328_2 rfl
 (w_istore_n (p' := 4) f_328_3 (L' := [some (.inr (.inr (40, k0, i0))), some (.inl (-1)), some (.inl 0)]) rfl rfl
 (h)))))
set_option maxRecDepth 100000 in
theorem T_Z_fullest_4 (k0 i0 x1 x2 : Int) (σ : ST) (Q : Option AV → ST → Prop) (h :
  (((4 ≤ x2 : Prop) →
    Q (some (.inl x1)) σ) ∧
  (¬ (4 ≤ x2) →
    wpM m_Z_isRoom [.inr (.inr (40, k0, i0)), .inl x2] σ (asI fun r101 s101 =>
    (((r101 = 0 : Prop) →
      wp m_Z_fullest (4, [some (.inr (.inr (40, k0, i0))), some (.inl x1), some (.inl (wr (x2 + 1)))], [], s101) Q) ∧
    (¬ (r101 = 0) →
      (((x1 = (-1) : Prop) →
        wp m_Z_fullest (4, [some (.inr (.inr (40, k0, i0))), some (.inl x2), some (.inl (wr (x2 + 1)))], [], s101) Q) ∧
      (¬ (x1 = (-1)) →
        wpM m_Z_pagesOf [.inr (.inr (40, k0, i0)), .inl x2, .inl 1] s101 (asI fun r102 s102 =>
        wpM m_Z_pagesOf [.inr (.inr (40, k0, i0)), .inl x1, .inl 1] s102 (asI fun r103 s103 =>
        (((r102 ≤ r103 : Prop) →
          wp m_Z_fullest (4, [some (.inr (.inr (40, k0, i0))), some (.inl x1), some (.inl (wr (x2 + 1)))], [], s103) Q) ∧
        (¬ (r102 ≤ r103) →
          wp m_Z_fullest (4, [some (.inr (.inr (40, k0, i0))), some (.inl x2), some (.inl (wr (x2 + 1)))], [], s103) Q)))))))))))) :
  wp m_Z_fullest (4, [some (.inr (.inr (40, k0, i0))), some (.inl x1), some (.inl x2)], [], σ) Q :=
 w_iload_n (p' := 5) f_328_4 rfl rfl
 (w_iconst (p' := 6) f_328_5 rfl
 (w_icmp (p' := 49) (q' := 9) f_328_6 rfl rfl
 (fun c107 => w_iload_n (p' := 50) f_328_49 rfl rfl
 (w_iret f_328_50 rk_328 (h.1 c107)))
 (fun c107 => w_aload_n (p' := 10) f_328_9 rfl rfl
 (w_iload_n (p' := 11) f_328_10 rfl rfl
 (w_callV (p' := 14) f_328_11 rfl rfl rfl rfl rfl (r := []) rfl rfl (kI (.inr rk_201) fun r101 s101 h101 =>
 w_if (p' := 43) (q' := 17) f_328_14 rfl rfl
 (fun c106 => w_iinc (p' := 46) f_328_43 rfl (L' := [some (.inr (.inr (40, k0, i0))), some (.inl x1), some (.inl (wr (x2 + 1)))]) rfl rfl
 (w_goto (p' := 4) f_328_46 rfl
 ((h101.1 c106))))
 (fun c106 => w_iload_n (p' := 18) f_328_17 rfl rfl
 (w_iconst (p' := 19) f_328_18 rfl
 (w_icmp (p' := 37) (q' := 22) f_328_19 rfl rfl
 (fun c105 => w_iload_n (p' := 38) f_328_37 rfl rfl
 (w_goto (p' := 42) f_328_38 rfl
 (w_istore_n (p' := 43) f_328_42 (L' := [some (.inr (.inr (40, k0, i0))), some (.inl x2), some (.inl x2)]) rfl rfl
 (w_iinc (p' := 46) f_328_43 rfl (L' := [some (.inr (.inr (40, k0, i0))), some (.inl x2), some (.inl (wr (x2 + 1)))]) rfl rfl
 (w_goto (p' := 4) f_328_46 rfl
 (((h101.2 c106).1 c105)))))))
 (fun c105 => w_aload_n (p' := 23) f_328_22 rfl rfl
 (w_iload_n (p' := 24) f_328_23 rfl rfl
 (w_iconst (p' := 25) f_328_24 rfl
 (w_callV (p' := 28) f_328_25 rfl rfl rfl rfl rfl (r := []) rfl rfl (kI (.inl rk_224) fun r102 s102 h102 =>
 w_aload_n (p' := 29) f_328_28 rfl rfl
 (w_iload_n (p' := 30) f_328_29 rfl rfl
 (w_iconst (p' := 31) f_328_30 rfl
 (w_callV (p' := 34) f_328_31 rfl rfl rfl rfl rfl (r := [.inl r102]) rfl rfl (kI (.inl rk_224) fun r103 s103 h103 =>
 w_icmp (p' := 41) (q' := 37) f_328_34 rfl rfl
 (fun c104 => w_iload_n (p' := 42) f_328_41 rfl rfl
 (w_istore_n (p' := 43) f_328_42 (L' := [some (.inr (.inr (40, k0, i0))), some (.inl x1), some (.inl x2)]) rfl rfl
 (w_iinc (p' := 46) f_328_43 rfl (L' := [some (.inr (.inr (40, k0, i0))), some (.inl x1), some (.inl (wr (x2 + 1)))]) rfl rfl
 (w_goto (p' := 4) f_328_46 rfl
 ((h103.1 c104))))))
 (fun c104 => w_iload_n (p' := 38) f_328_37 rfl rfl
 (w_goto (p' := 42) f_328_38 rfl
 (w_istore_n (p' := 43) f_328_42 (L' := [some (.inr (.inr (40, k0, i0))), some (.inl x2), some (.inl x2)]) rfl rfl
 (w_iinc (p' := 46) f_328_43 rfl (L' := [some (.inr (.inr (40, k0, i0))), some (.inl x2), some (.inl (wr (x2 + 1)))]) rfl rfl
 (w_goto (p' := 4) f_328_46 rfl
 ((h103.2 c104)))))))) h102)))) ((h101.2 c106).2 c105))))))))) (h.2 c107))))))
/-! ClosedRoomsModel.all(I)I -/
theorem f_329_0 : fnd 329 0 = some (0, .aload_n 0, 1, 0, 0, 0, 0) := ceB_eq (by decide +kernel)
theorem f_329_1 : fnd 329 1 = some (1, .getfield 199, 3, 10, 11, 11, 0) := ceB_eq (by decide +kernel)
theorem f_329_4 : fnd 329 4 = some (4, .ifCond .eq 13, 3, 0, 0, 0, 0) := ceB_eq (by decide +kernel)
theorem f_329_7 : fnd 329 7 = some (7, .iload_n 1, 1, 0, 0, 0, 0) := ceB_eq (by decide +kernel)
theorem f_329_8 : fnd 329 8 = some (8, .iconst 0, 1, 0, 0, 0, 0) := ceB_eq (by decide +kernel)
theorem f_329_9 : fnd 329 9 = some (9, .bipush 8, 2, 0, 0, 0, 0) := ceB_eq (by decide +kernel)
theorem f_329_11 : fnd 329 11 = some (11, .invokestatic 54, 3, 168, 3, 10, 0) := ceB_eq (by decide +kernel)
theorem f_329_14 : fnd 329 14 = some (14, .ifCond .ne 7, 3, 0, 0, 0, 0) := ceB_eq (by decide +kernel)
theorem f_329_17 : fnd 329 17 = some (17, .ldc_w 452, 3, 0, 0, 0, (-1000000)) := ceB_eq (by decide +kernel)
theorem f_329_20 : fnd 329 20 = some (20, .ireturn, 1, 0, 0, 0, 0) := ceB_eq (by decide +kernel)
theorem f_329_21 : fnd 329 21 = some (21, .iload_n 1, 1, 0, 0, 0, 0) := ceB_eq (by decide +kernel)
theorem f_329_22 : fnd 329 22 = some (22, .tableswitch 94 0 7 #[46, 51, 56, 61, 66, 75, 84, 89], 46, 0, 0, 0, 0) := ceB_eq (by decide +kernel)
theorem f_329_68 : fnd 329 68 = some (68, .aload_n 0, 1, 0, 0, 0, 0) := ceB_eq (by decide +kernel)
theorem f_329_69 : fnd 329 69 = some (69, .invokevirtual 487, 3, 322, 1, 10, 0) := ceB_eq (by decide +kernel)
theorem f_329_72 : fnd 329 72 = some (72, .ireturn, 1, 0, 0, 0, 0) := ceB_eq (by decide +kernel)
theorem f_329_73 : fnd 329 73 = some (73, .aload_n 0, 1, 0, 0, 0, 0) := ceB_eq (by decide +kernel)
theorem f_329_74 : fnd 329 74 = some (74, .invokevirtual 490, 3, 323, 1, 10, 0) := ceB_eq (by decide +kernel)
theorem f_329_77 : fnd 329 77 = some (77, .ireturn, 1, 0, 0, 0, 0) := ceB_eq (by decide +kernel)
theorem f_329_78 : fnd 329 78 = some (78, .aload_n 0, 1, 0, 0, 0, 0) := ceB_eq (by decide +kernel)
theorem f_329_79 : fnd 329 79 = some (79, .invokevirtual 493, 3, 324, 1, 10, 0) := ceB_eq (by decide +kernel)
theorem f_329_82 : fnd 329 82 = some (82, .ireturn, 1, 0, 0, 0, 0) := ceB_eq (by decide +kernel)
theorem f_329_83 : fnd 329 83 = some (83, .aload_n 0, 1, 0, 0, 0, 0) := ceB_eq (by decide +kernel)
theorem f_329_84 : fnd 329 84 = some (84, .invokevirtual 496, 3, 325, 1, 10, 0) := ceB_eq (by decide +kernel)
theorem f_329_87 : fnd 329 87 = some (87, .ireturn, 1, 0, 0, 0, 0) := ceB_eq (by decide +kernel)
theorem f_329_88 : fnd 329 88 = some (88, .aload_n 0, 1, 0, 0, 0, 0) := ceB_eq (by decide +kernel)
theorem f_329_89 : fnd 329 89 = some (89, .getfield 25, 3, 10, 15, 15, 0) := ceB_eq (by decide +kernel)
theorem f_329_92 : fnd 329 92 = some (92, .sipush 343, 3, 0, 0, 0, 0) := ceB_eq (by decide +kernel)
theorem f_329_95 : fnd 329 95 = some (95, .iaload, 1, 0, 0, 0, 0) := ceB_eq (by decide +kernel)
theorem f_329_96 : fnd 329 96 = some (96, .ireturn, 1, 0, 0, 0, 0) := ceB_eq (by decide +kernel)
theorem f_329_97 : fnd 329 97 = some (97, .aload_n 0, 1, 0, 0, 0, 0) := ceB_eq (by decide +kernel)
theorem f_329_98 : fnd 329 98 = some (98, .getfield 25, 3, 10, 15, 15, 0) := ceB_eq (by decide +kernel)
theorem f_329_101 : fnd 329 101 = some (101, .sipush 344, 3, 0, 0, 0, 0) := ceB_eq (by decide +kernel)
theorem f_329_104 : fnd 329 104 = some (104, .iaload, 1, 0, 0, 0, 0) := ceB_eq (by decide +kernel)
theorem f_329_105 : fnd 329 105 = some (105, .ireturn, 1, 0, 0, 0, 0) := ceB_eq (by decide +kernel)
theorem f_329_106 : fnd 329 106 = some (106, .aload_n 0, 1, 0, 0, 0, 0) := ceB_eq (by decide +kernel)
theorem f_329_107 : fnd 329 107 = some (107, .invokevirtual 499, 3, 326, 1, 10, 0) := ceB_eq (by decide +kernel)
theorem f_329_110 : fnd 329 110 = some (110, .ireturn, 1, 0, 0, 0, 0) := ceB_eq (by decide +kernel)
theorem f_329_111 : fnd 329 111 = some (111, .aload_n 0, 1, 0, 0, 0, 0) := ceB_eq (by decide +kernel)
theorem f_329_112 : fnd 329 112 = some (112, .invokevirtual 502, 3, 327, 1, 10, 0) := ceB_eq (by decide +kernel)
theorem f_329_115 : fnd 329 115 = some (115, .ireturn, 1, 0, 0, 0, 0) := ceB_eq (by decide +kernel)
theorem f_329_116 : fnd 329 116 = some (116, .aload_n 0, 1, 0, 0, 0, 0) := ceB_eq (by decide +kernel)
theorem f_329_117 : fnd 329 117 = some (117, .invokevirtual 505, 3, 328, 1, 10, 0) := ceB_eq (by decide +kernel)
theorem f_329_120 : fnd 329 120 = some (120, .ireturn, 1, 0, 0, 0, 0) := ceB_eq (by decide +kernel)
theorem rk_329 : rkm 329 = 0 := by decide +kernel
theorem ml_329 : (mth 329).2.1 = 2 := by decide +kernel
set_option maxRecDepth 100000 in
theorem T_Z_all (k0 i0 x1 : Int) (σ : ST) (Q : Option AV → ST → Prop) (h :
  ((((bz (σ 40 k0 i0 11)) = 0 : Prop) →
    Q (some (.inl (-1000000))) σ) ∧
  (¬ ((bz (σ 40 k0 i0 11)) = 0) →
    wpM m_Z_in [.inl x1, .inl 0, .inl 8] σ (asI fun r101 s101 =>
    (((r101 ≠ 0 : Prop) →
      ((x1 = 0 →
        wpM m_Z_freeSet [.inr (.inr (40, k0, i0))] s101 (asI fun r102 s102 =>
        Q (some (.inl r102)) s102)) ∧ (x1 ≠ 0 →
      ((x1 = 1 →
        wpM m_Z_roomSet [.inr (.inr (40, k0, i0))] s101 (asI fun r103 s103 =>
        Q (some (.inl r103)) s103)) ∧ (x1 ≠ 1 →
      ((x1 = 2 →
        wpM m_Z_insideSet [.inr (.inr (40, k0, i0))] s101 (asI fun r104 s104 =>
        Q (some (.inl r104)) s104)) ∧ (x1 ≠ 2 →
      ((x1 = 3 →
        wpM m_Z_copySet [.inr (.inr (40, k0, i0))] s101 (asI fun r105 s105 =>
        Q (some (.inl r105)) s105)) ∧ (x1 ≠ 3 →
      ((x1 = 4 →
        ((0 : Int) ≤ 343 ∧ (343 : Int) < 526) ∧
        Q (some (.inl (s101 46 0 0 343))) s101) ∧ (x1 ≠ 4 →
      ((x1 = 5 →
        ((0 : Int) ≤ 344 ∧ (344 : Int) < 526) ∧
        Q (some (.inl (s101 46 0 0 344))) s101) ∧ (x1 ≠ 5 →
      ((x1 = 6 →
        wpM m_Z_emptyOfAll [.inr (.inr (40, k0, i0))] s101 (asI fun r106 s106 =>
        Q (some (.inl r106)) s106)) ∧ (x1 ≠ 6 →
      ((x1 = 7 →
        wpM m_Z_blockedSet [.inr (.inr (40, k0, i0))] s101 (asI fun r107 s107 =>
        Q (some (.inl r107)) s107)) ∧ (x1 ≠ 7 →
        wpM m_Z_fullest [.inr (.inr (40, k0, i0))] s101 (asI fun r108 s108 =>
        Q (some (.inl r108)) s108)))))))))))))))))) ∧
    (¬ (r101 ≠ 0) →
      Q (some (.inl (-1000000))) s101)))))) :
  wpM m_Z_all [.inr (.inr (40, k0, i0)), .inl x1] σ Q :=
 wpM_of ml_329 (L := [some (.inr (.inr (40, k0, i0))), some (.inl x1)]) rfl
 (w_aload_n (p' := 1) f_329_0 rfl rfl
 (w_getfield (p' := 4) f_329_1 rfl (x := .inl (bz (σ 40 k0 i0 11))) rfl rfl
 (w_if (p' := 17) (q' := 7) f_329_4 rfl rfl
 (fun c111 => w_ldc_w (p' := 20) f_329_17 rfl
 (w_iret f_329_20 rk_329 (h.1 c111)))
 (fun c111 => w_iload_n (p' := 8) f_329_7 rfl rfl
 (w_iconst (p' := 9) f_329_8 rfl
 (w_bipush (p' := 11) f_329_9 rfl
 (w_callS (p' := 14) f_329_11 rfl rfl rfl (r := []) rfl rfl (kI (.inr rk_168) fun r101 s101 h101 =>
 w_if (p' := 21) (q' := 17) f_329_14 rfl rfl
 (fun c110 => w_iload_n (p' := 22) f_329_21 rfl rfl
 (w_switch f_329_22 (cs := [(0, 68), (1, 73), (2, 78), (3, 83), (4, 88), (5, 97), (6, 106), (7, 111)]) rfl (d' := 116) rfl
 (⟨fun c109 => w_aload_n (p' := 69) f_329_68 rfl rfl
 (w_callV (p' := 72) f_329_69 rfl rfl rfl rfl rfl (r := []) rfl rfl (kI (.inl rk_322) fun r102 s102 h102 =>
 w_iret f_329_72 rk_329 h102) ((h101.1 c110).1 c109)), fun c109_0 =>
 ⟨fun c109 => w_aload_n (p' := 74) f_329_73 rfl rfl
 (w_callV (p' := 77) f_329_74 rfl rfl rfl rfl rfl (r := []) rfl rfl (kI (.inl rk_323) fun r103 s103 h103 =>
 w_iret f_329_77 rk_329 h103) (((h101.1 c110).2 c109_0).1 c109)), fun c109_1 =>
 ⟨fun c109 => w_aload_n (p' := 79) f_329_78 rfl rfl
 (w_callV (p' := 82) f_329_79 rfl rfl rfl rfl rfl (r := []) rfl rfl (kI (.inl rk_324) fun r104 s104 h104 =>
 w_iret f_329_82 rk_329 h104) ((((h101.1 c110).2 c109_0).2 c109_1).1 c109)), fun c109_2 =>
 ⟨fun c109 => w_aload_n (p' := 84) f_329_83 rfl rfl
 (w_callV (p' := 87) f_329_84 rfl rfl rfl rfl rfl (r := []) rfl rfl (kI (.inl rk_325) fun r105 s105 h105 =>
 w_iret f_329_87 rk_329 h105) (((((h101.1 c110).2 c109_0).2 c109_1).2 c109_2).1 c109)), fun c109_3 =>
 ⟨fun c109 => w_aload_n (p' := 89) f_329_88 rfl rfl
 (w_getfield (p' := 92) f_329_89 rfl (x := .inr (.inr (46, 0, 0))) rfl rfl
 (w_sipush (p' := 95) f_329_92 rfl
 (w_iaload (p' := 96) f_329_95 rfl (n := 526) rfl ((((((h101.1 c110).2 c109_0).2 c109_1).2 c109_2).2 c109_3).1 c109).1 rfl
 (w_iret f_329_96 rk_329 ((((((h101.1 c110).2 c109_0).2 c109_1).2 c109_2).2 c109_3).1 c109).2)))), fun c109_4 =>
 ⟨fun c109 => w_aload_n (p' := 98) f_329_97 rfl rfl
 (w_getfield (p' := 101) f_329_98 rfl (x := .inr (.inr (46, 0, 0))) rfl rfl
 (w_sipush (p' := 104) f_329_101 rfl
 (w_iaload (p' := 105) f_329_104 rfl (n := 526) rfl (((((((h101.1 c110).2 c109_0).2 c109_1).2 c109_2).2 c109_3).2 c109_4).1 c109).1 rfl
 (w_iret f_329_105 rk_329 (((((((h101.1 c110).2 c109_0).2 c109_1).2 c109_2).2 c109_3).2 c109_4).1 c109).2)))), fun c109_5 =>
 ⟨fun c109 => w_aload_n (p' := 107) f_329_106 rfl rfl
 (w_callV (p' := 110) f_329_107 rfl rfl rfl rfl rfl (r := []) rfl rfl (kI (.inl rk_326) fun r106 s106 h106 =>
 w_iret f_329_110 rk_329 h106) ((((((((h101.1 c110).2 c109_0).2 c109_1).2 c109_2).2 c109_3).2 c109_4).2 c109_5).1 c109)), fun c109_6 =>
 ⟨fun c109 => w_aload_n (p' := 112) f_329_111 rfl rfl
 (w_callV (p' := 115) f_329_112 rfl rfl rfl rfl rfl (r := []) rfl rfl (kI (.inl rk_327) fun r107 s107 h107 =>
 w_iret f_329_115 rk_329 h107) (((((((((h101.1 c110).2 c109_0).2 c109_1).2 c109_2).2 c109_3).2 c109_4).2 c109_5).2 c109_6).1 c109)), fun c109_7 =>
 w_aload_n (p' := 117) f_329_116 rfl rfl
 (w_callV (p' := 120) f_329_117 rfl rfl rfl rfl rfl (r := []) rfl rfl (kI (.inl rk_328) fun r108 s108 h108 =>
 w_iret f_329_120 rk_329 h108) (((((((((h101.1 c110).2 c109_0).2 c109_1).2 c109_2).2 c109_3).2 c109_4).2 c109_5).2 c109_6).2 c109_7))⟩⟩⟩⟩⟩⟩⟩⟩)))
 (fun c110 => w_ldc_w (p' := 20) f_329_17 rfl
 (w_iret f_329_20 rk_329 (h101.2 c110)))) (h.2 c111))))))))
/-! ClosedRoomsModel.bits(I)I -/
theorem f_330_0 : fnd 330 0 = some (0, .iconst 0, 1, 0, 0, 0, 0) := ceB_eq (by decide +kernel)
theorem f_330_1 : fnd 330 1 = some (1, .istore_n 1, 1, 0, 0, 0, 0) := ceB_eq (by decide +kernel)
theorem f_330_2 : fnd 330 2 = some (2, .iconst 0, 1, 0, 0, 0, 0) := ceB_eq (by decide +kernel)
theorem f_330_3 : fnd 330 3 = some (3, .istore_n 2, 1, 0, 0, 0, 0) := ceB_eq (by decide +kernel)
theorem f_330_4 : fnd 330 4 = some (4, .iload_n 2, 1, 0, 0, 0, 0) := ceB_eq (by decide +kernel)
theorem f_330_5 : fnd 330 5 = some (5, .bipush 12, 2, 0, 0, 0, 0) := ceB_eq (by decide +kernel)
theorem f_330_7 : fnd 330 7 = some (7, .if_icmp .ge 17, 3, 0, 0, 0, 0) := ceB_eq (by decide +kernel)
theorem f_330_10 : fnd 330 10 = some (10, .iload_n 1, 1, 0, 0, 0, 0) := ceB_eq (by decide +kernel)
theorem f_330_11 : fnd 330 11 = some (11, .iload_n 0, 1, 0, 0, 0, 0) := ceB_eq (by decide +kernel)
theorem f_330_12 : fnd 330 12 = some (12, .iload_n 2, 1, 0, 0, 0, 0) := ceB_eq (by decide +kernel)
theorem f_330_13 : fnd 330 13 = some (13, .ishr, 1, 0, 0, 0, 0) := ceB_eq (by decide +kernel)
theorem f_330_14 : fnd 330 14 = some (14, .iconst 1, 1, 0, 0, 0, 0) := ceB_eq (by decide +kernel)
theorem f_330_15 : fnd 330 15 = some (15, .iand, 1, 0, 0, 0, 0) := ceB_eq (by decide +kernel)
theorem f_330_16 : fnd 330 16 = some (16, .iadd, 1, 0, 0, 0, 0) := ceB_eq (by decide +kernel)
theorem f_330_17 : fnd 330 17 = some (17, .istore_n 1, 1, 0, 0, 0, 0) := ceB_eq (by decide +kernel)
theorem f_330_18 : fnd 330 18 = some (18, .iinc 2 1, 3, 0, 0, 0, 0) := ceB_eq (by decide +kernel)
theorem f_330_21 : fnd 330 21 = some (21, .goto (-17), 3, 0, 0, 0, 0) := ceB_eq (by decide +kernel)
theorem f_330_24 : fnd 330 24 = some (24, .iload_n 1, 1, 0, 0, 0, 0) := ceB_eq (by decide +kernel)
theorem f_330_25 : fnd 330 25 = some (25, .ireturn, 1, 0, 0, 0, 0) := ceB_eq (by decide +kernel)
theorem rk_330 : rkm 330 = 0 := by decide +kernel
theorem ml_330 : (mth 330).2.1 = 3 := by decide +kernel
set_option maxRecDepth 100000 in
theorem T_Z_bits (x1 : Int) (σ : ST) (Q : Option AV → ST → Prop) (h :
  wp m_Z_bits (4, [some (.inl x1), some (.inl 0), some (.inl 0)], [], σ) Q) :
  wpM m_Z_bits [.inl x1] σ Q :=
 wpM_of ml_330 (L := [some (.inl x1), none, none]) rfl
 (w_iconst (p' := 1) f_330_0 rfl
 (w_istore_n (p' := 2) f_330_1 (L' := [some (.inl x1), some (.inl 0), none]) rfl rfl
 (w_iconst (p' := 3) f_330_2 rfl
 (w_istore_n (p' := 4) f_330_3 (L' := [some (.inl x1), some (.inl 0), some (.inl 0)]) rfl rfl
 (h)))))
set_option maxRecDepth 100000 in
theorem T_Z_bits_4 (x0 x1 x2 : Int) (σ : ST) (Q : Option AV → ST → Prop) (h :
  (((12 ≤ x2 : Prop) →
    Q (some (.inl x1)) σ) ∧
  (¬ (12 ≤ x2) →
    wp m_Z_bits (4, [some (.inl x0), some (.inl (wr (x1 + (i_and (i_shr x0 x2) 1)))), some (.inl (wr (x2 + 1)))], [], σ) Q))) :
  wp m_Z_bits (4, [some (.inl x0), some (.inl x1), some (.inl x2)], [], σ) Q :=
 w_iload_n (p' := 5) f_330_4 rfl rfl
 (w_bipush (p' := 7) f_330_5 rfl
 (w_icmp (p' := 24) (q' := 10) f_330_7 rfl rfl
 (fun c101 => w_iload_n (p' := 25) f_330_24 rfl rfl
 (w_iret f_330_25 rk_330 (h.1 c101)))
 (fun c101 => w_iload_n (p' := 11) f_330_10 rfl rfl
 (w_iload_n (p' := 12) f_330_11 rfl rfl
 (w_iload_n (p' := 13) f_330_12 rfl rfl
 (w_ishr (p' := 14) f_330_13 rfl
 (w_iconst (p' := 15) f_330_14 rfl
 (w_iand (p' := 16) f_330_15 rfl
 (w_iadd (p' := 17) f_330_16 rfl
 (w_istore_n (p' := 18) f_330_17 (L' := [some (.inl x0), some (.inl (wr (x1 + (i_and (i_shr x0 x2) 1)))), some (.inl x2)]) rfl rfl
 (w_iinc (p' := 21) f_330_18 rfl (L' := [some (.inl x0), some (.inl (wr (x1 + (i_and (i_shr x0 x2) 1)))), some (.inl (wr (x2 + 1)))]) rfl rfl
 (w_goto (p' := 4) f_330_21 rfl
 ((h.2 c101))))))))))))))
/-! ClosedRoomsModel.image()I -/
theorem f_331_0 : fnd 331 0 = some (0, .aload_n 0, 1, 0, 0, 0, 0) := ceB_eq (by decide +kernel)
theorem f_331_1 : fnd 331 1 = some (1, .getfield 199, 3, 10, 11, 11, 0) := ceB_eq (by decide +kernel)
theorem f_331_4 : fnd 331 4 = some (4, .ifCond .ne 5, 3, 0, 0, 0, 0) := ceB_eq (by decide +kernel)
theorem f_331_7 : fnd 331 7 = some (7, .iconst (-1), 1, 0, 0, 0, 0) := ceB_eq (by decide +kernel)
theorem f_331_8 : fnd 331 8 = some (8, .ireturn, 1, 0, 0, 0, 0) := ceB_eq (by decide +kernel)
theorem f_331_9 : fnd 331 9 = some (9, .iconst 0, 1, 0, 0, 0, 0) := ceB_eq (by decide +kernel)
theorem f_331_10 : fnd 331 10 = some (10, .istore_n 1, 1, 0, 0, 0, 0) := ceB_eq (by decide +kernel)
theorem f_331_11 : fnd 331 11 = some (11, .iload_n 1, 1, 0, 0, 0, 0) := ceB_eq (by decide +kernel)
theorem f_331_12 : fnd 331 12 = some (12, .sipush 526, 3, 0, 0, 0, 0) := ceB_eq (by decide +kernel)
theorem f_331_15 : fnd 331 15 = some (15, .if_icmp .ge 21, 3, 0, 0, 0, 0) := ceB_eq (by decide +kernel)
theorem f_331_18 : fnd 331 18 = some (18, .aload_n 0, 1, 0, 0, 0, 0) := ceB_eq (by decide +kernel)
theorem f_331_19 : fnd 331 19 = some (19, .getfield 40, 3, 10, 22, 22, 0) := ceB_eq (by decide +kernel)
theorem f_331_22 : fnd 331 22 = some (22, .iload_n 1, 1, 0, 0, 0, 0) := ceB_eq (by decide +kernel)
theorem f_331_23 : fnd 331 23 = some (23, .aload_n 0, 1, 0, 0, 0, 0) := ceB_eq (by decide +kernel)
theorem f_331_24 : fnd 331 24 = some (24, .getfield 25, 3, 10, 15, 15, 0) := ceB_eq (by decide +kernel)
theorem f_331_27 : fnd 331 27 = some (27, .iload_n 1, 1, 0, 0, 0, 0) := ceB_eq (by decide +kernel)
theorem f_331_28 : fnd 331 28 = some (28, .iaload, 1, 0, 0, 0, 0) := ceB_eq (by decide +kernel)
theorem f_331_29 : fnd 331 29 = some (29, .iastore, 1, 0, 0, 0, 0) := ceB_eq (by decide +kernel)
theorem f_331_30 : fnd 331 30 = some (30, .iinc 1 1, 3, 0, 0, 0, 0) := ceB_eq (by decide +kernel)
theorem f_331_33 : fnd 331 33 = some (33, .goto (-22), 3, 0, 0, 0, 0) := ceB_eq (by decide +kernel)
theorem f_331_36 : fnd 331 36 = some (36, .aload_n 0, 1, 0, 0, 0, 0) := ceB_eq (by decide +kernel)
theorem f_331_37 : fnd 331 37 = some (37, .iconst 1, 1, 0, 0, 0, 0) := ceB_eq (by decide +kernel)
theorem f_331_38 : fnd 331 38 = some (38, .putfield 231, 3, 10, 23, 23, 0) := ceB_eq (by decide +kernel)
theorem f_331_41 : fnd 331 41 = some (41, .aload_n 0, 1, 0, 0, 0, 0) := ceB_eq (by decide +kernel)
theorem f_331_42 : fnd 331 42 = some (42, .invokevirtual 487, 3, 322, 1, 10, 0) := ceB_eq (by decide +kernel)
theorem f_331_45 : fnd 331 45 = some (45, .invokestatic 508, 3, 330, 1, 10, 0) := ceB_eq (by decide +kernel)
theorem f_331_48 : fnd 331 48 = some (48, .ireturn, 1, 0, 0, 0, 0) := ceB_eq (by decide +kernel)
theorem rk_331 : rkm 331 = 0 := by decide +kernel
theorem ml_331 : (mth 331).2.1 = 2 := by decide +kernel
set_option maxRecDepth 100000 in
theorem T_Z_image (k0 i0 : Int) (σ : ST) (Q : Option AV → ST → Prop) (h :
  ((((bz (σ 40 k0 i0 11)) ≠ 0 : Prop) →
    wp m_Z_image (11, [some (.inr (.inr (40, k0, i0))), some (.inl 0)], [], σ) Q) ∧
  (¬ ((bz (σ 40 k0 i0 11)) ≠ 0) →
    Q (some (.inl (-1))) σ))) :
  wpM m_Z_image [.inr (.inr (40, k0, i0))] σ Q :=
 wpM_of ml_331 (L := [some (.inr (.inr (40, k0, i0))), none]) rfl
 (w_aload_n (p' := 1) f_331_0 rfl rfl
 (w_getfield (p' := 4) f_331_1 rfl (x := .inl (bz (σ 40 k0 i0 11))) rfl rfl
 (w_if (p' := 9) (q' := 7) f_331_4 rfl rfl
 (fun c101 => w_iconst (p' := 10) f_331_9 rfl
 (w_istore_n (p' := 11) f_331_10 (L' := [some (.inr (.inr (40, k0, i0))), some (.inl 0)]) rfl rfl
 ((h.1 c101))))
 (fun c101 => w_iconst (p' := 8) f_331_7 rfl
 (w_iret f_331_8 rk_331 (h.2 c101))))))
set_option maxRecDepth 100000 in
theorem T_Z_image_11 (k0 i0 x1 : Int) (σ : ST) (Q : Option AV → ST → Prop) (h :
  (((526 ≤ x1 : Prop) →
    ((1 : Int) = 0 ∨ (1 : Int) = 1) ∧
    wpM m_Z_freeSet [.inr (.inr (40, k0, i0))] (up σ 40 k0 i0 23 1) (asI fun r101 s101 =>
    wpM m_Z_bits [.inl r101] s101 (asI fun r102 s102 =>
    Q (some (.inl r102)) s102))) ∧
  (¬ (526 ≤ x1) →
    ((0 : Int) ≤ x1 ∧ (x1 : Int) < 526) ∧
    ((0 : Int) ≤ x1 ∧ (x1 : Int) < 526) ∧
    wp m_Z_image (11, [some (.inr (.inr (40, k0, i0))), some (.inl (wr (x1 + 1)))], [], (up σ 51 0 0 x1 (σ 46 0 0 x1))) Q))) :
  wp m_Z_image (11, [some (.inr (.inr (40, k0, i0))), some (.inl x1)], [], σ) Q :=
 w_iload_n (p' := 12) f_331_11 rfl rfl
 (w_sipush (p' := 15) f_331_12 rfl
 (w_icmp (p' := 36) (q' := 18) f_331_15 rfl rfl
 (fun c103 => w_aload_n (p' := 37) f_331_36 rfl rfl
 (w_iconst (p' := 38) f_331_37 rfl
 (w_putZ (p' := 41) f_331_38 rfl rfl (c' := 23) rfl (h.1 c103).1 rfl
 (w_aload_n (p' := 42) f_331_41 rfl rfl
 (w_callV (p' := 45) f_331_42 rfl rfl rfl rfl rfl (r := []) rfl rfl (kI (.inl rk_322) fun r101 s101 h101 =>
 w_callS (p' := 48) f_331_45 rfl rfl rfl (r := []) rfl rfl (kI (.inl rk_330) fun r102 s102 h102 =>
 w_iret f_331_48 rk_331 h102) h101) (h.1 c103).2)))))
 (fun c103 => w_aload_n (p' := 19) f_331_18 rfl rfl
 (w_getfield (p' := 22) f_331_19 rfl (x := .inr (.inr (51, 0, 0))) rfl rfl
 (w_iload_n (p' := 23) f_331_22 rfl rfl
 (w_aload_n (p' := 24) f_331_23 rfl rfl
 (w_getfield (p' := 27) f_331_24 rfl (x := .inr (.inr (46, 0, 0))) rfl rfl
 (w_iload_n (p' := 28) f_331_27 rfl rfl
 (w_iaload (p' := 29) f_331_28 rfl (n := 526) rfl (h.2 c103).1 rfl
 (w_iastore (p' := 30) f_331_29 rfl (n := 526) rfl (h.2 c103).2.1 rfl
 (w_iinc (p' := 33) f_331_30 rfl (L' := [some (.inr (.inr (40, k0, i0))), some (.inl (wr (x1 + 1)))]) rfl rfl
 (w_goto (p' := 11) f_331_33 rfl
 ((h.2 c103).2.2)))))))))))))
/-! ClosedRoomsModel.back()I -/
theorem f_332_0 : fnd 332 0 = some (0, .aload_n 0, 1, 0, 0, 0, 0) := ceB_eq (by decide +kernel)
theorem f_332_1 : fnd 332 1 = some (1, .getfield 231, 3, 10, 23, 23, 0) := ceB_eq (by decide +kernel)
theorem f_332_4 : fnd 332 4 = some (4, .ifCond .ne 5, 3, 0, 0, 0, 0) := ceB_eq (by decide +kernel)
theorem f_332_7 : fnd 332 7 = some (7, .iconst (-1), 1, 0, 0, 0, 0) := ceB_eq (by decide +kernel)
theorem f_332_8 : fnd 332 8 = some (8, .ireturn, 1, 0, 0, 0, 0) := ceB_eq (by decide +kernel)
theorem f_332_9 : fnd 332 9 = some (9, .iconst 0, 1, 0, 0, 0, 0) := ceB_eq (by decide +kernel)
theorem f_332_10 : fnd 332 10 = some (10, .istore_n 1, 1, 0, 0, 0, 0) := ceB_eq (by decide +kernel)
theorem f_332_11 : fnd 332 11 = some (11, .iload_n 1, 1, 0, 0, 0, 0) := ceB_eq (by decide +kernel)
theorem f_332_12 : fnd 332 12 = some (12, .sipush 526, 3, 0, 0, 0, 0) := ceB_eq (by decide +kernel)
theorem f_332_15 : fnd 332 15 = some (15, .if_icmp .ge 21, 3, 0, 0, 0, 0) := ceB_eq (by decide +kernel)
theorem f_332_18 : fnd 332 18 = some (18, .aload_n 0, 1, 0, 0, 0, 0) := ceB_eq (by decide +kernel)
theorem f_332_19 : fnd 332 19 = some (19, .getfield 25, 3, 10, 15, 15, 0) := ceB_eq (by decide +kernel)
theorem f_332_22 : fnd 332 22 = some (22, .iload_n 1, 1, 0, 0, 0, 0) := ceB_eq (by decide +kernel)
theorem f_332_23 : fnd 332 23 = some (23, .aload_n 0, 1, 0, 0, 0, 0) := ceB_eq (by decide +kernel)
theorem f_332_24 : fnd 332 24 = some (24, .getfield 40, 3, 10, 22, 22, 0) := ceB_eq (by decide +kernel)
theorem f_332_27 : fnd 332 27 = some (27, .iload_n 1, 1, 0, 0, 0, 0) := ceB_eq (by decide +kernel)
theorem f_332_28 : fnd 332 28 = some (28, .iaload, 1, 0, 0, 0, 0) := ceB_eq (by decide +kernel)
theorem f_332_29 : fnd 332 29 = some (29, .iastore, 1, 0, 0, 0, 0) := ceB_eq (by decide +kernel)
theorem f_332_30 : fnd 332 30 = some (30, .iinc 1 1, 3, 0, 0, 0, 0) := ceB_eq (by decide +kernel)
theorem f_332_33 : fnd 332 33 = some (33, .goto (-22), 3, 0, 0, 0, 0) := ceB_eq (by decide +kernel)
theorem f_332_36 : fnd 332 36 = some (36, .aload_n 0, 1, 0, 0, 0, 0) := ceB_eq (by decide +kernel)
theorem f_332_37 : fnd 332 37 = some (37, .iconst 0, 1, 0, 0, 0, 0) := ceB_eq (by decide +kernel)
theorem f_332_38 : fnd 332 38 = some (38, .putfield 228, 3, 10, 18, 18, 0) := ceB_eq (by decide +kernel)
theorem f_332_41 : fnd 332 41 = some (41, .aload_n 0, 1, 0, 0, 0, 0) := ceB_eq (by decide +kernel)
theorem f_332_42 : fnd 332 42 = some (42, .invokevirtual 487, 3, 322, 1, 10, 0) := ceB_eq (by decide +kernel)
theorem f_332_45 : fnd 332 45 = some (45, .invokestatic 508, 3, 330, 1, 10, 0) := ceB_eq (by decide +kernel)
theorem f_332_48 : fnd 332 48 = some (48, .ireturn, 1, 0, 0, 0, 0) := ceB_eq (by decide +kernel)
theorem rk_332 : rkm 332 = 0 := by decide +kernel
theorem ml_332 : (mth 332).2.1 = 2 := by decide +kernel
set_option maxRecDepth 100000 in
theorem T_Z_back (k0 i0 : Int) (σ : ST) (Q : Option AV → ST → Prop) (h :
  ((((bz (σ 40 k0 i0 23)) ≠ 0 : Prop) →
    wp m_Z_back (11, [some (.inr (.inr (40, k0, i0))), some (.inl 0)], [], σ) Q) ∧
  (¬ ((bz (σ 40 k0 i0 23)) ≠ 0) →
    Q (some (.inl (-1))) σ))) :
  wpM m_Z_back [.inr (.inr (40, k0, i0))] σ Q :=
 wpM_of ml_332 (L := [some (.inr (.inr (40, k0, i0))), none]) rfl
 (w_aload_n (p' := 1) f_332_0 rfl rfl
 (w_getfield (p' := 4) f_332_1 rfl (x := .inl (bz (σ 40 k0 i0 23))) rfl rfl
 (w_if (p' := 9) (q' := 7) f_332_4 rfl rfl
 (fun c101 => w_iconst (p' := 10) f_332_9 rfl
 (w_istore_n (p' := 11) f_332_10 (L' := [some (.inr (.inr (40, k0, i0))), some (.inl 0)]) rfl rfl
 ((h.1 c101))))
 (fun c101 => w_iconst (p' := 8) f_332_7 rfl
 (w_iret f_332_8 rk_332 (h.2 c101))))))
set_option maxRecDepth 100000 in
theorem T_Z_back_11 (k0 i0 x1 : Int) (σ : ST) (Q : Option AV → ST → Prop) (h :
  (((526 ≤ x1 : Prop) →
    wpM m_Z_freeSet [.inr (.inr (40, k0, i0))] (up σ 40 k0 i0 18 0) (asI fun r101 s101 =>
    wpM m_Z_bits [.inl r101] s101 (asI fun r102 s102 =>
    Q (some (.inl r102)) s102))) ∧
  (¬ (526 ≤ x1) →
    ((0 : Int) ≤ x1 ∧ (x1 : Int) < 526) ∧
    ((0 : Int) ≤ x1 ∧ (x1 : Int) < 526) ∧
    wp m_Z_back (11, [some (.inr (.inr (40, k0, i0))), some (.inl (wr (x1 + 1)))], [], (up σ 46 0 0 x1 (σ 51 0 0 x1))) Q))) :
  wp m_Z_back (11, [some (.inr (.inr (40, k0, i0))), some (.inl x1)], [], σ) Q :=
 w_iload_n (p' := 12) f_332_11 rfl rfl
 (w_sipush (p' := 15) f_332_12 rfl
 (w_icmp (p' := 36) (q' := 18) f_332_15 rfl rfl
 (fun c103 => w_aload_n (p' := 37) f_332_36 rfl rfl
 (w_iconst (p' := 38) f_332_37 rfl
 (w_putI (p' := 41) f_332_38 rfl rfl (c' := 18) rfl rfl
 (w_aload_n (p' := 42) f_332_41 rfl rfl
 (w_callV (p' := 45) f_332_42 rfl rfl rfl rfl rfl (r := []) rfl rfl (kI (.inl rk_322) fun r101 s101 h101 =>
 w_callS (p' := 48) f_332_45 rfl rfl rfl (r := []) rfl rfl (kI (.inl rk_330) fun r102 s102 h102 =>
 w_iret f_332_48 rk_332 h102) h101) (h.1 c103))))))
 (fun c103 => w_aload_n (p' := 19) f_332_18 rfl rfl
 (w_getfield (p' := 22) f_332_19 rfl (x := .inr (.inr (46, 0, 0))) rfl rfl
 (w_iload_n (p' := 23) f_332_22 rfl rfl
 (w_aload_n (p' := 24) f_332_23 rfl rfl
 (w_getfield (p' := 27) f_332_24 rfl (x := .inr (.inr (51, 0, 0))) rfl rfl
 (w_iload_n (p' := 28) f_332_27 rfl rfl
 (w_iaload (p' := 29) f_332_28 rfl (n := 526) rfl (h.2 c103).1 rfl
 (w_iastore (p' := 30) f_332_29 rfl (n := 526) rfl (h.2 c103).2.1 rfl
 (w_iinc (p' := 33) f_332_30 rfl (L' := [some (.inr (.inr (40, k0, i0))), some (.inl (wr (x1 + 1)))]) rfl rfl
 (w_goto (p' := 11) f_332_33 rfl
 ((h.2 c103).2.2)))))))))))))
/-! ClosedRoomsModel.count(I)I -/
theorem f_333_0 : fnd 333 0 = some (0, .iload_n 1, 1, 0, 0, 0, 0) := ceB_eq (by decide +kernel)
theorem f_333_1 : fnd 333 1 = some (1, .tableswitch 77 0 4 #[35, 53, 58, 63, 72], 35, 0, 0, 0, 0) := ceB_eq (by decide +kernel)
theorem f_333_36 : fnd 333 36 = some (36, .aload_n 0, 1, 0, 0, 0, 0) := ceB_eq (by decide +kernel)
theorem f_333_37 : fnd 333 37 = some (37, .getfield 199, 3, 10, 11, 11, 0) := ceB_eq (by decide +kernel)
theorem f_333_40 : fnd 333 40 = some (40, .ifCond .eq 12, 3, 0, 0, 0, 0) := ceB_eq (by decide +kernel)
theorem f_333_43 : fnd 333 43 = some (43, .aload_n 0, 1, 0, 0, 0, 0) := ceB_eq (by decide +kernel)
theorem f_333_44 : fnd 333 44 = some (44, .getfield 16, 3, 10, 10, 10, 0) := ceB_eq (by decide +kernel)
theorem f_333_47 : fnd 333 47 = some (47, .iconst 0, 1, 0, 0, 0, 0) := ceB_eq (by decide +kernel)
theorem f_333_48 : fnd 333 48 = some (48, .iaload, 1, 0, 0, 0, 0) := ceB_eq (by decide +kernel)
theorem f_333_49 : fnd 333 49 = some (49, .goto 4, 3, 0, 0, 0, 0) := ceB_eq (by decide +kernel)
theorem f_333_52 : fnd 333 52 = some (52, .iconst 0, 1, 0, 0, 0, 0) := ceB_eq (by decide +kernel)
theorem f_333_53 : fnd 333 53 = some (53, .ireturn, 1, 0, 0, 0, 0) := ceB_eq (by decide +kernel)
theorem f_333_54 : fnd 333 54 = some (54, .aload_n 0, 1, 0, 0, 0, 0) := ceB_eq (by decide +kernel)
theorem f_333_55 : fnd 333 55 = some (55, .getfield 240, 3, 10, 14, 14, 0) := ceB_eq (by decide +kernel)
theorem f_333_58 : fnd 333 58 = some (58, .ireturn, 1, 0, 0, 0, 0) := ceB_eq (by decide +kernel)
theorem f_333_59 : fnd 333 59 = some (59, .aload_n 0, 1, 0, 0, 0, 0) := ceB_eq (by decide +kernel)
theorem f_333_60 : fnd 333 60 = some (60, .getfield 51, 3, 10, 2, 2, 0) := ceB_eq (by decide +kernel)
theorem f_333_63 : fnd 333 63 = some (63, .ireturn, 1, 0, 0, 0, 0) := ceB_eq (by decide +kernel)
theorem f_333_64 : fnd 333 64 = some (64, .aload_n 0, 1, 0, 0, 0, 0) := ceB_eq (by decide +kernel)
theorem f_333_65 : fnd 333 65 = some (65, .getfield 25, 3, 10, 15, 15, 0) := ceB_eq (by decide +kernel)
theorem f_333_68 : fnd 333 68 = some (68, .sipush 345, 3, 0, 0, 0, 0) := ceB_eq (by decide +kernel)
theorem f_333_71 : fnd 333 71 = some (71, .iaload, 1, 0, 0, 0, 0) := ceB_eq (by decide +kernel)
theorem f_333_72 : fnd 333 72 = some (72, .ireturn, 1, 0, 0, 0, 0) := ceB_eq (by decide +kernel)
theorem f_333_73 : fnd 333 73 = some (73, .aload_n 0, 1, 0, 0, 0, 0) := ceB_eq (by decide +kernel)
theorem f_333_74 : fnd 333 74 = some (74, .getfield 228, 3, 10, 18, 18, 0) := ceB_eq (by decide +kernel)
theorem f_333_77 : fnd 333 77 = some (77, .ireturn, 1, 0, 0, 0, 0) := ceB_eq (by decide +kernel)
theorem f_333_78 : fnd 333 78 = some (78, .ldc_w 452, 3, 0, 0, 0, (-1000000)) := ceB_eq (by decide +kernel)
theorem f_333_81 : fnd 333 81 = some (81, .ireturn, 1, 0, 0, 0, 0) := ceB_eq (by decide +kernel)
theorem rk_333 : rkm 333 = 0 := by decide +kernel
theorem ml_333 : (mth 333).2.1 = 2 := by decide +kernel
set_option maxRecDepth 100000 in
theorem T_Z_count (k0 i0 x1 : Int) (σ : ST) (Q : Option AV → ST → Prop) (h :
  ((x1 = 0 →
    ((((bz (σ 40 k0 i0 11)) = 0 : Prop) →
      Q (some (.inl 0)) σ) ∧
    (¬ ((bz (σ 40 k0 i0 11)) = 0) →
      ((0 : Int) ≤ 0 ∧ (0 : Int) < 4) ∧
      Q (some (.inl (σ 43 0 0 0))) σ))) ∧ (x1 ≠ 0 →
  ((x1 = 1 →
    Q (some (.inl (σ 40 k0 i0 14))) σ) ∧ (x1 ≠ 1 →
  ((x1 = 2 →
    Q (some (.inl (σ 40 k0 i0 2))) σ) ∧ (x1 ≠ 2 →
  ((x1 = 3 →
    ((0 : Int) ≤ 345 ∧ (345 : Int) < 526) ∧
    Q (some (.inl (σ 46 0 0 345))) σ) ∧ (x1 ≠ 3 →
  ((x1 = 4 →
    Q (some (.inl (σ 40 k0 i0 18))) σ) ∧ (x1 ≠ 4 →
    Q (some (.inl (-1000000))) σ))))))))))) :
  wpM m_Z_count [.inr (.inr (40, k0, i0)), .inl x1] σ Q :=
 wpM_of ml_333 (L := [some (.inr (.inr (40, k0, i0))), some (.inl x1)]) rfl
 (w_iload_n (p' := 1) f_333_0 rfl rfl
 (w_switch f_333_1 (cs := [(0, 36), (1, 54), (2, 59), (3, 64), (4, 73)]) rfl (d' := 78) rfl
 (⟨fun c102 => w_aload_n (p' := 37) f_333_36 rfl rfl
 (w_getfield (p' := 40) f_333_37 rfl (x := .inl (bz (σ 40 k0 i0 11))) rfl rfl
 (w_if (p' := 52) (q' := 43) f_333_40 rfl rfl
 (fun c101 => w_iconst (p' := 53) f_333_52 rfl
 (w_iret f_333_53 rk_333 ((h.1 c102).1 c101)))
 (fun c101 => w_aload_n (p' := 44) f_333_43 rfl rfl
 (w_getfield (p' := 47) f_333_44 rfl (x := .inr (.inr (43, 0, 0))) rfl rfl
 (w_iconst (p' := 48) f_333_47 rfl
 (w_iaload (p' := 49) f_333_48 rfl (n := 4) rfl ((h.1 c102).2 c101).1 rfl
 (w_goto (p' := 53) f_333_49 rfl
 (w_iret f_333_53 rk_333 ((h.1 c102).2 c101).2)))))))), fun c102_0 =>
 ⟨fun c102 => w_aload_n (p' := 55) f_333_54 rfl rfl
 (w_getfield (p' := 58) f_333_55 rfl (x := .inl (σ 40 k0 i0 14)) rfl rfl
 (w_iret f_333_58 rk_333 ((h.2 c102_0).1 c102))), fun c102_1 =>
 ⟨fun c102 => w_aload_n (p' := 60) f_333_59 rfl rfl
 (w_getfield (p' := 63) f_333_60 rfl (x := .inl (σ 40 k0 i0 2)) rfl rfl
 (w_iret f_333_63 rk_333 (((h.2 c102_0).2 c102_1).1 c102))), fun c102_2 =>
 ⟨fun c102 => w_aload_n (p' := 65) f_333_64 rfl rfl
 (w_getfield (p' := 68) f_333_65 rfl (x := .inr (.inr (46, 0, 0))) rfl rfl
 (w_sipush (p' := 71) f_333_68 rfl
 (w_iaload (p' := 72) f_333_71 rfl (n := 526) rfl ((((h.2 c102_0).2 c102_1).2 c102_2).1 c102).1 rfl
 (w_iret f_333_72 rk_333 ((((h.2 c102_0).2 c102_1).2 c102_2).1 c102).2)))), fun c102_3 =>
 ⟨fun c102 => w_aload_n (p' := 74) f_333_73 rfl rfl
 (w_getfield (p' := 77) f_333_74 rfl (x := .inl (σ 40 k0 i0 18)) rfl rfl
 (w_iret f_333_77 rk_333 (((((h.2 c102_0).2 c102_1).2 c102_2).2 c102_3).1 c102))), fun c102_4 =>
 w_ldc_w (p' := 81) f_333_78 rfl
 (w_iret f_333_81 rk_333 (((((h.2 c102_0).2 c102_1).2 c102_2).2 c102_3).2 c102_4))⟩⟩⟩⟩⟩)))
