/-! ClosedRooms.bytesOf(I)I -/
theorem f_0_0 : fnd 0 0 = some (0, .iconst 0, 1, 0, 0, 0, 0) := ceB_eq (by decide +kernel)
theorem f_0_1 : fnd 0 1 = some (1, .istore_n 1, 1, 0, 0, 0, 0) := ceB_eq (by decide +kernel)
theorem f_0_2 : fnd 0 2 = some (2, .bipush 24, 2, 0, 0, 0, 0) := ceB_eq (by decide +kernel)
theorem f_0_4 : fnd 0 4 = some (4, .istore_n 2, 1, 0, 0, 0, 0) := ceB_eq (by decide +kernel)
theorem f_0_5 : fnd 0 5 = some (5, .iload_n 2, 1, 0, 0, 0, 0) := ceB_eq (by decide +kernel)
theorem f_0_6 : fnd 0 6 = some (6, .ifCond .lt 22, 3, 0, 0, 0, 0) := ceB_eq (by decide +kernel)
theorem f_0_9 : fnd 0 9 = some (9, .iload_n 0, 1, 0, 0, 0, 0) := ceB_eq (by decide +kernel)
theorem f_0_10 : fnd 0 10 = some (10, .iload_n 2, 1, 0, 0, 0, 0) := ceB_eq (by decide +kernel)
theorem f_0_11 : fnd 0 11 = some (11, .iushr, 1, 0, 0, 0, 0) := ceB_eq (by decide +kernel)
theorem f_0_12 : fnd 0 12 = some (12, .sipush 255, 3, 0, 0, 0, 0) := ceB_eq (by decide +kernel)
theorem f_0_15 : fnd 0 15 = some (15, .iand, 1, 0, 0, 0, 0) := ceB_eq (by decide +kernel)
theorem f_0_16 : fnd 0 16 = some (16, .ifCond .eq 6, 3, 0, 0, 0, 0) := ceB_eq (by decide +kernel)
theorem f_0_19 : fnd 0 19 = some (19, .iinc 1 1, 3, 0, 0, 0, 0) := ceB_eq (by decide +kernel)
theorem f_0_22 : fnd 0 22 = some (22, .iinc 2 (-8), 3, 0, 0, 0, 0) := ceB_eq (by decide +kernel)
theorem f_0_25 : fnd 0 25 = some (25, .goto (-20), 3, 0, 0, 0, 0) := ceB_eq (by decide +kernel)
theorem f_0_28 : fnd 0 28 = some (28, .iload_n 1, 1, 0, 0, 0, 0) := ceB_eq (by decide +kernel)
theorem f_0_29 : fnd 0 29 = some (29, .ireturn, 1, 0, 0, 0, 0) := ceB_eq (by decide +kernel)
theorem rk_0 : rkm 0 = 0 := by decide +kernel
theorem ml_0 : (mth 0).2.1 = 3 := by decide +kernel
set_option maxRecDepth 100000 in
theorem T_X_bytesOf (x1 : Int) (σ : ST) (Q : Option AV → ST → Prop) (h :
  wp m_X_bytesOf (5, [some (.inl x1), some (.inl 0), some (.inl 24)], [], σ) Q) :
  wpM m_X_bytesOf [.inl x1] σ Q :=
 wpM_of ml_0 (L := [some (.inl x1), none, none]) rfl
 (w_iconst (p' := 1) f_0_0 rfl
 (w_istore_n (p' := 2) f_0_1 (L' := [some (.inl x1), some (.inl 0), none]) rfl rfl
 (w_bipush (p' := 4) f_0_2 rfl
 (w_istore_n (p' := 5) f_0_4 (L' := [some (.inl x1), some (.inl 0), some (.inl 24)]) rfl rfl
 (h)))))
set_option maxRecDepth 100000 in
theorem T_X_bytesOf_5 (x0 x1 x2 : Int) (σ : ST) (Q : Option AV → ST → Prop) (h :
  (((x2 < 0 : Prop) →
    Q (some (.inl x1)) σ) ∧
  (¬ (x2 < 0) →
    ((((i_and (i_ush x0 x2) 255) = 0 : Prop) →
      wp m_X_bytesOf (5, [some (.inl x0), some (.inl x1), some (.inl (wr (x2 + (-8))))], [], σ) Q) ∧
    (¬ ((i_and (i_ush x0 x2) 255) = 0) →
      wp m_X_bytesOf (5, [some (.inl x0), some (.inl (wr (x1 + 1))), some (.inl (wr (x2 + (-8))))], [], σ) Q))))) :
  wp m_X_bytesOf (5, [some (.inl x0), some (.inl x1), some (.inl x2)], [], σ) Q :=
 w_iload_n (p' := 6) f_0_5 rfl rfl
 (w_if (p' := 28) (q' := 9) f_0_6 rfl rfl
 (fun c102 => w_iload_n (p' := 29) f_0_28 rfl rfl
 (w_iret f_0_29 rk_0 (h.1 c102)))
 (fun c102 => w_iload_n (p' := 10) f_0_9 rfl rfl
 (w_iload_n (p' := 11) f_0_10 rfl rfl
 (w_iushr (p' := 12) f_0_11 rfl
 (w_sipush (p' := 15) f_0_12 rfl
 (w_iand (p' := 16) f_0_15 rfl
 (w_if (p' := 22) (q' := 19) f_0_16 rfl rfl
 (fun c101 => w_iinc (p' := 25) f_0_22 rfl (L' := [some (.inl x0), some (.inl x1), some (.inl (wr (x2 + (-8))))]) rfl rfl
 (w_goto (p' := 5) f_0_25 rfl
 (((h.2 c102).1 c101))))
 (fun c101 => w_iinc (p' := 22) f_0_19 rfl (L' := [some (.inl x0), some (.inl (wr (x1 + 1))), some (.inl x2)]) rfl rfl
 (w_iinc (p' := 25) f_0_22 rfl (L' := [some (.inl x0), some (.inl (wr (x1 + 1))), some (.inl (wr (x2 + (-8))))]) rfl rfl
 (w_goto (p' := 5) f_0_25 rfl
 (((h.2 c102).2 c101))))))))))))
/-! ClosedRooms$Tape.append(I)V -/
theorem f_1_0 : fnd 1 0 = some (0, .bipush 24, 2, 0, 0, 0, 0) := ceB_eq (by decide +kernel)
theorem f_1_2 : fnd 1 2 = some (2, .istore_n 2, 1, 0, 0, 0, 0) := ceB_eq (by decide +kernel)
theorem f_1_3 : fnd 1 3 = some (3, .iload_n 2, 1, 0, 0, 0, 0) := ceB_eq (by decide +kernel)
theorem f_1_4 : fnd 1 4 = some (4, .ifCond .lt 58, 3, 0, 0, 0, 0) := ceB_eq (by decide +kernel)
theorem f_1_7 : fnd 1 7 = some (7, .iload_n 1, 1, 0, 0, 0, 0) := ceB_eq (by decide +kernel)
theorem f_1_8 : fnd 1 8 = some (8, .iload_n 2, 1, 0, 0, 0, 0) := ceB_eq (by decide +kernel)
theorem f_1_9 : fnd 1 9 = some (9, .iushr, 1, 0, 0, 0, 0) := ceB_eq (by decide +kernel)
theorem f_1_10 : fnd 1 10 = some (10, .sipush 255, 3, 0, 0, 0, 0) := ceB_eq (by decide +kernel)
theorem f_1_13 : fnd 1 13 = some (13, .iand, 1, 0, 0, 0, 0) := ceB_eq (by decide +kernel)
theorem f_1_14 : fnd 1 14 = some (14, .istore_n 3, 1, 0, 0, 0, 0) := ceB_eq (by decide +kernel)
theorem f_1_15 : fnd 1 15 = some (15, .iload_n 3, 1, 0, 0, 0, 0) := ceB_eq (by decide +kernel)
theorem f_1_16 : fnd 1 16 = some (16, .ifCond .eq 40, 3, 0, 0, 0, 0) := ceB_eq (by decide +kernel)
theorem f_1_19 : fnd 1 19 = some (19, .aload_n 0, 1, 0, 0, 0, 0) := ceB_eq (by decide +kernel)
theorem f_1_20 : fnd 1 20 = some (20, .getfield 9, 3, 1, 0, 0, 0) := ceB_eq (by decide +kernel)
theorem f_1_23 : fnd 1 23 = some (23, .ifCond .lt 33, 3, 0, 0, 0, 0) := ceB_eq (by decide +kernel)
theorem f_1_26 : fnd 1 26 = some (26, .aload_n 0, 1, 0, 0, 0, 0) := ceB_eq (by decide +kernel)
theorem f_1_27 : fnd 1 27 = some (27, .getfield 9, 3, 1, 0, 0, 0) := ceB_eq (by decide +kernel)
theorem f_1_30 : fnd 1 30 = some (30, .sipush 320, 3, 0, 0, 0, 0) := ceB_eq (by decide +kernel)
theorem f_1_33 : fnd 1 33 = some (33, .if_icmp .ge 23, 3, 0, 0, 0, 0) := ceB_eq (by decide +kernel)
theorem f_1_36 : fnd 1 36 = some (36, .aload_n 0, 1, 0, 0, 0, 0) := ceB_eq (by decide +kernel)
theorem f_1_37 : fnd 1 37 = some (37, .getfield 15, 3, 1, 1, 1, 0) := ceB_eq (by decide +kernel)
theorem f_1_40 : fnd 1 40 = some (40, .aload_n 0, 1, 0, 0, 0, 0) := ceB_eq (by decide +kernel)
theorem f_1_41 : fnd 1 41 = some (41, .getfield 9, 3, 1, 0, 0, 0) := ceB_eq (by decide +kernel)
theorem f_1_44 : fnd 1 44 = some (44, .iload_n 3, 1, 0, 0, 0, 0) := ceB_eq (by decide +kernel)
theorem f_1_45 : fnd 1 45 = some (45, .iastore, 1, 0, 0, 0, 0) := ceB_eq (by decide +kernel)
theorem f_1_46 : fnd 1 46 = some (46, .aload_n 0, 1, 0, 0, 0, 0) := ceB_eq (by decide +kernel)
theorem f_1_47 : fnd 1 47 = some (47, .dup, 1, 0, 0, 0, 0) := ceB_eq (by decide +kernel)
theorem f_1_48 : fnd 1 48 = some (48, .getfield 9, 3, 1, 0, 0, 0) := ceB_eq (by decide +kernel)
theorem f_1_51 : fnd 1 51 = some (51, .iconst 1, 1, 0, 0, 0, 0) := ceB_eq (by decide +kernel)
theorem f_1_52 : fnd 1 52 = some (52, .iadd, 1, 0, 0, 0, 0) := ceB_eq (by decide +kernel)
theorem f_1_53 : fnd 1 53 = some (53, .putfield 9, 3, 1, 0, 0, 0) := ceB_eq (by decide +kernel)
theorem f_1_56 : fnd 1 56 = some (56, .iinc 2 (-8), 3, 0, 0, 0, 0) := ceB_eq (by decide +kernel)
theorem f_1_59 : fnd 1 59 = some (59, .goto (-56), 3, 0, 0, 0, 0) := ceB_eq (by decide +kernel)
theorem f_1_62 : fnd 1 62 = some (62, .return_, 1, 0, 0, 0, 0) := ceB_eq (by decide +kernel)
theorem rk_1 : rkm 1 = 4 := by decide +kernel
theorem ml_1 : (mth 1).2.1 = 4 := by decide +kernel
set_option maxRecDepth 100000 in
theorem T_Tape_append (k0 i0 x1 : Int) (σ : ST) (Q : Option AV → ST → Prop) (h :
  wp m_Tape_append (3, [some (.inr (.inr (1, k0, i0))), some (.inl x1), some (.inl 24), none], [], σ) Q) :
  wpM m_Tape_append [.inr (.inr (1, k0, i0)), .inl x1] σ Q :=
 wpM_of ml_1 (L := [some (.inr (.inr (1, k0, i0))), some (.inl x1), none, none]) rfl
 (w_bipush (p' := 2) f_1_0 rfl
 (w_istore_n (p' := 3) f_1_2 (L' := [some (.inr (.inr (1, k0, i0))), some (.inl x1), some (.inl 24), none]) rfl rfl
 (h)))
set_option maxRecDepth 100000 in
theorem T_Tape_append_3 (k0 i0 x1 x2 : Int) (o3 : Option AV) (σ : ST) (Q : Option AV → ST → Prop) (h :
  (((x2 < 0 : Prop) →
    Q none σ) ∧
  (¬ (x2 < 0) →
    ((((i_and (i_ush x1 x2) 255) = 0 : Prop) →
      wp m_Tape_append (3, [some (.inr (.inr (1, k0, i0))), some (.inl x1), some (.inl (wr (x2 + (-8)))), some (.inl (i_and (i_ush x1 x2) 255))], [], σ) Q) ∧
    (¬ ((i_and (i_ush x1 x2) 255) = 0) →
      ((((σ 1 k0 i0 0) < 0 : Prop) →
        wp m_Tape_append (3, [some (.inr (.inr (1, k0, i0))), some (.inl x1), some (.inl (wr (x2 + (-8)))), some (.inl (i_and (i_ush x1 x2) 255))], [], σ) Q) ∧
      (¬ ((σ 1 k0 i0 0) < 0) →
        (((320 ≤ (σ 1 k0 i0 0) : Prop) →
          wp m_Tape_append (3, [some (.inr (.inr (1, k0, i0))), some (.inl x1), some (.inl (wr (x2 + (-8)))), some (.inl (i_and (i_ush x1 x2) 255))], [], σ) Q) ∧
        (¬ (320 ≤ (σ 1 k0 i0 0)) →
          ((0 : Int) ≤ (σ 1 k0 i0 0) ∧ ((σ 1 k0 i0 0) : Int) < 320) ∧
          wp m_Tape_append (3, [some (.inr (.inr (1, k0, i0))), some (.inl x1), some (.inl (wr (x2 + (-8)))), some (.inl (i_and (i_ush x1 x2) 255))], [], (up (up σ 2 0 0 (σ 1 k0 i0 0) (i_and (i_ush x1 x2) 255)) 1 k0 i0 0 (wr (((up σ 2 0 0 (σ 1 k0 i0 0) (i_and (i_ush x1 x2) 255)) 1 k0 i0 0) + 1)))) Q))))))))) :
  wp m_Tape_append (3, [some (.inr (.inr (1, k0, i0))), some (.inl x1), some (.inl x2), o3], [], σ) Q :=
 w_iload_n (p' := 4) f_1_3 rfl rfl
 (w_if (p' := 62) (q' := 7) f_1_4 rfl rfl
 (fun c104 => w_vret f_1_62 rk_1 (h.1 c104))
 (fun c104 => w_iload_n (p' := 8) f_1_7 rfl rfl
 (w_iload_n (p' := 9) f_1_8 rfl rfl
 (w_iushr (p' := 10) f_1_9 rfl
 (w_sipush (p' := 13) f_1_10 rfl
 (w_iand (p' := 14) f_1_13 rfl
 (w_istore_n (p' := 15) f_1_14 (L' := [some (.inr (.inr (1, k0, i0))), some (.inl x1), some (.inl x2), some (.inl (i_and (i_ush x1 x2) 255))]) rfl rfl
 (w_iload_n (p' := 16) f_1_15 rfl rfl
 (w_if (p' := 56) (q' := 19) f_1_16 rfl rfl
 (fun c103 => w_iinc (p' := 59) f_1_56 rfl (L' := [some (.inr (.inr (1, k0, i0))), some (.inl x1), some (.inl (wr (x2 + (-8)))), some (.inl (i_and (i_ush x1 x2) 255))]) rfl rfl
 (w_goto (p' := 3) f_1_59 rfl
 (((h.2 c104).1 c103))))
 (fun c103 => w_aload_n (p' := 20) f_1_19 rfl rfl
 (w_getfield (p' := 23) f_1_20 rfl (x := .inl (σ 1 k0 i0 0)) rfl rfl
 (w_if (p' := 56) (q' := 26) f_1_23 rfl rfl
 (fun c102 => w_iinc (p' := 59) f_1_56 rfl (L' := [some (.inr (.inr (1, k0, i0))), some (.inl x1), some (.inl (wr (x2 + (-8)))), some (.inl (i_and (i_ush x1 x2) 255))]) rfl rfl
 (w_goto (p' := 3) f_1_59 rfl
 ((((h.2 c104).2 c103).1 c102))))
 (fun c102 => w_aload_n (p' := 27) f_1_26 rfl rfl
 (w_getfield (p' := 30) f_1_27 rfl (x := .inl (σ 1 k0 i0 0)) rfl rfl
 (w_sipush (p' := 33) f_1_30 rfl
 (w_icmp (p' := 56) (q' := 36) f_1_33 rfl rfl
 (fun c101 => w_iinc (p' := 59) f_1_56 rfl (L' := [some (.inr (.inr (1, k0, i0))), some (.inl x1), some (.inl (wr (x2 + (-8)))), some (.inl (i_and (i_ush x1 x2) 255))]) rfl rfl
 (w_goto (p' := 3) f_1_59 rfl
 (((((h.2 c104).2 c103).2 c102).1 c101))))
 (fun c101 => w_aload_n (p' := 37) f_1_36 rfl rfl
 (w_getfield (p' := 40) f_1_37 rfl (x := .inr (.inr (2, 0, 0))) rfl rfl
 (w_aload_n (p' := 41) f_1_40 rfl rfl
 (w_getfield (p' := 44) f_1_41 rfl (x := .inl (σ 1 k0 i0 0)) rfl rfl
 (w_iload_n (p' := 45) f_1_44 rfl rfl
 (w_iastore (p' := 46) f_1_45 rfl (n := 320) rfl ((((h.2 c104).2 c103).2 c102).2 c101).1 rfl
 (w_aload_n (p' := 47) f_1_46 rfl rfl
 (w_dupR (p' := 48) f_1_47 rfl
 (w_getfield (p' := 51) f_1_48 rfl (x := .inl ((up σ 2 0 0 (σ 1 k0 i0 0) (i_and (i_ush x1 x2) 255)) 1 k0 i0 0)) rfl rfl
 (w_iconst (p' := 52) f_1_51 rfl
 (w_iadd (p' := 53) f_1_52 rfl
 (w_putI (p' := 56) f_1_53 rfl rfl (c' := 0) rfl rfl
 (w_iinc (p' := 59) f_1_56 rfl (L' := [some (.inr (.inr (1, k0, i0))), some (.inl x1), some (.inl (wr (x2 + (-8)))), some (.inl (i_and (i_ush x1 x2) 255))]) rfl rfl
 (w_goto (p' := 3) f_1_59 rfl
 (((((h.2 c104).2 c103).2 c102).2 c101).2)))))))))))))))))))))))))))))))
/-! ClosedRooms.feed(IIIII)I -/
theorem f_2_0 : fnd 2 0 = some (0, .iload_n 1, 1, 0, 0, 0, 0) := ceB_eq (by decide +kernel)
theorem f_2_1 : fnd 2 1 = some (1, .invokestatic 72, 3, 0, 1, 0, 0) := ceB_eq (by decide +kernel)
theorem f_2_4 : fnd 2 4 = some (4, .iload_n 2, 1, 0, 0, 0, 0) := ceB_eq (by decide +kernel)
theorem f_2_5 : fnd 2 5 = some (5, .invokestatic 72, 3, 0, 1, 0, 0) := ceB_eq (by decide +kernel)
theorem f_2_8 : fnd 2 8 = some (8, .iadd, 1, 0, 0, 0, 0) := ceB_eq (by decide +kernel)
theorem f_2_9 : fnd 2 9 = some (9, .iload_n 3, 1, 0, 0, 0, 0) := ceB_eq (by decide +kernel)
theorem f_2_10 : fnd 2 10 = some (10, .invokestatic 72, 3, 0, 1, 0, 0) := ceB_eq (by decide +kernel)
theorem f_2_13 : fnd 2 13 = some (13, .iadd, 1, 0, 0, 0, 0) := ceB_eq (by decide +kernel)
theorem f_2_14 : fnd 2 14 = some (14, .iload 4, 2, 0, 0, 0, 0) := ceB_eq (by decide +kernel)
theorem f_2_16 : fnd 2 16 = some (16, .invokestatic 72, 3, 0, 1, 0, 0) := ceB_eq (by decide +kernel)
theorem f_2_19 : fnd 2 19 = some (19, .iadd, 1, 0, 0, 0, 0) := ceB_eq (by decide +kernel)
theorem f_2_20 : fnd 2 20 = some (20, .iload 5, 2, 0, 0, 0, 0) := ceB_eq (by decide +kernel)
theorem f_2_22 : fnd 2 22 = some (22, .invokestatic 72, 3, 0, 1, 0, 0) := ceB_eq (by decide +kernel)
theorem f_2_25 : fnd 2 25 = some (25, .iadd, 1, 0, 0, 0, 0) := ceB_eq (by decide +kernel)
theorem f_2_26 : fnd 2 26 = some (26, .istore 6, 2, 0, 0, 0, 0) := ceB_eq (by decide +kernel)
theorem f_2_28 : fnd 2 28 = some (28, .aload_n 0, 1, 0, 0, 0, 0) := ceB_eq (by decide +kernel)
theorem f_2_29 : fnd 2 29 = some (29, .getfield 10, 3, 0, 0, 0, 0) := ceB_eq (by decide +kernel)
theorem f_2_32 : fnd 2 32 = some (32, .getfield 76, 3, 1, 0, 0, 0) := ceB_eq (by decide +kernel)
theorem f_2_35 : fnd 2 35 = some (35, .iload 6, 2, 0, 0, 0, 0) := ceB_eq (by decide +kernel)
theorem f_2_37 : fnd 2 37 = some (37, .iadd, 1, 0, 0, 0, 0) := ceB_eq (by decide +kernel)
theorem f_2_38 : fnd 2 38 = some (38, .sipush 320, 3, 0, 0, 0, 0) := ceB_eq (by decide +kernel)
theorem f_2_41 : fnd 2 41 = some (41, .if_icmp .le 5, 3, 0, 0, 0, 0) := ceB_eq (by decide +kernel)
theorem f_2_44 : fnd 2 44 = some (44, .iconst (-1), 1, 0, 0, 0, 0) := ceB_eq (by decide +kernel)
theorem f_2_45 : fnd 2 45 = some (45, .ireturn, 1, 0, 0, 0, 0) := ceB_eq (by decide +kernel)
theorem f_2_46 : fnd 2 46 = some (46, .aload_n 0, 1, 0, 0, 0, 0) := ceB_eq (by decide +kernel)
theorem f_2_47 : fnd 2 47 = some (47, .getfield 10, 3, 0, 0, 0, 0) := ceB_eq (by decide +kernel)
theorem f_2_50 : fnd 2 50 = some (50, .iload_n 1, 1, 0, 0, 0, 0) := ceB_eq (by decide +kernel)
theorem f_2_51 : fnd 2 51 = some (51, .invokevirtual 79, 3, 1, 2, 1, 0) := ceB_eq (by decide +kernel)
theorem f_2_54 : fnd 2 54 = some (54, .aload_n 0, 1, 0, 0, 0, 0) := ceB_eq (by decide +kernel)
theorem f_2_55 : fnd 2 55 = some (55, .getfield 10, 3, 0, 0, 0, 0) := ceB_eq (by decide +kernel)
theorem f_2_58 : fnd 2 58 = some (58, .iload_n 2, 1, 0, 0, 0, 0) := ceB_eq (by decide +kernel)
theorem f_2_59 : fnd 2 59 = some (59, .invokevirtual 79, 3, 1, 2, 1, 0) := ceB_eq (by decide +kernel)
theorem f_2_62 : fnd 2 62 = some (62, .aload_n 0, 1, 0, 0, 0, 0) := ceB_eq (by decide +kernel)
theorem f_2_63 : fnd 2 63 = some (63, .getfield 10, 3, 0, 0, 0, 0) := ceB_eq (by decide +kernel)
theorem f_2_66 : fnd 2 66 = some (66, .iload_n 3, 1, 0, 0, 0, 0) := ceB_eq (by decide +kernel)
theorem f_2_67 : fnd 2 67 = some (67, .invokevirtual 79, 3, 1, 2, 1, 0) := ceB_eq (by decide +kernel)
theorem f_2_70 : fnd 2 70 = some (70, .aload_n 0, 1, 0, 0, 0, 0) := ceB_eq (by decide +kernel)
theorem f_2_71 : fnd 2 71 = some (71, .getfield 10, 3, 0, 0, 0, 0) := ceB_eq (by decide +kernel)
theorem f_2_74 : fnd 2 74 = some (74, .iload 4, 2, 0, 0, 0, 0) := ceB_eq (by decide +kernel)
theorem f_2_76 : fnd 2 76 = some (76, .invokevirtual 79, 3, 1, 2, 1, 0) := ceB_eq (by decide +kernel)
theorem f_2_79 : fnd 2 79 = some (79, .aload_n 0, 1, 0, 0, 0, 0) := ceB_eq (by decide +kernel)
theorem f_2_80 : fnd 2 80 = some (80, .getfield 10, 3, 0, 0, 0, 0) := ceB_eq (by decide +kernel)
theorem f_2_83 : fnd 2 83 = some (83, .iload 5, 2, 0, 0, 0, 0) := ceB_eq (by decide +kernel)
theorem f_2_85 : fnd 2 85 = some (85, .invokevirtual 79, 3, 1, 2, 1, 0) := ceB_eq (by decide +kernel)
theorem f_2_88 : fnd 2 88 = some (88, .aload_n 0, 1, 0, 0, 0, 0) := ceB_eq (by decide +kernel)
theorem f_2_89 : fnd 2 89 = some (89, .getfield 10, 3, 0, 0, 0, 0) := ceB_eq (by decide +kernel)
theorem f_2_92 : fnd 2 92 = some (92, .getfield 76, 3, 1, 0, 0, 0) := ceB_eq (by decide +kernel)
theorem f_2_95 : fnd 2 95 = some (95, .ireturn, 1, 0, 0, 0, 0) := ceB_eq (by decide +kernel)
theorem rk_2 : rkm 2 = 0 := by decide +kernel
theorem ml_2 : (mth 2).2.1 = 7 := by decide +kernel
set_option maxRecDepth 100000 in
theorem T_X_feed (k0 i0 x1 x2 x3 x4 x5 : Int) (σ : ST) (Q : Option AV → ST → Prop) (h :
  wpM m_X_bytesOf [.inl x1] σ (asI fun r101 s101 =>
  wpM m_X_bytesOf [.inl x2] s101 (asI fun r102 s102 =>
  wpM m_X_bytesOf [.inl x3] s102 (asI fun r103 s103 =>
  wpM m_X_bytesOf [.inl x4] s103 (asI fun r104 s104 =>
  wpM m_X_bytesOf [.inl x5] s104 (asI fun r105 s105 =>
  ((((wr ((s105 1 0 0 0) + (wr ((wr ((wr ((wr (r101 + r102)) + r103)) + r104)) + r105)))) ≤ 320 : Prop) →
    wpM m_Tape_append [.inr (.inr (1, 0, 0)), .inl x1] s105 (asV fun s106 =>
    wpM m_Tape_append [.inr (.inr (1, 0, 0)), .inl x2] s106 (asV fun s107 =>
    wpM m_Tape_append [.inr (.inr (1, 0, 0)), .inl x3] s107 (asV fun s108 =>
    wpM m_Tape_append [.inr (.inr (1, 0, 0)), .inl x4] s108 (asV fun s109 =>
    wpM m_Tape_append [.inr (.inr (1, 0, 0)), .inl x5] s109 (asV fun s110 =>
    Q (some (.inl (s110 1 0 0 0))) s110)))))) ∧
  (¬ ((wr ((s105 1 0 0 0) + (wr ((wr ((wr ((wr (r101 + r102)) + r103)) + r104)) + r105)))) ≤ 320) →
    Q (some (.inl (-1))) s105)))))))) :
  wpM m_X_feed [.inr (.inr (0, k0, i0)), .inl x1, .inl x2, .inl x3, .inl x4, .inl x5] σ Q :=
 wpM_of ml_2 (L := [some (.inr (.inr (0, k0, i0))), some (.inl x1), some (.inl x2), some (.inl x3), some (.inl x4), some (.inl x5), none]) rfl
 (w_iload_n (p' := 1) f_2_0 rfl rfl
 (w_callS (p' := 4) f_2_1 rfl rfl rfl (r := []) rfl rfl (kI (.inl rk_0) fun r101 s101 h101 =>
 w_iload_n (p' := 5) f_2_4 rfl rfl
 (w_callS (p' := 8) f_2_5 rfl rfl rfl (r := [.inl r101]) rfl rfl (kI (.inl rk_0) fun r102 s102 h102 =>
 w_iadd (p' := 9) f_2_8 rfl
 (w_iload_n (p' := 10) f_2_9 rfl rfl
 (w_callS (p' := 13) f_2_10 rfl rfl rfl (r := [.inl (wr (r101 + r102))]) rfl rfl (kI (.inl rk_0) fun r103 s103 h103 =>
 w_iadd (p' := 14) f_2_13 rfl
 (w_iload (p' := 16) f_2_14 rfl rfl
 (w_callS (p' := 19) f_2_16 rfl rfl rfl (r := [.inl (wr ((wr (r101 + r102)) + r103))]) rfl rfl (kI (.inl rk_0) fun r104 s104 h104 =>
 w_iadd (p' := 20) f_2_19 rfl
 (w_iload (p' := 22) f_2_20 rfl rfl
 (w_callS (p' := 25) f_2_22 rfl rfl rfl (r := [.inl (wr ((wr ((wr (r101 + r102)) + r103)) + r104))]) rfl rfl (kI (.inl rk_0) fun r105 s105 h105 =>
 w_iadd (p' := 26) f_2_25 rfl
 (w_istore (p' := 28) f_2_26 (L' := [some (.inr (.inr (0, k0, i0))), some (.inl x1), some (.inl x2), some (.inl x3), some (.inl x4), some (.inl x5), some (.inl (wr ((wr ((wr ((wr (r101 + r102)) + r103)) + r104)) + r105)))]) rfl rfl
 (w_aload_n (p' := 29) f_2_28 rfl rfl
 (w_getfield (p' := 32) f_2_29 rfl (x := .inr (.inr (1, 0, 0))) rfl rfl
 (w_getfield (p' := 35) f_2_32 rfl (x := .inl (s105 1 0 0 0)) rfl rfl
 (w_iload (p' := 37) f_2_35 rfl rfl
 (w_iadd (p' := 38) f_2_37 rfl
 (w_sipush (p' := 41) f_2_38 rfl
 (w_icmp (p' := 46) (q' := 44) f_2_41 rfl rfl
 (fun c111 => w_aload_n (p' := 47) f_2_46 rfl rfl
 (w_getfield (p' := 50) f_2_47 rfl (x := .inr (.inr (1, 0, 0))) rfl rfl
 (w_iload_n (p' := 51) f_2_50 rfl rfl
 (w_callV (p' := 54) f_2_51 rfl rfl rfl rfl rfl (r := []) rfl rfl (kV rk_1 fun s106 h106 =>
 w_aload_n (p' := 55) f_2_54 rfl rfl
 (w_getfield (p' := 58) f_2_55 rfl (x := .inr (.inr (1, 0, 0))) rfl rfl
 (w_iload_n (p' := 59) f_2_58 rfl rfl
 (w_callV (p' := 62) f_2_59 rfl rfl rfl rfl rfl (r := []) rfl rfl (kV rk_1 fun s107 h107 =>
 w_aload_n (p' := 63) f_2_62 rfl rfl
 (w_getfield (p' := 66) f_2_63 rfl (x := .inr (.inr (1, 0, 0))) rfl rfl
 (w_iload_n (p' := 67) f_2_66 rfl rfl
 (w_callV (p' := 70) f_2_67 rfl rfl rfl rfl rfl (r := []) rfl rfl (kV rk_1 fun s108 h108 =>
 w_aload_n (p' := 71) f_2_70 rfl rfl
 (w_getfield (p' := 74) f_2_71 rfl (x := .inr (.inr (1, 0, 0))) rfl rfl
 (w_iload (p' := 76) f_2_74 rfl rfl
 (w_callV (p' := 79) f_2_76 rfl rfl rfl rfl rfl (r := []) rfl rfl (kV rk_1 fun s109 h109 =>
 w_aload_n (p' := 80) f_2_79 rfl rfl
 (w_getfield (p' := 83) f_2_80 rfl (x := .inr (.inr (1, 0, 0))) rfl rfl
 (w_iload (p' := 85) f_2_83 rfl rfl
 (w_callV (p' := 88) f_2_85 rfl rfl rfl rfl rfl (r := []) rfl rfl (kV rk_1 fun s110 h110 =>
 w_aload_n (p' := 89) f_2_88 rfl rfl
 (w_getfield (p' := 92) f_2_89 rfl (x := .inr (.inr (1, 0, 0))) rfl rfl
 (w_getfield (p' := 95) f_2_92 rfl (x := .inl (s110 1 0 0 0)) rfl rfl
 (w_iret f_2_95 rk_2 h110)))) h109)))) h108)))) h107)))) h106)))) (h105.1 c111)))))
 (fun c111 => w_iconst (p' := 45) f_2_44 rfl
 (w_iret f_2_45 rk_2 (h105.2 c111)))))))))))) h104))) h103))) h102))) h101)) h))
/-! ClosedRooms.end(I)Z -/
theorem f_3_0 : fnd 3 0 = some (0, .iload_n 1, 1, 0, 0, 0, 0) := ceB_eq (by decide +kernel)
theorem f_3_1 : fnd 3 1 = some (1, .ifCond .lt 14, 3, 0, 0, 0, 0) := ceB_eq (by decide +kernel)
theorem f_3_4 : fnd 3 4 = some (4, .iload_n 1, 1, 0, 0, 0, 0) := ceB_eq (by decide +kernel)
theorem f_3_5 : fnd 3 5 = some (5, .aload_n 0, 1, 0, 0, 0, 0) := ceB_eq (by decide +kernel)
theorem f_3_6 : fnd 3 6 = some (6, .getfield 10, 3, 0, 0, 0, 0) := ceB_eq (by decide +kernel)
theorem f_3_9 : fnd 3 9 = some (9, .getfield 76, 3, 1, 0, 0, 0) := ceB_eq (by decide +kernel)
theorem f_3_12 : fnd 3 12 = some (12, .if_icmp .le 5, 3, 0, 0, 0, 0) := ceB_eq (by decide +kernel)
theorem f_3_15 : fnd 3 15 = some (15, .iconst 0, 1, 0, 0, 0, 0) := ceB_eq (by decide +kernel)
theorem f_3_16 : fnd 3 16 = some (16, .ireturn, 1, 0, 0, 0, 0) := ceB_eq (by decide +kernel)
theorem f_3_17 : fnd 3 17 = some (17, .aload_n 0, 1, 0, 0, 0, 0) := ceB_eq (by decide +kernel)
theorem f_3_18 : fnd 3 18 = some (18, .getfield 10, 3, 0, 0, 0, 0) := ceB_eq (by decide +kernel)
theorem f_3_21 : fnd 3 21 = some (21, .iload_n 1, 1, 0, 0, 0, 0) := ceB_eq (by decide +kernel)
theorem f_3_22 : fnd 3 22 = some (22, .putfield 76, 3, 1, 0, 0, 0) := ceB_eq (by decide +kernel)
theorem f_3_25 : fnd 3 25 = some (25, .iconst 1, 1, 0, 0, 0, 0) := ceB_eq (by decide +kernel)
theorem f_3_26 : fnd 3 26 = some (26, .ireturn, 1, 0, 0, 0, 0) := ceB_eq (by decide +kernel)
theorem rk_3 : rkm 3 = 1 := by decide +kernel
theorem ml_3 : (mth 3).2.1 = 2 := by decide +kernel
set_option maxRecDepth 100000 in
theorem T_X_end (k0 i0 x1 : Int) (σ : ST) (Q : Option AV → ST → Prop) (h :
  (((x1 < 0 : Prop) →
    ((0 : Int) = 0 ∨ (0 : Int) = 1) ∧ Q (some (.inl 0)) σ) ∧
  (¬ (x1 < 0) →
    (((x1 ≤ (σ 1 0 0 0) : Prop) →
      ((1 : Int) = 0 ∨ (1 : Int) = 1) ∧ Q (some (.inl 1)) (up σ 1 0 0 0 x1)) ∧
    (¬ (x1 ≤ (σ 1 0 0 0)) →
      ((0 : Int) = 0 ∨ (0 : Int) = 1) ∧ Q (some (.inl 0)) σ))))) :
  wpM m_X_end [.inr (.inr (0, k0, i0)), .inl x1] σ Q :=
 wpM_of ml_3 (L := [some (.inr (.inr (0, k0, i0))), some (.inl x1)]) rfl
 (w_iload_n (p' := 1) f_3_0 rfl rfl
 (w_if (p' := 15) (q' := 4) f_3_1 rfl rfl
 (fun c102 => w_iconst (p' := 16) f_3_15 rfl
 (w_zret f_3_16 rk_3 (h.1 c102).1 (h.1 c102).2))
 (fun c102 => w_iload_n (p' := 5) f_3_4 rfl rfl
 (w_aload_n (p' := 6) f_3_5 rfl rfl
 (w_getfield (p' := 9) f_3_6 rfl (x := .inr (.inr (1, 0, 0))) rfl rfl
 (w_getfield (p' := 12) f_3_9 rfl (x := .inl (σ 1 0 0 0)) rfl rfl
 (w_icmp (p' := 17) (q' := 15) f_3_12 rfl rfl
 (fun c101 => w_aload_n (p' := 18) f_3_17 rfl rfl
 (w_getfield (p' := 21) f_3_18 rfl (x := .inr (.inr (1, 0, 0))) rfl rfl
 (w_iload_n (p' := 22) f_3_21 rfl rfl
 (w_putI (p' := 25) f_3_22 rfl rfl (c' := 0) rfl rfl
 (w_iconst (p' := 26) f_3_25 rfl
 (w_zret f_3_26 rk_3 ((h.2 c102).1 c101).1 ((h.2 c102).1 c101).2))))))
 (fun c101 => w_iconst (p' := 16) f_3_15 rfl
 (w_zret f_3_16 rk_3 ((h.2 c102).2 c101).1 ((h.2 c102).2 c101).2)))))))))
/-! ClosedRooms$Script.begin()V -/
theorem f_4_0 : fnd 4 0 = some (0, .aload_n 0, 1, 0, 0, 0, 0) := ceB_eq (by decide +kernel)
theorem f_4_1 : fnd 4 1 = some (1, .iconst 0, 1, 0, 0, 0, 0) := ceB_eq (by decide +kernel)
theorem f_4_2 : fnd 4 2 = some (2, .putfield 9, 3, 2, 0, 0, 0) := ceB_eq (by decide +kernel)
theorem f_4_5 : fnd 4 5 = some (5, .return_, 1, 0, 0, 0, 0) := ceB_eq (by decide +kernel)
theorem rk_4 : rkm 4 = 4 := by decide +kernel
theorem ml_4 : (mth 4).2.1 = 1 := by decide +kernel
set_option maxRecDepth 100000 in
theorem T_Script_begin (k0 i0 : Int) (σ : ST) (Q : Option AV → ST → Prop) (h :
  Q none (up σ 5 k0 i0 0 0)) :
  wpM m_Script_begin [.inr (.inr (5, k0, i0))] σ Q :=
 wpM_of ml_4 (L := [some (.inr (.inr (5, k0, i0)))]) rfl
 (w_aload_n (p' := 1) f_4_0 rfl rfl
 (w_iconst (p' := 2) f_4_1 rfl
 (w_putI (p' := 5) f_4_2 rfl rfl (c' := 0) rfl rfl
 (w_vret f_4_5 rk_4 h))))
/-! ClosedRooms$Tape.begin()V -/
theorem f_5_0 : fnd 5 0 = some (0, .aload_n 0, 1, 0, 0, 0, 0) := ceB_eq (by decide +kernel)
theorem f_5_1 : fnd 5 1 = some (1, .iconst 0, 1, 0, 0, 0, 0) := ceB_eq (by decide +kernel)
theorem f_5_2 : fnd 5 2 = some (2, .putfield 19, 3, 1, 2, 2, 0) := ceB_eq (by decide +kernel)
theorem f_5_5 : fnd 5 5 = some (5, .aload_n 0, 1, 0, 0, 0, 0) := ceB_eq (by decide +kernel)
theorem f_5_6 : fnd 5 6 = some (6, .getfield 32, 3, 1, 5, 5, 0) := ceB_eq (by decide +kernel)
theorem f_5_9 : fnd 5 9 = some (9, .invokevirtual 53, 3, 4, 1, 2, 0) := ceB_eq (by decide +kernel)
theorem f_5_12 : fnd 5 12 = some (12, .iconst 0, 1, 0, 0, 0, 0) := ceB_eq (by decide +kernel)
theorem f_5_13 : fnd 5 13 = some (13, .istore_n 1, 1, 0, 0, 0, 0) := ceB_eq (by decide +kernel)
theorem f_5_14 : fnd 5 14 = some (14, .iload_n 1, 1, 0, 0, 0, 0) := ceB_eq (by decide +kernel)
theorem f_5_15 : fnd 5 15 = some (15, .iconst 4, 1, 0, 0, 0, 0) := ceB_eq (by decide +kernel)
theorem f_5_16 : fnd 5 16 = some (16, .if_icmp .ge 27, 3, 0, 0, 0, 0) := ceB_eq (by decide +kernel)
theorem f_5_19 : fnd 5 19 = some (19, .aload_n 0, 1, 0, 0, 0, 0) := ceB_eq (by decide +kernel)
theorem f_5_20 : fnd 5 20 = some (20, .getfield 22, 3, 1, 3, 3, 0) := ceB_eq (by decide +kernel)
theorem f_5_23 : fnd 5 23 = some (23, .iload_n 1, 1, 0, 0, 0, 0) := ceB_eq (by decide +kernel)
theorem f_5_24 : fnd 5 24 = some (24, .getstatic 54, 3, 64, 0, 0, 0) := ceB_eq (by decide +kernel)
theorem f_5_27 : fnd 5 27 = some (27, .iload_n 1, 1, 0, 0, 0, 0) := ceB_eq (by decide +kernel)
theorem f_5_28 : fnd 5 28 = some (28, .iaload, 1, 0, 0, 0, 0) := ceB_eq (by decide +kernel)
theorem f_5_29 : fnd 5 29 = some (29, .iastore, 1, 0, 0, 0, 0) := ceB_eq (by decide +kernel)
theorem f_5_30 : fnd 5 30 = some (30, .aload_n 0, 1, 0, 0, 0, 0) := ceB_eq (by decide +kernel)
theorem f_5_31 : fnd 5 31 = some (31, .getfield 25, 3, 1, 4, 4, 0) := ceB_eq (by decide +kernel)
theorem f_5_34 : fnd 5 34 = some (34, .iload_n 1, 1, 0, 0, 0, 0) := ceB_eq (by decide +kernel)
theorem f_5_35 : fnd 5 35 = some (35, .iconst 0, 1, 0, 0, 0, 0) := ceB_eq (by decide +kernel)
theorem f_5_36 : fnd 5 36 = some (36, .bastore, 1, 0, 0, 0, 0) := ceB_eq (by decide +kernel)
theorem f_5_37 : fnd 5 37 = some (37, .iinc 1 1, 3, 0, 0, 0, 0) := ceB_eq (by decide +kernel)
theorem f_5_40 : fnd 5 40 = some (40, .goto (-26), 3, 0, 0, 0, 0) := ceB_eq (by decide +kernel)
theorem f_5_43 : fnd 5 43 = some (43, .return_, 1, 0, 0, 0, 0) := ceB_eq (by decide +kernel)
theorem rk_5 : rkm 5 = 4 := by decide +kernel
theorem ml_5 : (mth 5).2.1 = 2 := by decide +kernel
set_option maxRecDepth 100000 in
theorem T_Tape_begin (k0 i0 : Int) (σ : ST) (Q : Option AV → ST → Prop) (h :
  wpM m_Script_begin [.inr (.inr (5, 4, 0))] (up σ 1 k0 i0 2 0) (asV fun s101 =>
  wp m_Tape_begin (14, [some (.inr (.inr (1, k0, i0))), some (.inl 0)], [], s101) Q)) :
  wpM m_Tape_begin [.inr (.inr (1, k0, i0))] σ Q :=
 wpM_of ml_5 (L := [some (.inr (.inr (1, k0, i0))), none]) rfl
 (w_aload_n (p' := 1) f_5_0 rfl rfl
 (w_iconst (p' := 2) f_5_1 rfl
 (w_putI (p' := 5) f_5_2 rfl rfl (c' := 2) rfl rfl
 (w_aload_n (p' := 6) f_5_5 rfl rfl
 (w_getfield (p' := 9) f_5_6 rfl (x := .inr (.inr (5, 4, 0))) rfl rfl
 (w_callV (p' := 12) f_5_9 rfl rfl rfl rfl rfl (r := []) rfl rfl (kV rk_4 fun s101 h101 =>
 w_iconst (p' := 13) f_5_12 rfl
 (w_istore_n (p' := 14) f_5_13 (L' := [some (.inr (.inr (1, k0, i0))), some (.inl 0)]) rfl rfl
 (h101))) h))))))
set_option maxRecDepth 100000 in
theorem T_Tape_begin_14 (k0 i0 x1 : Int) (σ : ST) (Q : Option AV → ST → Prop) (h :
  (((4 ≤ x1 : Prop) →
    Q none σ) ∧
  (¬ (4 ≤ x1) →
    ((0 : Int) ≤ x1 ∧ (x1 : Int) < 4) ∧
    ((0 : Int) ≤ x1 ∧ (x1 : Int) < 4) ∧
    (((0 : Int) ≤ x1 ∧ (x1 : Int) < 4) ∧ ((0 : Int) = 0 ∨ (0 : Int) = 1)) ∧
    wp m_Tape_begin (14, [some (.inr (.inr (1, k0, i0))), some (.inl (wr (x1 + 1)))], [], (up (up σ 3 0 0 x1 (stv 64 x1)) 4 0 0 x1 0)) Q))) :
  wp m_Tape_begin (14, [some (.inr (.inr (1, k0, i0))), some (.inl x1)], [], σ) Q :=
 w_iload_n (p' := 15) f_5_14 rfl rfl
 (w_iconst (p' := 16) f_5_15 rfl
 (w_icmp (p' := 43) (q' := 19) f_5_16 rfl rfl
 (fun c101 => w_vret f_5_43 rk_5 (h.1 c101))
 (fun c101 => w_aload_n (p' := 20) f_5_19 rfl rfl
 (w_getfield (p' := 23) f_5_20 rfl (x := .inr (.inr (3, 0, 0))) rfl rfl
 (w_iload_n (p' := 24) f_5_23 rfl rfl
 (w_getstatic (p' := 27) f_5_24 rfl
 (w_iload_n (p' := 28) f_5_27 rfl rfl
 (w_ialoadS (p' := 29) f_5_28 rfl (n := 4) rfl (h.2 c101).1 rfl
 (w_iastore (p' := 30) f_5_29 rfl (n := 4) rfl (h.2 c101).2.1 rfl
 (w_aload_n (p' := 31) f_5_30 rfl rfl
 (w_getfield (p' := 34) f_5_31 rfl (x := .inr (.inr (4, 0, 0))) rfl rfl
 (w_iload_n (p' := 35) f_5_34 rfl rfl
 (w_iconst (p' := 36) f_5_35 rfl
 (w_bastore (p' := 37) f_5_36 rfl (n := 4) rfl (h.2 c101).2.2.1 rfl
 (w_iinc (p' := 40) f_5_37 rfl (L' := [some (.inr (.inr (1, k0, i0))), some (.inl (wr (x1 + 1)))]) rfl rfl
 (w_goto (p' := 14) f_5_40 rfl
 ((h.2 c101).2.2.2)))))))))))))))))
/-! ClosedRooms$Tape.stands(I)Z -/
theorem f_6_0 : fnd 6 0 = some (0, .aload_n 0, 1, 0, 0, 0, 0) := ceB_eq (by decide +kernel)
theorem f_6_1 : fnd 6 1 = some (1, .getfield 19, 3, 1, 2, 2, 0) := ceB_eq (by decide +kernel)
theorem f_6_4 : fnd 6 4 = some (4, .ifCond .lt 41, 3, 0, 0, 0, 0) := ceB_eq (by decide +kernel)
theorem f_6_7 : fnd 6 7 = some (7, .aload_n 0, 1, 0, 0, 0, 0) := ceB_eq (by decide +kernel)
theorem f_6_8 : fnd 6 8 = some (8, .getfield 19, 3, 1, 2, 2, 0) := ceB_eq (by decide +kernel)
theorem f_6_11 : fnd 6 11 = some (11, .aload_n 0, 1, 0, 0, 0, 0) := ceB_eq (by decide +kernel)
theorem f_6_12 : fnd 6 12 = some (12, .getfield 9, 3, 1, 0, 0, 0) := ceB_eq (by decide +kernel)
theorem f_6_15 : fnd 6 15 = some (15, .if_icmp .ge 30, 3, 0, 0, 0, 0) := ceB_eq (by decide +kernel)
theorem f_6_18 : fnd 6 18 = some (18, .aload_n 0, 1, 0, 0, 0, 0) := ceB_eq (by decide +kernel)
theorem f_6_19 : fnd 6 19 = some (19, .getfield 19, 3, 1, 2, 2, 0) := ceB_eq (by decide +kernel)
theorem f_6_22 : fnd 6 22 = some (22, .sipush 320, 3, 0, 0, 0, 0) := ceB_eq (by decide +kernel)
theorem f_6_25 : fnd 6 25 = some (25, .if_icmp .ge 20, 3, 0, 0, 0, 0) := ceB_eq (by decide +kernel)
theorem f_6_28 : fnd 6 28 = some (28, .aload_n 0, 1, 0, 0, 0, 0) := ceB_eq (by decide +kernel)
theorem f_6_29 : fnd 6 29 = some (29, .getfield 15, 3, 1, 1, 1, 0) := ceB_eq (by decide +kernel)
theorem f_6_32 : fnd 6 32 = some (32, .aload_n 0, 1, 0, 0, 0, 0) := ceB_eq (by decide +kernel)
theorem f_6_33 : fnd 6 33 = some (33, .getfield 19, 3, 1, 2, 2, 0) := ceB_eq (by decide +kernel)
theorem f_6_36 : fnd 6 36 = some (36, .iaload, 1, 0, 0, 0, 0) := ceB_eq (by decide +kernel)
theorem f_6_37 : fnd 6 37 = some (37, .iload_n 1, 1, 0, 0, 0, 0) := ceB_eq (by decide +kernel)
theorem f_6_38 : fnd 6 38 = some (38, .if_icmp .ne 7, 3, 0, 0, 0, 0) := ceB_eq (by decide +kernel)
theorem f_6_41 : fnd 6 41 = some (41, .iconst 1, 1, 0, 0, 0, 0) := ceB_eq (by decide +kernel)
theorem f_6_42 : fnd 6 42 = some (42, .goto 4, 3, 0, 0, 0, 0) := ceB_eq (by decide +kernel)
theorem f_6_45 : fnd 6 45 = some (45, .iconst 0, 1, 0, 0, 0, 0) := ceB_eq (by decide +kernel)
theorem f_6_46 : fnd 6 46 = some (46, .ireturn, 1, 0, 0, 0, 0) := ceB_eq (by decide +kernel)
theorem rk_6 : rkm 6 = 1 := by decide +kernel
theorem ml_6 : (mth 6).2.1 = 2 := by decide +kernel
set_option maxRecDepth 100000 in
theorem T_Tape_stands (k0 i0 x1 : Int) (σ : ST) (Q : Option AV → ST → Prop) (h :
  ((((σ 1 k0 i0 2) < 0 : Prop) →
    ((0 : Int) = 0 ∨ (0 : Int) = 1) ∧ Q (some (.inl 0)) σ) ∧
  (¬ ((σ 1 k0 i0 2) < 0) →
    ((((σ 1 k0 i0 0) ≤ (σ 1 k0 i0 2) : Prop) →
      ((0 : Int) = 0 ∨ (0 : Int) = 1) ∧ Q (some (.inl 0)) σ) ∧
    (¬ ((σ 1 k0 i0 0) ≤ (σ 1 k0 i0 2)) →
      (((320 ≤ (σ 1 k0 i0 2) : Prop) →
        ((0 : Int) = 0 ∨ (0 : Int) = 1) ∧ Q (some (.inl 0)) σ) ∧
      (¬ (320 ≤ (σ 1 k0 i0 2)) →
        ((0 : Int) ≤ (σ 1 k0 i0 2) ∧ ((σ 1 k0 i0 2) : Int) < 320) ∧
        ((((σ 2 0 0 (σ 1 k0 i0 2)) ≠ x1 : Prop) →
          ((0 : Int) = 0 ∨ (0 : Int) = 1) ∧ Q (some (.inl 0)) σ) ∧
        (¬ ((σ 2 0 0 (σ 1 k0 i0 2)) ≠ x1) →
          ((1 : Int) = 0 ∨ (1 : Int) = 1) ∧ Q (some (.inl 1)) σ))))))))) :
  wpM m_Tape_stands [.inr (.inr (1, k0, i0)), .inl x1] σ Q :=
 wpM_of ml_6 (L := [some (.inr (.inr (1, k0, i0))), some (.inl x1)]) rfl
 (w_aload_n (p' := 1) f_6_0 rfl rfl
 (w_getfield (p' := 4) f_6_1 rfl (x := .inl (σ 1 k0 i0 2)) rfl rfl
 (w_if (p' := 45) (q' := 7) f_6_4 rfl rfl
 (fun c104 => w_iconst (p' := 46) f_6_45 rfl
 (w_zret f_6_46 rk_6 (h.1 c104).1 (h.1 c104).2))
 (fun c104 => w_aload_n (p' := 8) f_6_7 rfl rfl
 (w_getfield (p' := 11) f_6_8 rfl (x := .inl (σ 1 k0 i0 2)) rfl rfl
 (w_aload_n (p' := 12) f_6_11 rfl rfl
 (w_getfield (p' := 15) f_6_12 rfl (x := .inl (σ 1 k0 i0 0)) rfl rfl
 (w_icmp (p' := 45) (q' := 18) f_6_15 rfl rfl
 (fun c103 => w_iconst (p' := 46) f_6_45 rfl
 (w_zret f_6_46 rk_6 ((h.2 c104).1 c103).1 ((h.2 c104).1 c103).2))
 (fun c103 => w_aload_n (p' := 19) f_6_18 rfl rfl
 (w_getfield (p' := 22) f_6_19 rfl (x := .inl (σ 1 k0 i0 2)) rfl rfl
 (w_sipush (p' := 25) f_6_22 rfl
 (w_icmp (p' := 45) (q' := 28) f_6_25 rfl rfl
 (fun c102 => w_iconst (p' := 46) f_6_45 rfl
 (w_zret f_6_46 rk_6 (((h.2 c104).2 c103).1 c102).1 (((h.2 c104).2 c103).1 c102).2))
 (fun c102 => w_aload_n (p' := 29) f_6_28 rfl rfl
 (w_getfield (p' := 32) f_6_29 rfl (x := .inr (.inr (2, 0, 0))) rfl rfl
 (w_aload_n (p' := 33) f_6_32 rfl rfl
 (w_getfield (p' := 36) f_6_33 rfl (x := .inl (σ 1 k0 i0 2)) rfl rfl
 (w_iaload (p' := 37) f_6_36 rfl (n := 320) rfl (((h.2 c104).2 c103).2 c102).1 rfl
 (w_iload_n (p' := 38) f_6_37 rfl rfl
 (w_icmp (p' := 45) (q' := 41) f_6_38 rfl rfl
 (fun c101 => w_iconst (p' := 46) f_6_45 rfl
 (w_zret f_6_46 rk_6 ((((h.2 c104).2 c103).2 c102).2.1 c101).1 ((((h.2 c104).2 c103).2 c102).2.1 c101).2))
 (fun c101 => w_iconst (p' := 42) f_6_41 rfl
 (w_goto (p' := 46) f_6_42 rfl
 (w_zret f_6_46 rk_6 ((((h.2 c104).2 c103).2 c102).2.2 c101).1 ((((h.2 c104).2 c103).2 c102).2.2 c101).2))))))))))))))))))))))
/-! ClosedRooms$Tape.skipBlanks()V -/
theorem f_7_0 : fnd 7 0 = some (0, .aload_n 0, 1, 0, 0, 0, 0) := ceB_eq (by decide +kernel)
theorem f_7_1 : fnd 7 1 = some (1, .getfield 19, 3, 1, 2, 2, 0) := ceB_eq (by decide +kernel)
theorem f_7_4 : fnd 7 4 = some (4, .aload_n 0, 1, 0, 0, 0, 0) := ceB_eq (by decide +kernel)
theorem f_7_5 : fnd 7 5 = some (5, .getfield 9, 3, 1, 0, 0, 0) := ceB_eq (by decide +kernel)
theorem f_7_8 : fnd 7 8 = some (8, .if_icmp .ge 25, 3, 0, 0, 0, 0) := ceB_eq (by decide +kernel)
theorem f_7_11 : fnd 7 11 = some (11, .aload_n 0, 1, 0, 0, 0, 0) := ceB_eq (by decide +kernel)
theorem f_7_12 : fnd 7 12 = some (12, .bipush 32, 2, 0, 0, 0, 0) := ceB_eq (by decide +kernel)
theorem f_7_14 : fnd 7 14 = some (14, .invokevirtual 49, 3, 6, 2, 1, 0) := ceB_eq (by decide +kernel)
theorem f_7_17 : fnd 7 17 = some (17, .ifCond .eq 16, 3, 0, 0, 0, 0) := ceB_eq (by decide +kernel)
theorem f_7_20 : fnd 7 20 = some (20, .aload_n 0, 1, 0, 0, 0, 0) := ceB_eq (by decide +kernel)
theorem f_7_21 : fnd 7 21 = some (21, .dup, 1, 0, 0, 0, 0) := ceB_eq (by decide +kernel)
theorem f_7_22 : fnd 7 22 = some (22, .getfield 19, 3, 1, 2, 2, 0) := ceB_eq (by decide +kernel)
theorem f_7_25 : fnd 7 25 = some (25, .iconst 1, 1, 0, 0, 0, 0) := ceB_eq (by decide +kernel)
theorem f_7_26 : fnd 7 26 = some (26, .iadd, 1, 0, 0, 0, 0) := ceB_eq (by decide +kernel)
theorem f_7_27 : fnd 7 27 = some (27, .putfield 19, 3, 1, 2, 2, 0) := ceB_eq (by decide +kernel)
theorem f_7_30 : fnd 7 30 = some (30, .goto (-30), 3, 0, 0, 0, 0) := ceB_eq (by decide +kernel)
theorem f_7_33 : fnd 7 33 = some (33, .return_, 1, 0, 0, 0, 0) := ceB_eq (by decide +kernel)
theorem rk_7 : rkm 7 = 4 := by decide +kernel
theorem ml_7 : (mth 7).2.1 = 1 := by decide +kernel
set_option maxRecDepth 100000 in
theorem T_Tape_skipBlanks (k0 i0 : Int) (σ : ST) (Q : Option AV → ST → Prop) (h :
  ((((σ 1 k0 i0 0) ≤ (σ 1 k0 i0 2) : Prop) →
    Q none σ) ∧
  (¬ ((σ 1 k0 i0 0) ≤ (σ 1 k0 i0 2)) →
    wpM m_Tape_stands [.inr (.inr (1, k0, i0)), .inl 32] σ (asI fun r101 s101 =>
    (((r101 = 0 : Prop) →
      Q none s101) ∧
    (¬ (r101 = 0) →
      wp m_Tape_skipBlanks (0, [some (.inr (.inr (1, k0, i0)))], [], (up s101 1 k0 i0 2 (wr ((s101 1 k0 i0 2) + 1)))) Q)))))) :
  wpM m_Tape_skipBlanks [.inr (.inr (1, k0, i0))] σ Q :=
 wpM_of ml_7 (L := [some (.inr (.inr (1, k0, i0)))]) rfl
 (w_aload_n (p' := 1) f_7_0 rfl rfl
 (w_getfield (p' := 4) f_7_1 rfl (x := .inl (σ 1 k0 i0 2)) rfl rfl
 (w_aload_n (p' := 5) f_7_4 rfl rfl
 (w_getfield (p' := 8) f_7_5 rfl (x := .inl (σ 1 k0 i0 0)) rfl rfl
 (w_icmp (p' := 33) (q' := 11) f_7_8 rfl rfl
 (fun c103 => w_vret f_7_33 rk_7 (h.1 c103))
 (fun c103 => w_aload_n (p' := 12) f_7_11 rfl rfl
 (w_bipush (p' := 14) f_7_12 rfl
 (w_callV (p' := 17) f_7_14 rfl rfl rfl rfl rfl (r := []) rfl rfl (kI (.inr rk_6) fun r101 s101 h101 =>
 w_if (p' := 33) (q' := 20) f_7_17 rfl rfl
 (fun c102 => w_vret f_7_33 rk_7 (h101.1 c102))
 (fun c102 => w_aload_n (p' := 21) f_7_20 rfl rfl
 (w_dupR (p' := 22) f_7_21 rfl
 (w_getfield (p' := 25) f_7_22 rfl (x := .inl (s101 1 k0 i0 2)) rfl rfl
 (w_iconst (p' := 26) f_7_25 rfl
 (w_iadd (p' := 27) f_7_26 rfl
 (w_putI (p' := 30) f_7_27 rfl rfl (c' := 2) rfl rfl
 (w_goto (p' := 0) f_7_30 rfl
 ((h101.2 c102)))))))))) (h.2 c103)))))))))
set_option maxRecDepth 100000 in
theorem T_Tape_skipBlanks_0 (k0 i0 : Int) (σ : ST) (Q : Option AV → ST → Prop) (h :
  ((((σ 1 k0 i0 0) ≤ (σ 1 k0 i0 2) : Prop) →
    Q none σ) ∧
  (¬ ((σ 1 k0 i0 0) ≤ (σ 1 k0 i0 2)) →
    wpM m_Tape_stands [.inr (.inr (1, k0, i0)), .inl 32] σ (asI fun r101 s101 =>
    (((r101 = 0 : Prop) →
      Q none s101) ∧
    (¬ (r101 = 0) →
      wp m_Tape_skipBlanks (0, [some (.inr (.inr (1, k0, i0)))], [], (up s101 1 k0 i0 2 (wr ((s101 1 k0 i0 2) + 1)))) Q)))))) :
  wp m_Tape_skipBlanks (0, [some (.inr (.inr (1, k0, i0)))], [], σ) Q :=
 w_aload_n (p' := 1) f_7_0 rfl rfl
 (w_getfield (p' := 4) f_7_1 rfl (x := .inl (σ 1 k0 i0 2)) rfl rfl
 (w_aload_n (p' := 5) f_7_4 rfl rfl
 (w_getfield (p' := 8) f_7_5 rfl (x := .inl (σ 1 k0 i0 0)) rfl rfl
 (w_icmp (p' := 33) (q' := 11) f_7_8 rfl rfl
 (fun c103 => w_vret f_7_33 rk_7 (h.1 c103))
 (fun c103 => w_aload_n (p' := 12) f_7_11 rfl rfl
 (w_bipush (p' := 14) f_7_12 rfl
 (w_callV (p' := 17) f_7_14 rfl rfl rfl rfl rfl (r := []) rfl rfl (kI (.inr rk_6) fun r101 s101 h101 =>
 w_if (p' := 33) (q' := 20) f_7_17 rfl rfl
 (fun c102 => w_vret f_7_33 rk_7 (h101.1 c102))
 (fun c102 => w_aload_n (p' := 21) f_7_20 rfl rfl
 (w_dupR (p' := 22) f_7_21 rfl
 (w_getfield (p' := 25) f_7_22 rfl (x := .inl (s101 1 k0 i0 2)) rfl rfl
 (w_iconst (p' := 26) f_7_25 rfl
 (w_iadd (p' := 27) f_7_26 rfl
 (w_putI (p' := 30) f_7_27 rfl rfl (c' := 2) rfl rfl
 (w_goto (p' := 0) f_7_30 rfl
 ((h101.2 c102)))))))))) (h.2 c103))))))))
/-! ClosedRooms$Tape.skipLetters()V -/
theorem f_8_0 : fnd 8 0 = some (0, .aload_n 0, 1, 0, 0, 0, 0) := ceB_eq (by decide +kernel)
theorem f_8_1 : fnd 8 1 = some (1, .getfield 19, 3, 1, 2, 2, 0) := ceB_eq (by decide +kernel)
theorem f_8_4 : fnd 8 4 = some (4, .ifCond .lt 65, 3, 0, 0, 0, 0) := ceB_eq (by decide +kernel)
theorem f_8_7 : fnd 8 7 = some (7, .aload_n 0, 1, 0, 0, 0, 0) := ceB_eq (by decide +kernel)
theorem f_8_8 : fnd 8 8 = some (8, .getfield 19, 3, 1, 2, 2, 0) := ceB_eq (by decide +kernel)
theorem f_8_11 : fnd 8 11 = some (11, .aload_n 0, 1, 0, 0, 0, 0) := ceB_eq (by decide +kernel)
theorem f_8_12 : fnd 8 12 = some (12, .getfield 9, 3, 1, 0, 0, 0) := ceB_eq (by decide +kernel)
theorem f_8_15 : fnd 8 15 = some (15, .if_icmp .ge 54, 3, 0, 0, 0, 0) := ceB_eq (by decide +kernel)
theorem f_8_18 : fnd 8 18 = some (18, .aload_n 0, 1, 0, 0, 0, 0) := ceB_eq (by decide +kernel)
theorem f_8_19 : fnd 8 19 = some (19, .getfield 19, 3, 1, 2, 2, 0) := ceB_eq (by decide +kernel)
theorem f_8_22 : fnd 8 22 = some (22, .sipush 320, 3, 0, 0, 0, 0) := ceB_eq (by decide +kernel)
theorem f_8_25 : fnd 8 25 = some (25, .if_icmp .ge 44, 3, 0, 0, 0, 0) := ceB_eq (by decide +kernel)
theorem f_8_28 : fnd 8 28 = some (28, .aload_n 0, 1, 0, 0, 0, 0) := ceB_eq (by decide +kernel)
theorem f_8_29 : fnd 8 29 = some (29, .getfield 15, 3, 1, 1, 1, 0) := ceB_eq (by decide +kernel)
theorem f_8_32 : fnd 8 32 = some (32, .aload_n 0, 1, 0, 0, 0, 0) := ceB_eq (by decide +kernel)
theorem f_8_33 : fnd 8 33 = some (33, .getfield 19, 3, 1, 2, 2, 0) := ceB_eq (by decide +kernel)
theorem f_8_36 : fnd 8 36 = some (36, .iaload, 1, 0, 0, 0, 0) := ceB_eq (by decide +kernel)
theorem f_8_37 : fnd 8 37 = some (37, .bipush 97, 2, 0, 0, 0, 0) := ceB_eq (by decide +kernel)
theorem f_8_39 : fnd 8 39 = some (39, .if_icmp .lt 30, 3, 0, 0, 0, 0) := ceB_eq (by decide +kernel)
theorem f_8_42 : fnd 8 42 = some (42, .aload_n 0, 1, 0, 0, 0, 0) := ceB_eq (by decide +kernel)
theorem f_8_43 : fnd 8 43 = some (43, .getfield 15, 3, 1, 1, 1, 0) := ceB_eq (by decide +kernel)
theorem f_8_46 : fnd 8 46 = some (46, .aload_n 0, 1, 0, 0, 0, 0) := ceB_eq (by decide +kernel)
theorem f_8_47 : fnd 8 47 = some (47, .getfield 19, 3, 1, 2, 2, 0) := ceB_eq (by decide +kernel)
theorem f_8_50 : fnd 8 50 = some (50, .iaload, 1, 0, 0, 0, 0) := ceB_eq (by decide +kernel)
theorem f_8_51 : fnd 8 51 = some (51, .bipush 122, 2, 0, 0, 0, 0) := ceB_eq (by decide +kernel)
theorem f_8_53 : fnd 8 53 = some (53, .if_icmp .gt 16, 3, 0, 0, 0, 0) := ceB_eq (by decide +kernel)
theorem f_8_56 : fnd 8 56 = some (56, .aload_n 0, 1, 0, 0, 0, 0) := ceB_eq (by decide +kernel)
theorem f_8_57 : fnd 8 57 = some (57, .dup, 1, 0, 0, 0, 0) := ceB_eq (by decide +kernel)
theorem f_8_58 : fnd 8 58 = some (58, .getfield 19, 3, 1, 2, 2, 0) := ceB_eq (by decide +kernel)
theorem f_8_61 : fnd 8 61 = some (61, .iconst 1, 1, 0, 0, 0, 0) := ceB_eq (by decide +kernel)
theorem f_8_62 : fnd 8 62 = some (62, .iadd, 1, 0, 0, 0, 0) := ceB_eq (by decide +kernel)
theorem f_8_63 : fnd 8 63 = some (63, .putfield 19, 3, 1, 2, 2, 0) := ceB_eq (by decide +kernel)
theorem f_8_66 : fnd 8 66 = some (66, .goto (-66), 3, 0, 0, 0, 0) := ceB_eq (by decide +kernel)
theorem f_8_69 : fnd 8 69 = some (69, .return_, 1, 0, 0, 0, 0) := ceB_eq (by decide +kernel)
theorem rk_8 : rkm 8 = 4 := by decide +kernel
theorem ml_8 : (mth 8).2.1 = 1 := by decide +kernel
set_option maxRecDepth 100000 in
theorem T_Tape_skipLetters (k0 i0 : Int) (σ : ST) (Q : Option AV → ST → Prop) (h :
  ((((σ 1 k0 i0 2) < 0 : Prop) →
    Q none σ) ∧
  (¬ ((σ 1 k0 i0 2) < 0) →
    ((((σ 1 k0 i0 0) ≤ (σ 1 k0 i0 2) : Prop) →
      Q none σ) ∧
    (¬ ((σ 1 k0 i0 0) ≤ (σ 1 k0 i0 2)) →
      (((320 ≤ (σ 1 k0 i0 2) : Prop) →
        Q none σ) ∧
      (¬ (320 ≤ (σ 1 k0 i0 2)) →
        ((0 : Int) ≤ (σ 1 k0 i0 2) ∧ ((σ 1 k0 i0 2) : Int) < 320) ∧
        ((((σ 2 0 0 (σ 1 k0 i0 2)) < 97 : Prop) →
          Q none σ) ∧
        (¬ ((σ 2 0 0 (σ 1 k0 i0 2)) < 97) →
          ((0 : Int) ≤ (σ 1 k0 i0 2) ∧ ((σ 1 k0 i0 2) : Int) < 320) ∧
          (((122 < (σ 2 0 0 (σ 1 k0 i0 2)) : Prop) →
            Q none σ) ∧
          (¬ (122 < (σ 2 0 0 (σ 1 k0 i0 2))) →
            wp m_Tape_skipLetters (0, [some (.inr (.inr (1, k0, i0)))], [], (up σ 1 k0 i0 2 (wr ((σ 1 k0 i0 2) + 1)))) Q))))))))))) :
  wpM m_Tape_skipLetters [.inr (.inr (1, k0, i0))] σ Q :=
 wpM_of ml_8 (L := [some (.inr (.inr (1, k0, i0)))]) rfl
 (w_aload_n (p' := 1) f_8_0 rfl rfl
 (w_getfield (p' := 4) f_8_1 rfl (x := .inl (σ 1 k0 i0 2)) rfl rfl
 (w_if (p' := 69) (q' := 7) f_8_4 rfl rfl
 (fun c105 => w_vret f_8_69 rk_8 (h.1 c105))
 (fun c105 => w_aload_n (p' := 8) f_8_7 rfl rfl
 (w_getfield (p' := 11) f_8_8 rfl (x := .inl (σ 1 k0 i0 2)) rfl rfl
 (w_aload_n (p' := 12) f_8_11 rfl rfl
 (w_getfield (p' := 15) f_8_12 rfl (x := .inl (σ 1 k0 i0 0)) rfl rfl
 (w_icmp (p' := 69) (q' := 18) f_8_15 rfl rfl
 (fun c104 => w_vret f_8_69 rk_8 ((h.2 c105).1 c104))
 (fun c104 => w_aload_n (p' := 19) f_8_18 rfl rfl
 (w_getfield (p' := 22) f_8_19 rfl (x := .inl (σ 1 k0 i0 2)) rfl rfl
 (w_sipush (p' := 25) f_8_22 rfl
 (w_icmp (p' := 69) (q' := 28) f_8_25 rfl rfl
 (fun c103 => w_vret f_8_69 rk_8 (((h.2 c105).2 c104).1 c103))
 (fun c103 => w_aload_n (p' := 29) f_8_28 rfl rfl
 (w_getfield (p' := 32) f_8_29 rfl (x := .inr (.inr (2, 0, 0))) rfl rfl
 (w_aload_n (p' := 33) f_8_32 rfl rfl
 (w_getfield (p' := 36) f_8_33 rfl (x := .inl (σ 1 k0 i0 2)) rfl rfl
 (w_iaload (p' := 37) f_8_36 rfl (n := 320) rfl (((h.2 c105).2 c104).2 c103).1 rfl
 (w_bipush (p' := 39) f_8_37 rfl
 (w_icmp (p' := 69) (q' := 42) f_8_39 rfl rfl
 (fun c102 => w_vret f_8_69 rk_8 ((((h.2 c105).2 c104).2 c103).2.1 c102))
 (fun c102 => w_aload_n (p' := 43) f_8_42 rfl rfl
 (w_getfield (p' := 46) f_8_43 rfl (x := .inr (.inr (2, 0, 0))) rfl rfl
 (w_aload_n (p' := 47) f_8_46 rfl rfl
 (w_getfield (p' := 50) f_8_47 rfl (x := .inl (σ 1 k0 i0 2)) rfl rfl
 (w_iaload (p' := 51) f_8_50 rfl (n := 320) rfl ((((h.2 c105).2 c104).2 c103).2.2 c102).1 rfl
 (w_bipush (p' := 53) f_8_51 rfl
 (w_icmp (p' := 69) (q' := 56) f_8_53 rfl rfl
 (fun c101 => w_vret f_8_69 rk_8 (((((h.2 c105).2 c104).2 c103).2.2 c102).2.1 c101))
 (fun c101 => w_aload_n (p' := 57) f_8_56 rfl rfl
 (w_dupR (p' := 58) f_8_57 rfl
 (w_getfield (p' := 61) f_8_58 rfl (x := .inl (σ 1 k0 i0 2)) rfl rfl
 (w_iconst (p' := 62) f_8_61 rfl
 (w_iadd (p' := 63) f_8_62 rfl
 (w_putI (p' := 66) f_8_63 rfl rfl (c' := 2) rfl rfl
 (w_goto (p' := 0) f_8_66 rfl
 ((((((h.2 c105).2 c104).2 c103).2.2 c102).2.2 c101)))))))))))))))))))))))))))))))))))
set_option maxRecDepth 100000 in
theorem T_Tape_skipLetters_0 (k0 i0 : Int) (σ : ST) (Q : Option AV → ST → Prop) (h :
  ((((σ 1 k0 i0 2) < 0 : Prop) →
    Q none σ) ∧
  (¬ ((σ 1 k0 i0 2) < 0) →
    ((((σ 1 k0 i0 0) ≤ (σ 1 k0 i0 2) : Prop) →
      Q none σ) ∧
    (¬ ((σ 1 k0 i0 0) ≤ (σ 1 k0 i0 2)) →
      (((320 ≤ (σ 1 k0 i0 2) : Prop) →
        Q none σ) ∧
      (¬ (320 ≤ (σ 1 k0 i0 2)) →
        ((0 : Int) ≤ (σ 1 k0 i0 2) ∧ ((σ 1 k0 i0 2) : Int) < 320) ∧
        ((((σ 2 0 0 (σ 1 k0 i0 2)) < 97 : Prop) →
          Q none σ) ∧
        (¬ ((σ 2 0 0 (σ 1 k0 i0 2)) < 97) →
          ((0 : Int) ≤ (σ 1 k0 i0 2) ∧ ((σ 1 k0 i0 2) : Int) < 320) ∧
          (((122 < (σ 2 0 0 (σ 1 k0 i0 2)) : Prop) →
            Q none σ) ∧
          (¬ (122 < (σ 2 0 0 (σ 1 k0 i0 2))) →
            wp m_Tape_skipLetters (0, [some (.inr (.inr (1, k0, i0)))], [], (up σ 1 k0 i0 2 (wr ((σ 1 k0 i0 2) + 1)))) Q))))))))))) :
  wp m_Tape_skipLetters (0, [some (.inr (.inr (1, k0, i0)))], [], σ) Q :=
 w_aload_n (p' := 1) f_8_0 rfl rfl
 (w_getfield (p' := 4) f_8_1 rfl (x := .inl (σ 1 k0 i0 2)) rfl rfl
 (w_if (p' := 69) (q' := 7) f_8_4 rfl rfl
 (fun c105 => w_vret f_8_69 rk_8 (h.1 c105))
 (fun c105 => w_aload_n (p' := 8) f_8_7 rfl rfl
 (w_getfield (p' := 11) f_8_8 rfl (x := .inl (σ 1 k0 i0 2)) rfl rfl
 (w_aload_n (p' := 12) f_8_11 rfl rfl
 (w_getfield (p' := 15) f_8_12 rfl (x := .inl (σ 1 k0 i0 0)) rfl rfl
 (w_icmp (p' := 69) (q' := 18) f_8_15 rfl rfl
 (fun c104 => w_vret f_8_69 rk_8 ((h.2 c105).1 c104))
 (fun c104 => w_aload_n (p' := 19) f_8_18 rfl rfl
 (w_getfield (p' := 22) f_8_19 rfl (x := .inl (σ 1 k0 i0 2)) rfl rfl
 (w_sipush (p' := 25) f_8_22 rfl
 (w_icmp (p' := 69) (q' := 28) f_8_25 rfl rfl
 (fun c103 => w_vret f_8_69 rk_8 (((h.2 c105).2 c104).1 c103))
 (fun c103 => w_aload_n (p' := 29) f_8_28 rfl rfl
 (w_getfield (p' := 32) f_8_29 rfl (x := .inr (.inr (2, 0, 0))) rfl rfl
 (w_aload_n (p' := 33) f_8_32 rfl rfl
 (w_getfield (p' := 36) f_8_33 rfl (x := .inl (σ 1 k0 i0 2)) rfl rfl
 (w_iaload (p' := 37) f_8_36 rfl (n := 320) rfl (((h.2 c105).2 c104).2 c103).1 rfl
 (w_bipush (p' := 39) f_8_37 rfl
 (w_icmp (p' := 69) (q' := 42) f_8_39 rfl rfl
 (fun c102 => w_vret f_8_69 rk_8 ((((h.2 c105).2 c104).2 c103).2.1 c102))
 (fun c102 => w_aload_n (p' := 43) f_8_42 rfl rfl
 (w_getfield (p' := 46) f_8_43 rfl (x := .inr (.inr (2, 0, 0))) rfl rfl
 (w_aload_n (p' := 47) f_8_46 rfl rfl
 (w_getfield (p' := 50) f_8_47 rfl (x := .inl (σ 1 k0 i0 2)) rfl rfl
 (w_iaload (p' := 51) f_8_50 rfl (n := 320) rfl ((((h.2 c105).2 c104).2 c103).2.2 c102).1 rfl
 (w_bipush (p' := 53) f_8_51 rfl
 (w_icmp (p' := 69) (q' := 56) f_8_53 rfl rfl
 (fun c101 => w_vret f_8_69 rk_8 (((((h.2 c105).2 c104).2 c103).2.2 c102).2.1 c101))
 (fun c101 => w_aload_n (p' := 57) f_8_56 rfl rfl
 (w_dupR (p' := 58) f_8_57 rfl
 (w_getfield (p' := 61) f_8_58 rfl (x := .inl (σ 1 k0 i0 2)) rfl rfl
 (w_iconst (p' := 62) f_8_61 rfl
 (w_iadd (p' := 63) f_8_62 rfl
 (w_putI (p' := 66) f_8_63 rfl rfl (c' := 2) rfl rfl
 (w_goto (p' := 0) f_8_66 rfl
 ((((((h.2 c105).2 c104).2 c103).2.2 c102).2.2 c101))))))))))))))))))))))))))))))))))
/-! ClosedRooms$Tape.ruleWord(I)Ljava/lang/String; -/
theorem f_9_0 : fnd 9 0 = some (0, .iload_n 0, 1, 0, 0, 0, 0) := ceB_eq (by decide +kernel)
theorem f_9_1 : fnd 9 1 = some (1, .tableswitch 36 0 2 #[27, 30, 33], 27, 0, 0, 0, 0) := ceB_eq (by decide +kernel)
theorem f_9_28 : fnd 9 28 = some (28, .ldc 106, 2, 1, 0, 0, 0) := ceB_eq (by decide +kernel)
theorem f_9_30 : fnd 9 30 = some (30, .areturn, 1, 0, 0, 0, 0) := ceB_eq (by decide +kernel)
theorem f_9_31 : fnd 9 31 = some (31, .ldc 108, 2, 1, 0, 0, 1) := ceB_eq (by decide +kernel)
theorem f_9_33 : fnd 9 33 = some (33, .areturn, 1, 0, 0, 0, 0) := ceB_eq (by decide +kernel)
theorem f_9_34 : fnd 9 34 = some (34, .ldc 110, 2, 1, 0, 0, 2) := ceB_eq (by decide +kernel)
theorem f_9_36 : fnd 9 36 = some (36, .areturn, 1, 0, 0, 0, 0) := ceB_eq (by decide +kernel)
theorem f_9_37 : fnd 9 37 = some (37, .ldc 112, 2, 1, 0, 0, 3) := ceB_eq (by decide +kernel)
theorem f_9_39 : fnd 9 39 = some (39, .areturn, 1, 0, 0, 0, 0) := ceB_eq (by decide +kernel)
theorem rk_9 : rkm 9 = 3 := by decide +kernel
theorem ml_9 : (mth 9).2.1 = 1 := by decide +kernel
set_option maxRecDepth 100000 in
theorem T_Tape_ruleWord (x1 : Int) (σ : ST) (Q : Option AV → ST → Prop) (h :
  ((x1 = 0 →
    Q (some (.inr (.inr (70, 0, 0)))) σ) ∧ (x1 ≠ 0 →
  ((x1 = 1 →
    Q (some (.inr (.inr (70, 1, 0)))) σ) ∧ (x1 ≠ 1 →
  ((x1 = 2 →
    Q (some (.inr (.inr (70, 2, 0)))) σ) ∧ (x1 ≠ 2 →
    Q (some (.inr (.inr (70, 3, 0)))) σ))))))) :
  wpM m_Tape_ruleWord [.inl x1] σ Q :=
 wpM_of ml_9 (L := [some (.inl x1)]) rfl
 (w_iload_n (p' := 1) f_9_0 rfl rfl
 (w_switch f_9_1 (cs := [(0, 28), (1, 31), (2, 34)]) rfl (d' := 37) rfl
 (⟨fun c101 => w_ldcS (p' := 30) f_9_28 rfl
 (w_aret f_9_30 rk_9 (h.1 c101)), fun c101_0 =>
 ⟨fun c101 => w_ldcS (p' := 33) f_9_31 rfl
 (w_aret f_9_33 rk_9 ((h.2 c101_0).1 c101)), fun c101_1 =>
 ⟨fun c101 => w_ldcS (p' := 36) f_9_34 rfl
 (w_aret f_9_36 rk_9 (((h.2 c101_0).2 c101_1).1 c101)), fun c101_2 =>
 w_ldcS (p' := 39) f_9_37 rfl
 (w_aret f_9_39 rk_9 (((h.2 c101_0).2 c101_1).2 c101_2))⟩⟩⟩)))
/-! ClosedRooms$Tape.isWord(ILjava/lang/String;)Z -/
theorem f_10_0 : fnd 10 0 = some (0, .iload_n 1, 1, 0, 0, 0, 0) := ceB_eq (by decide +kernel)
theorem f_10_1 : fnd 10 1 = some (1, .ifCond .lt 26, 3, 0, 0, 0, 0) := ceB_eq (by decide +kernel)
theorem f_10_4 : fnd 10 4 = some (4, .aload_n 0, 1, 0, 0, 0, 0) := ceB_eq (by decide +kernel)
theorem f_10_5 : fnd 10 5 = some (5, .getfield 19, 3, 1, 2, 2, 0) := ceB_eq (by decide +kernel)
theorem f_10_8 : fnd 10 8 = some (8, .sipush 320, 3, 0, 0, 0, 0) := ceB_eq (by decide +kernel)
theorem f_10_11 : fnd 10 11 = some (11, .if_icmp .gt 16, 3, 0, 0, 0, 0) := ceB_eq (by decide +kernel)
theorem f_10_14 : fnd 10 14 = some (14, .aload_n 0, 1, 0, 0, 0, 0) := ceB_eq (by decide +kernel)
theorem f_10_15 : fnd 10 15 = some (15, .getfield 19, 3, 1, 2, 2, 0) := ceB_eq (by decide +kernel)
theorem f_10_18 : fnd 10 18 = some (18, .iload_n 1, 1, 0, 0, 0, 0) := ceB_eq (by decide +kernel)
theorem f_10_19 : fnd 10 19 = some (19, .isub, 1, 0, 0, 0, 0) := ceB_eq (by decide +kernel)
theorem f_10_20 : fnd 10 20 = some (20, .aload_n 2, 1, 0, 0, 0, 0) := ceB_eq (by decide +kernel)
theorem f_10_21 : fnd 10 21 = some (21, .invokevirtual 98, 3, 901, 1, 0, 0) := ceB_eq (by decide +kernel)
theorem f_10_24 : fnd 10 24 = some (24, .if_icmp .eq 5, 3, 0, 0, 0, 0) := ceB_eq (by decide +kernel)
theorem f_10_27 : fnd 10 27 = some (27, .iconst 0, 1, 0, 0, 0, 0) := ceB_eq (by decide +kernel)
theorem f_10_28 : fnd 10 28 = some (28, .ireturn, 1, 0, 0, 0, 0) := ceB_eq (by decide +kernel)
theorem f_10_29 : fnd 10 29 = some (29, .iconst 0, 1, 0, 0, 0, 0) := ceB_eq (by decide +kernel)
theorem f_10_30 : fnd 10 30 = some (30, .istore_n 3, 1, 0, 0, 0, 0) := ceB_eq (by decide +kernel)
theorem f_10_31 : fnd 10 31 = some (31, .iload_n 3, 1, 0, 0, 0, 0) := ceB_eq (by decide +kernel)
theorem f_10_32 : fnd 10 32 = some (32, .aload_n 2, 1, 0, 0, 0, 0) := ceB_eq (by decide +kernel)
theorem f_10_33 : fnd 10 33 = some (33, .invokevirtual 98, 3, 901, 1, 0, 0) := ceB_eq (by decide +kernel)
theorem f_10_36 : fnd 10 36 = some (36, .if_icmp .ge 27, 3, 0, 0, 0, 0) := ceB_eq (by decide +kernel)
theorem f_10_39 : fnd 10 39 = some (39, .aload_n 0, 1, 0, 0, 0, 0) := ceB_eq (by decide +kernel)
theorem f_10_40 : fnd 10 40 = some (40, .getfield 15, 3, 1, 1, 1, 0) := ceB_eq (by decide +kernel)
theorem f_10_43 : fnd 10 43 = some (43, .iload_n 1, 1, 0, 0, 0, 0) := ceB_eq (by decide +kernel)
theorem f_10_44 : fnd 10 44 = some (44, .iload_n 3, 1, 0, 0, 0, 0) := ceB_eq (by decide +kernel)
theorem f_10_45 : fnd 10 45 = some (45, .iadd, 1, 0, 0, 0, 0) := ceB_eq (by decide +kernel)
theorem f_10_46 : fnd 10 46 = some (46, .iaload, 1, 0, 0, 0, 0) := ceB_eq (by decide +kernel)
theorem f_10_47 : fnd 10 47 = some (47, .aload_n 2, 1, 0, 0, 0, 0) := ceB_eq (by decide +kernel)
theorem f_10_48 : fnd 10 48 = some (48, .iload_n 3, 1, 0, 0, 0, 0) := ceB_eq (by decide +kernel)
theorem f_10_49 : fnd 10 49 = some (49, .invokevirtual 102, 3, 902, 2, 0, 0) := ceB_eq (by decide +kernel)
theorem f_10_52 : fnd 10 52 = some (52, .if_icmp .eq 5, 3, 0, 0, 0, 0) := ceB_eq (by decide +kernel)
theorem f_10_55 : fnd 10 55 = some (55, .iconst 0, 1, 0, 0, 0, 0) := ceB_eq (by decide +kernel)
theorem f_10_56 : fnd 10 56 = some (56, .ireturn, 1, 0, 0, 0, 0) := ceB_eq (by decide +kernel)
theorem f_10_57 : fnd 10 57 = some (57, .iinc 3 1, 3, 0, 0, 0, 0) := ceB_eq (by decide +kernel)
theorem f_10_60 : fnd 10 60 = some (60, .goto (-29), 3, 0, 0, 0, 0) := ceB_eq (by decide +kernel)
theorem f_10_63 : fnd 10 63 = some (63, .iconst 1, 1, 0, 0, 0, 0) := ceB_eq (by decide +kernel)
theorem f_10_64 : fnd 10 64 = some (64, .ireturn, 1, 0, 0, 0, 0) := ceB_eq (by decide +kernel)
theorem rk_10 : rkm 10 = 1 := by decide +kernel
theorem ml_10 : (mth 10).2.1 = 4 := by decide +kernel
set_option maxRecDepth 100000 in
theorem T_Tape_isWord (k0 i0 x1 k2 i2 : Int) (σ : ST) (Q : Option AV → ST → Prop) (h :
  (((x1 < 0 : Prop) →
    ((0 : Int) = 0 ∨ (0 : Int) = 1) ∧ Q (some (.inl 0)) σ) ∧
  (¬ (x1 < 0) →
    (((320 < (σ 1 k0 i0 2) : Prop) →
      ((0 : Int) = 0 ∨ (0 : Int) = 1) ∧ Q (some (.inl 0)) σ) ∧
    (¬ (320 < (σ 1 k0 i0 2)) →
      ((0 : Int) ≤ k2 ∧ k2 < (strs.length : Int)) ∧
      ((((wr ((σ 1 k0 i0 2) - x1)) = ((strs.getD (Int.toNat k2) []).length : Int) : Prop) →
        wp m_Tape_isWord (31, [some (.inr (.inr (1, k0, i0))), some (.inl x1), some (.inr (.inr (70, k2, i2))), some (.inl 0)], [], σ) Q) ∧
      (¬ ((wr ((σ 1 k0 i0 2) - x1)) = ((strs.getD (Int.toNat k2) []).length : Int)) →
        ((0 : Int) = 0 ∨ (0 : Int) = 1) ∧ Q (some (.inl 0)) σ))))))) :
  wpM m_Tape_isWord [.inr (.inr (1, k0, i0)), .inl x1, .inr (.inr (70, k2, i2))] σ Q :=
 wpM_of ml_10 (L := [some (.inr (.inr (1, k0, i0))), some (.inl x1), some (.inr (.inr (70, k2, i2))), none]) rfl
 (w_iload_n (p' := 1) f_10_0 rfl rfl
 (w_if (p' := 27) (q' := 4) f_10_1 rfl rfl
 (fun c103 => w_iconst (p' := 28) f_10_27 rfl
 (w_zret f_10_28 rk_10 (h.1 c103).1 (h.1 c103).2))
 (fun c103 => w_aload_n (p' := 5) f_10_4 rfl rfl
 (w_getfield (p' := 8) f_10_5 rfl (x := .inl (σ 1 k0 i0 2)) rfl rfl
 (w_sipush (p' := 11) f_10_8 rfl
 (w_icmp (p' := 27) (q' := 14) f_10_11 rfl rfl
 (fun c102 => w_iconst (p' := 28) f_10_27 rfl
 (w_zret f_10_28 rk_10 ((h.2 c103).1 c102).1 ((h.2 c103).1 c102).2))
 (fun c102 => w_aload_n (p' := 15) f_10_14 rfl rfl
 (w_getfield (p' := 18) f_10_15 rfl (x := .inl (σ 1 k0 i0 2)) rfl rfl
 (w_iload_n (p' := 19) f_10_18 rfl rfl
 (w_isub (p' := 20) f_10_19 rfl
 (w_aload_n (p' := 21) f_10_20 rfl rfl
 (w_slen (p' := 24) f_10_21 rfl ((h.2 c103).2 c102).1 rfl
 (w_icmp (p' := 29) (q' := 27) f_10_24 rfl rfl
 (fun c101 => w_iconst (p' := 30) f_10_29 rfl
 (w_istore_n (p' := 31) f_10_30 (L' := [some (.inr (.inr (1, k0, i0))), some (.inl x1), some (.inr (.inr (70, k2, i2))), some (.inl 0)]) rfl rfl
 ((((h.2 c103).2 c102).2.1 c101))))
 (fun c101 => w_iconst (p' := 28) f_10_27 rfl
 (w_zret f_10_28 rk_10 (((h.2 c103).2 c102).2.2 c101).1 (((h.2 c103).2 c102).2.2 c101).2)))))))))))))))
set_option maxRecDepth 100000 in
theorem T_Tape_isWord_31 (k0 i0 x1 k2 i2 x3 : Int) (σ : ST) (Q : Option AV → ST → Prop) (h :
  ((0 : Int) ≤ k2 ∧ k2 < (strs.length : Int)) ∧
  (((((strs.getD (Int.toNat k2) []).length : Int) ≤ x3 : Prop) →
    ((1 : Int) = 0 ∨ (1 : Int) = 1) ∧ Q (some (.inl 1)) σ) ∧
  (¬ (((strs.getD (Int.toNat k2) []).length : Int) ≤ x3) →
    ((0 : Int) ≤ (wr (x1 + x3)) ∧ ((wr (x1 + x3)) : Int) < 320) ∧
    (((0 : Int) ≤ k2 ∧ k2 < (strs.length : Int)) ∧ (0 : Int) ≤ x3 ∧ x3 < ((strs.getD (Int.toNat k2) []).length : Int)) ∧
    ((((σ 2 0 0 (wr (x1 + x3))) = ((strs.getD (Int.toNat k2) []).getD (Int.toNat x3) 0) : Prop) →
      wp m_Tape_isWord (31, [some (.inr (.inr (1, k0, i0))), some (.inl x1), some (.inr (.inr (70, k2, i2))), some (.inl (wr (x3 + 1)))], [], σ) Q) ∧
    (¬ ((σ 2 0 0 (wr (x1 + x3))) = ((strs.getD (Int.toNat k2) []).getD (Int.toNat x3) 0)) →
      ((0 : Int) = 0 ∨ (0 : Int) = 1) ∧ Q (some (.inl 0)) σ))))) :
  wp m_Tape_isWord (31, [some (.inr (.inr (1, k0, i0))), some (.inl x1), some (.inr (.inr (70, k2, i2))), some (.inl x3)], [], σ) Q :=
 w_iload_n (p' := 32) f_10_31 rfl rfl
 (w_aload_n (p' := 33) f_10_32 rfl rfl
 (w_slen (p' := 36) f_10_33 rfl h.1 rfl
 (w_icmp (p' := 63) (q' := 39) f_10_36 rfl rfl
 (fun c102 => w_iconst (p' := 64) f_10_63 rfl
 (w_zret f_10_64 rk_10 (h.2.1 c102).1 (h.2.1 c102).2))
 (fun c102 => w_aload_n (p' := 40) f_10_39 rfl rfl
 (w_getfield (p' := 43) f_10_40 rfl (x := .inr (.inr (2, 0, 0))) rfl rfl
 (w_iload_n (p' := 44) f_10_43 rfl rfl
 (w_iload_n (p' := 45) f_10_44 rfl rfl
 (w_iadd (p' := 46) f_10_45 rfl
 (w_iaload (p' := 47) f_10_46 rfl (n := 320) rfl (h.2.2 c102).1 rfl
 (w_aload_n (p' := 48) f_10_47 rfl rfl
 (w_iload_n (p' := 49) f_10_48 rfl rfl
 (w_schar (p' := 52) f_10_49 rfl (h.2.2 c102).2.1 rfl
 (w_icmp (p' := 57) (q' := 55) f_10_52 rfl rfl
 (fun c101 => w_iinc (p' := 60) f_10_57 rfl (L' := [some (.inr (.inr (1, k0, i0))), some (.inl x1), some (.inr (.inr (70, k2, i2))), some (.inl (wr (x3 + 1)))]) rfl rfl
 (w_goto (p' := 31) f_10_60 rfl
 (((h.2.2 c102).2.2.1 c101))))
 (fun c101 => w_iconst (p' := 56) f_10_55 rfl
 (w_zret f_10_56 rk_10 ((h.2.2 c102).2.2.2 c101).1 ((h.2.2 c102).2.2.2 c101).2)))))))))))))))
/-! ClosedRooms$Tape.ruleOf(I)I -/
theorem f_11_0 : fnd 11 0 = some (0, .iconst 0, 1, 0, 0, 0, 0) := ceB_eq (by decide +kernel)
theorem f_11_1 : fnd 11 1 = some (1, .istore_n 2, 1, 0, 0, 0, 0) := ceB_eq (by decide +kernel)
theorem f_11_2 : fnd 11 2 = some (2, .iload_n 2, 1, 0, 0, 0, 0) := ceB_eq (by decide +kernel)
theorem f_11_3 : fnd 11 3 = some (3, .iconst 4, 1, 0, 0, 0, 0) := ceB_eq (by decide +kernel)
theorem f_11_4 : fnd 11 4 = some (4, .if_icmp .ge 23, 3, 0, 0, 0, 0) := ceB_eq (by decide +kernel)
theorem f_11_7 : fnd 11 7 = some (7, .aload_n 0, 1, 0, 0, 0, 0) := ceB_eq (by decide +kernel)
theorem f_11_8 : fnd 11 8 = some (8, .iload_n 1, 1, 0, 0, 0, 0) := ceB_eq (by decide +kernel)
theorem f_11_9 : fnd 11 9 = some (9, .iload_n 2, 1, 0, 0, 0, 0) := ceB_eq (by decide +kernel)
theorem f_11_10 : fnd 11 10 = some (10, .invokestatic 87, 3, 9, 1, 1, 70) := ceB_eq (by decide +kernel)
theorem f_11_13 : fnd 11 13 = some (13, .invokevirtual 91, 3, 10, 3, 1, 0) := ceB_eq (by decide +kernel)
theorem f_11_16 : fnd 11 16 = some (16, .ifCond .eq 5, 3, 0, 0, 0, 0) := ceB_eq (by decide +kernel)
theorem f_11_19 : fnd 11 19 = some (19, .iload_n 2, 1, 0, 0, 0, 0) := ceB_eq (by decide +kernel)
theorem f_11_20 : fnd 11 20 = some (20, .ireturn, 1, 0, 0, 0, 0) := ceB_eq (by decide +kernel)
theorem f_11_21 : fnd 11 21 = some (21, .iinc 2 1, 3, 0, 0, 0, 0) := ceB_eq (by decide +kernel)
theorem f_11_24 : fnd 11 24 = some (24, .goto (-22), 3, 0, 0, 0, 0) := ceB_eq (by decide +kernel)
theorem f_11_27 : fnd 11 27 = some (27, .iconst (-1), 1, 0, 0, 0, 0) := ceB_eq (by decide +kernel)
theorem f_11_28 : fnd 11 28 = some (28, .ireturn, 1, 0, 0, 0, 0) := ceB_eq (by decide +kernel)
theorem rk_11 : rkm 11 = 0 := by decide +kernel
theorem ml_11 : (mth 11).2.1 = 3 := by decide +kernel
set_option maxRecDepth 100000 in
theorem T_Tape_ruleOf (k0 i0 x1 : Int) (σ : ST) (Q : Option AV → ST → Prop) (h :
  wp m_Tape_ruleOf (2, [some (.inr (.inr (1, k0, i0))), some (.inl x1), some (.inl 0)], [], σ) Q) :
  wpM m_Tape_ruleOf [.inr (.inr (1, k0, i0)), .inl x1] σ Q :=
 wpM_of ml_11 (L := [some (.inr (.inr (1, k0, i0))), some (.inl x1), none]) rfl
 (w_iconst (p' := 1) f_11_0 rfl
 (w_istore_n (p' := 2) f_11_1 (L' := [some (.inr (.inr (1, k0, i0))), some (.inl x1), some (.inl 0)]) rfl rfl
 (h)))
set_option maxRecDepth 100000 in
theorem T_Tape_ruleOf_2 (k0 i0 x1 x2 : Int) (σ : ST) (Q : Option AV → ST → Prop) (h :
  (((4 ≤ x2 : Prop) →
    Q (some (.inl (-1))) σ) ∧
  (¬ (4 ≤ x2) →
    wpM m_Tape_ruleWord [.inl x2] σ (asR 70 fun a101 b101 s101 =>
    wpM m_Tape_isWord [.inr (.inr (1, k0, i0)), .inl x1, .inr (.inr (70, a101, b101))] s101 (asI fun r102 s102 =>
    (((r102 = 0 : Prop) →
      wp m_Tape_ruleOf (2, [some (.inr (.inr (1, k0, i0))), some (.inl x1), some (.inl (wr (x2 + 1)))], [], s102) Q) ∧
    (¬ (r102 = 0) →
      Q (some (.inl x2)) s102))))))) :
  wp m_Tape_ruleOf (2, [some (.inr (.inr (1, k0, i0))), some (.inl x1), some (.inl x2)], [], σ) Q :=
 w_iload_n (p' := 3) f_11_2 rfl rfl
 (w_iconst (p' := 4) f_11_3 rfl
 (w_icmp (p' := 27) (q' := 7) f_11_4 rfl rfl
 (fun c104 => w_iconst (p' := 28) f_11_27 rfl
 (w_iret f_11_28 rk_11 (h.1 c104)))
 (fun c104 => w_aload_n (p' := 8) f_11_7 rfl rfl
 (w_iload_n (p' := 9) f_11_8 rfl rfl
 (w_iload_n (p' := 10) f_11_9 rfl rfl
 (w_callS (p' := 13) f_11_10 rfl rfl rfl (r := [.inl x1, .inr (.inr (1, k0, i0))]) rfl rfl (kR rfl rk_9 fun a101 b101 s101 h101 =>
 w_callV (p' := 16) f_11_13 rfl rfl rfl rfl rfl (r := []) rfl rfl (kI (.inr rk_10) fun r102 s102 h102 =>
 w_if (p' := 21) (q' := 19) f_11_16 rfl rfl
 (fun c103 => w_iinc (p' := 24) f_11_21 rfl (L' := [some (.inr (.inr (1, k0, i0))), some (.inl x1), some (.inl (wr (x2 + 1)))]) rfl rfl
 (w_goto (p' := 2) f_11_24 rfl
 ((h102.1 c103))))
 (fun c103 => w_iload_n (p' := 20) f_11_19 rfl rfl
 (w_iret f_11_20 rk_11 (h102.2 c103)))) h101) (h.2 c104)))))))
/-! ClosedRooms$Tape.readNumber()I -/
theorem f_12_0 : fnd 12 0 = some (0, .iconst (-1), 1, 0, 0, 0, 0) := ceB_eq (by decide +kernel)
theorem f_12_1 : fnd 12 1 = some (1, .istore_n 1, 1, 0, 0, 0, 0) := ceB_eq (by decide +kernel)
theorem f_12_2 : fnd 12 2 = some (2, .aload_n 0, 1, 0, 0, 0, 0) := ceB_eq (by decide +kernel)
theorem f_12_3 : fnd 12 3 = some (3, .getfield 19, 3, 1, 2, 2, 0) := ceB_eq (by decide +kernel)
theorem f_12_6 : fnd 12 6 = some (6, .ifCond .lt 102, 3, 0, 0, 0, 0) := ceB_eq (by decide +kernel)
theorem f_12_9 : fnd 12 9 = some (9, .aload_n 0, 1, 0, 0, 0, 0) := ceB_eq (by decide +kernel)
theorem f_12_10 : fnd 12 10 = some (10, .getfield 19, 3, 1, 2, 2, 0) := ceB_eq (by decide +kernel)
theorem f_12_13 : fnd 12 13 = some (13, .aload_n 0, 1, 0, 0, 0, 0) := ceB_eq (by decide +kernel)
theorem f_12_14 : fnd 12 14 = some (14, .getfield 9, 3, 1, 0, 0, 0) := ceB_eq (by decide +kernel)
theorem f_12_17 : fnd 12 17 = some (17, .if_icmp .ge 91, 3, 0, 0, 0, 0) := ceB_eq (by decide +kernel)
theorem f_12_20 : fnd 12 20 = some (20, .aload_n 0, 1, 0, 0, 0, 0) := ceB_eq (by decide +kernel)
theorem f_12_21 : fnd 12 21 = some (21, .getfield 19, 3, 1, 2, 2, 0) := ceB_eq (by decide +kernel)
theorem f_12_24 : fnd 12 24 = some (24, .sipush 320, 3, 0, 0, 0, 0) := ceB_eq (by decide +kernel)
theorem f_12_27 : fnd 12 27 = some (27, .if_icmp .ge 81, 3, 0, 0, 0, 0) := ceB_eq (by decide +kernel)
theorem f_12_30 : fnd 12 30 = some (30, .aload_n 0, 1, 0, 0, 0, 0) := ceB_eq (by decide +kernel)
theorem f_12_31 : fnd 12 31 = some (31, .getfield 15, 3, 1, 1, 1, 0) := ceB_eq (by decide +kernel)
theorem f_12_34 : fnd 12 34 = some (34, .aload_n 0, 1, 0, 0, 0, 0) := ceB_eq (by decide +kernel)
theorem f_12_35 : fnd 12 35 = some (35, .getfield 19, 3, 1, 2, 2, 0) := ceB_eq (by decide +kernel)
theorem f_12_38 : fnd 12 38 = some (38, .iaload, 1, 0, 0, 0, 0) := ceB_eq (by decide +kernel)
theorem f_12_39 : fnd 12 39 = some (39, .bipush 48, 2, 0, 0, 0, 0) := ceB_eq (by decide +kernel)
theorem f_12_41 : fnd 12 41 = some (41, .if_icmp .lt 67, 3, 0, 0, 0, 0) := ceB_eq (by decide +kernel)
theorem f_12_44 : fnd 12 44 = some (44, .aload_n 0, 1, 0, 0, 0, 0) := ceB_eq (by decide +kernel)
theorem f_12_45 : fnd 12 45 = some (45, .getfield 15, 3, 1, 1, 1, 0) := ceB_eq (by decide +kernel)
theorem f_12_48 : fnd 12 48 = some (48, .aload_n 0, 1, 0, 0, 0, 0) := ceB_eq (by decide +kernel)
theorem f_12_49 : fnd 12 49 = some (49, .getfield 19, 3, 1, 2, 2, 0) := ceB_eq (by decide +kernel)
theorem f_12_52 : fnd 12 52 = some (52, .iaload, 1, 0, 0, 0, 0) := ceB_eq (by decide +kernel)
theorem f_12_53 : fnd 12 53 = some (53, .bipush 57, 2, 0, 0, 0, 0) := ceB_eq (by decide +kernel)
theorem f_12_55 : fnd 12 55 = some (55, .if_icmp .gt 53, 3, 0, 0, 0, 0) := ceB_eq (by decide +kernel)
theorem f_12_58 : fnd 12 58 = some (58, .aload_n 0, 1, 0, 0, 0, 0) := ceB_eq (by decide +kernel)
theorem f_12_59 : fnd 12 59 = some (59, .getfield 15, 3, 1, 1, 1, 0) := ceB_eq (by decide +kernel)
theorem f_12_62 : fnd 12 62 = some (62, .aload_n 0, 1, 0, 0, 0, 0) := ceB_eq (by decide +kernel)
theorem f_12_63 : fnd 12 63 = some (63, .getfield 19, 3, 1, 2, 2, 0) := ceB_eq (by decide +kernel)
theorem f_12_66 : fnd 12 66 = some (66, .iaload, 1, 0, 0, 0, 0) := ceB_eq (by decide +kernel)
theorem f_12_67 : fnd 12 67 = some (67, .bipush 48, 2, 0, 0, 0, 0) := ceB_eq (by decide +kernel)
theorem f_12_69 : fnd 12 69 = some (69, .isub, 1, 0, 0, 0, 0) := ceB_eq (by decide +kernel)
theorem f_12_70 : fnd 12 70 = some (70, .istore_n 2, 1, 0, 0, 0, 0) := ceB_eq (by decide +kernel)
theorem f_12_71 : fnd 12 71 = some (71, .iload_n 1, 1, 0, 0, 0, 0) := ceB_eq (by decide +kernel)
theorem f_12_72 : fnd 12 72 = some (72, .iconst (-1), 1, 0, 0, 0, 0) := ceB_eq (by decide +kernel)
theorem f_12_73 : fnd 12 73 = some (73, .if_icmp .ne 8, 3, 0, 0, 0, 0) := ceB_eq (by decide +kernel)
theorem f_12_76 : fnd 12 76 = some (76, .iload_n 2, 1, 0, 0, 0, 0) := ceB_eq (by decide +kernel)
theorem f_12_77 : fnd 12 77 = some (77, .istore_n 1, 1, 0, 0, 0, 0) := ceB_eq (by decide +kernel)
theorem f_12_78 : fnd 12 78 = some (78, .goto 17, 3, 0, 0, 0, 0) := ceB_eq (by decide +kernel)
theorem f_12_81 : fnd 12 81 = some (81, .iload_n 1, 1, 0, 0, 0, 0) := ceB_eq (by decide +kernel)
theorem f_12_82 : fnd 12 82 = some (82, .sipush 999, 3, 0, 0, 0, 0) := ceB_eq (by decide +kernel)
theorem f_12_85 : fnd 12 85 = some (85, .if_icmp .gt 10, 3, 0, 0, 0, 0) := ceB_eq (by decide +kernel)
theorem f_12_88 : fnd 12 88 = some (88, .iload_n 1, 1, 0, 0, 0, 0) := ceB_eq (by decide +kernel)
theorem f_12_89 : fnd 12 89 = some (89, .bipush 10, 2, 0, 0, 0, 0) := ceB_eq (by decide +kernel)
theorem f_12_91 : fnd 12 91 = some (91, .imul, 1, 0, 0, 0, 0) := ceB_eq (by decide +kernel)
theorem f_12_92 : fnd 12 92 = some (92, .iload_n 2, 1, 0, 0, 0, 0) := ceB_eq (by decide +kernel)
theorem f_12_93 : fnd 12 93 = some (93, .iadd, 1, 0, 0, 0, 0) := ceB_eq (by decide +kernel)
theorem f_12_94 : fnd 12 94 = some (94, .istore_n 1, 1, 0, 0, 0, 0) := ceB_eq (by decide +kernel)
theorem f_12_95 : fnd 12 95 = some (95, .aload_n 0, 1, 0, 0, 0, 0) := ceB_eq (by decide +kernel)
theorem f_12_96 : fnd 12 96 = some (96, .dup, 1, 0, 0, 0, 0) := ceB_eq (by decide +kernel)
theorem f_12_97 : fnd 12 97 = some (97, .getfield 19, 3, 1, 2, 2, 0) := ceB_eq (by decide +kernel)
theorem f_12_100 : fnd 12 100 = some (100, .iconst 1, 1, 0, 0, 0, 0) := ceB_eq (by decide +kernel)
theorem f_12_101 : fnd 12 101 = some (101, .iadd, 1, 0, 0, 0, 0) := ceB_eq (by decide +kernel)
theorem f_12_102 : fnd 12 102 = some (102, .putfield 19, 3, 1, 2, 2, 0) := ceB_eq (by decide +kernel)
theorem f_12_105 : fnd 12 105 = some (105, .goto (-103), 3, 0, 0, 0, 0) := ceB_eq (by decide +kernel)
theorem f_12_108 : fnd 12 108 = some (108, .iload_n 1, 1, 0, 0, 0, 0) := ceB_eq (by decide +kernel)
theorem f_12_109 : fnd 12 109 = some (109, .ireturn, 1, 0, 0, 0, 0) := ceB_eq (by decide +kernel)
theorem rk_12 : rkm 12 = 0 := by decide +kernel
theorem ml_12 : (mth 12).2.1 = 3 := by decide +kernel
set_option maxRecDepth 100000 in
theorem T_Tape_readNumber (k0 i0 : Int) (σ : ST) (Q : Option AV → ST → Prop) (h :
  wp m_Tape_readNumber (2, [some (.inr (.inr (1, k0, i0))), some (.inl (-1)), none], [], σ) Q) :
  wpM m_Tape_readNumber [.inr (.inr (1, k0, i0))] σ Q :=
 wpM_of ml_12 (L := [some (.inr (.inr (1, k0, i0))), none, none]) rfl
 (w_iconst (p' := 1) f_12_0 rfl
 (w_istore_n (p' := 2) f_12_1 (L' := [some (.inr (.inr (1, k0, i0))), some (.inl (-1)), none]) rfl rfl
 (h)))
set_option maxRecDepth 100000 in
theorem T_Tape_readNumber_2 (k0 i0 x1 : Int) (o2 : Option AV) (σ : ST) (Q : Option AV → ST → Prop) (h :
  ((((σ 1 k0 i0 2) < 0 : Prop) →
    Q (some (.inl x1)) σ) ∧
  (¬ ((σ 1 k0 i0 2) < 0) →
    ((((σ 1 k0 i0 0) ≤ (σ 1 k0 i0 2) : Prop) →
      Q (some (.inl x1)) σ) ∧
    (¬ ((σ 1 k0 i0 0) ≤ (σ 1 k0 i0 2)) →
      (((320 ≤ (σ 1 k0 i0 2) : Prop) →
        Q (some (.inl x1)) σ) ∧
      (¬ (320 ≤ (σ 1 k0 i0 2)) →
        ((0 : Int) ≤ (σ 1 k0 i0 2) ∧ ((σ 1 k0 i0 2) : Int) < 320) ∧
        ((((σ 2 0 0 (σ 1 k0 i0 2)) < 48 : Prop) →
          Q (some (.inl x1)) σ) ∧
        (¬ ((σ 2 0 0 (σ 1 k0 i0 2)) < 48) →
          ((0 : Int) ≤ (σ 1 k0 i0 2) ∧ ((σ 1 k0 i0 2) : Int) < 320) ∧
          (((57 < (σ 2 0 0 (σ 1 k0 i0 2)) : Prop) →
            Q (some (.inl x1)) σ) ∧
          (¬ (57 < (σ 2 0 0 (σ 1 k0 i0 2))) →
            ((0 : Int) ≤ (σ 1 k0 i0 2) ∧ ((σ 1 k0 i0 2) : Int) < 320) ∧
            (((x1 ≠ (-1) : Prop) →
              (((999 < x1 : Prop) →
                wp m_Tape_readNumber (95, [some (.inr (.inr (1, k0, i0))), some (.inl x1), some (.inl (wr ((σ 2 0 0 (σ 1 k0 i0 2)) - 48)))], [], σ) Q) ∧
              (¬ (999 < x1) →
                wp m_Tape_readNumber (95, [some (.inr (.inr (1, k0, i0))), some (.inl (wr ((wr (x1 * 10)) + (wr ((σ 2 0 0 (σ 1 k0 i0 2)) - 48))))), some (.inl (wr ((σ 2 0 0 (σ 1 k0 i0 2)) - 48)))], [], σ) Q))) ∧
            (¬ (x1 ≠ (-1)) →
              wp m_Tape_readNumber (95, [some (.inr (.inr (1, k0, i0))), some (.inl (wr ((σ 2 0 0 (σ 1 k0 i0 2)) - 48))), some (.inl (wr ((σ 2 0 0 (σ 1 k0 i0 2)) - 48)))], [], σ) Q))))))))))))) :
  wp m_Tape_readNumber (2, [some (.inr (.inr (1, k0, i0))), some (.inl x1), o2], [], σ) Q :=
 w_aload_n (p' := 3) f_12_2 rfl rfl
 (w_getfield (p' := 6) f_12_3 rfl (x := .inl (σ 1 k0 i0 2)) rfl rfl
 (w_if (p' := 108) (q' := 9) f_12_6 rfl rfl
 (fun c107 => w_iload_n (p' := 109) f_12_108 rfl rfl
 (w_iret f_12_109 rk_12 (h.1 c107)))
 (fun c107 => w_aload_n (p' := 10) f_12_9 rfl rfl
 (w_getfield (p' := 13) f_12_10 rfl (x := .inl (σ 1 k0 i0 2)) rfl rfl
 (w_aload_n (p' := 14) f_12_13 rfl rfl
 (w_getfield (p' := 17) f_12_14 rfl (x := .inl (σ 1 k0 i0 0)) rfl rfl
 (w_icmp (p' := 108) (q' := 20) f_12_17 rfl rfl
 (fun c106 => w_iload_n (p' := 109) f_12_108 rfl rfl
 (w_iret f_12_109 rk_12 ((h.2 c107).1 c106)))
 (fun c106 => w_aload_n (p' := 21) f_12_20 rfl rfl
 (w_getfield (p' := 24) f_12_21 rfl (x := .inl (σ 1 k0 i0 2)) rfl rfl
 (w_sipush (p' := 27) f_12_24 rfl
 (w_icmp (p' := 108) (q' := 30) f_12_27 rfl rfl
 (fun c105 => w_iload_n (p' := 109) f_12_108 rfl rfl
 (w_iret f_12_109 rk_12 (((h.2 c107).2 c106).1 c105)))
 (fun c105 => w_aload_n (p' := 31) f_12_30 rfl rfl
 (w_getfield (p' := 34) f_12_31 rfl (x := .inr (.inr (2, 0, 0))) rfl rfl
 (w_aload_n (p' := 35) f_12_34 rfl rfl
 (w_getfield (p' := 38) f_12_35 rfl (x := .inl (σ 1 k0 i0 2)) rfl rfl
 (w_iaload (p' := 39) f_12_38 rfl (n := 320) rfl (((h.2 c107).2 c106).2 c105).1 rfl
 (w_bipush (p' := 41) f_12_39 rfl
 (w_icmp (p' := 108) (q' := 44) f_12_41 rfl rfl
 (fun c104 => w_iload_n (p' := 109) f_12_108 rfl rfl
 (w_iret f_12_109 rk_12 ((((h.2 c107).2 c106).2 c105).2.1 c104)))
 (fun c104 => w_aload_n (p' := 45) f_12_44 rfl rfl
 (w_getfield (p' := 48) f_12_45 rfl (x := .inr (.inr (2, 0, 0))) rfl rfl
 (w_aload_n (p' := 49) f_12_48 rfl rfl
 (w_getfield (p' := 52) f_12_49 rfl (x := .inl (σ 1 k0 i0 2)) rfl rfl
 (w_iaload (p' := 53) f_12_52 rfl (n := 320) rfl ((((h.2 c107).2 c106).2 c105).2.2 c104).1 rfl
 (w_bipush (p' := 55) f_12_53 rfl
 (w_icmp (p' := 108) (q' := 58) f_12_55 rfl rfl
 (fun c103 => w_iload_n (p' := 109) f_12_108 rfl rfl
 (w_iret f_12_109 rk_12 (((((h.2 c107).2 c106).2 c105).2.2 c104).2.1 c103)))
 (fun c103 => w_aload_n (p' := 59) f_12_58 rfl rfl
 (w_getfield (p' := 62) f_12_59 rfl (x := .inr (.inr (2, 0, 0))) rfl rfl
 (w_aload_n (p' := 63) f_12_62 rfl rfl
 (w_getfield (p' := 66) f_12_63 rfl (x := .inl (σ 1 k0 i0 2)) rfl rfl
 (w_iaload (p' := 67) f_12_66 rfl (n := 320) rfl (((((h.2 c107).2 c106).2 c105).2.2 c104).2.2 c103).1 rfl
 (w_bipush (p' := 69) f_12_67 rfl
 (w_isub (p' := 70) f_12_69 rfl
 (w_istore_n (p' := 71) f_12_70 (L' := [some (.inr (.inr (1, k0, i0))), some (.inl x1), some (.inl (wr ((σ 2 0 0 (σ 1 k0 i0 2)) - 48)))]) rfl rfl
 (w_iload_n (p' := 72) f_12_71 rfl rfl
 (w_iconst (p' := 73) f_12_72 rfl
 (w_icmp (p' := 81) (q' := 76) f_12_73 rfl rfl
 (fun c102 => w_iload_n (p' := 82) f_12_81 rfl rfl
 (w_sipush (p' := 85) f_12_82 rfl
 (w_icmp (p' := 95) (q' := 88) f_12_85 rfl rfl
 (fun c101 => (((((((h.2 c107).2 c106).2 c105).2.2 c104).2.2 c103).2.1 c102).1 c101))
 (fun c101 => w_iload_n (p' := 89) f_12_88 rfl rfl
 (w_bipush (p' := 91) f_12_89 rfl
 (w_imul (p' := 92) f_12_91 rfl
 (w_iload_n (p' := 93) f_12_92 rfl rfl
 (w_iadd (p' := 94) f_12_93 rfl
 (w_istore_n (p' := 95) f_12_94 (L' := [some (.inr (.inr (1, k0, i0))), some (.inl (wr ((wr (x1 * 10)) + (wr ((σ 2 0 0 (σ 1 k0 i0 2)) - 48))))), some (.inl (wr ((σ 2 0 0 (σ 1 k0 i0 2)) - 48)))]) rfl rfl
 ((((((((h.2 c107).2 c106).2 c105).2.2 c104).2.2 c103).2.1 c102).2 c101)))))))))))
 (fun c102 => w_iload_n (p' := 77) f_12_76 rfl rfl
 (w_istore_n (p' := 78) f_12_77 (L' := [some (.inr (.inr (1, k0, i0))), some (.inl (wr ((σ 2 0 0 (σ 1 k0 i0 2)) - 48))), some (.inl (wr ((σ 2 0 0 (σ 1 k0 i0 2)) - 48)))]) rfl rfl
 (w_goto (p' := 95) f_12_78 rfl
 (((((((h.2 c107).2 c106).2 c105).2.2 c104).2.2 c103).2.2 c102)))))))))))))))))))))))))))))))))))))))))
set_option maxRecDepth 100000 in
theorem T_Tape_readNumber_95 (k0 i0 x1 : Int) (o2 : Option AV) (σ : ST) (Q : Option AV → ST → Prop) (h :
  wp m_Tape_readNumber (2, [some (.inr (.inr (1, k0, i0))), some (.inl x1), o2], [], (up σ 1 k0 i0 2 (wr ((σ 1 k0 i0 2) + 1)))) Q) :
  wp m_Tape_readNumber (95, [some (.inr (.inr (1, k0, i0))), some (.inl x1), o2], [], σ) Q :=
 w_aload_n (p' := 96) f_12_95 rfl rfl
 (w_dupR (p' := 97) f_12_96 rfl
 (w_getfield (p' := 100) f_12_97 rfl (x := .inl (σ 1 k0 i0 2)) rfl rfl
 (w_iconst (p' := 101) f_12_100 rfl
 (w_iadd (p' := 102) f_12_101 rfl
 (w_putI (p' := 105) f_12_102 rfl rfl (c' := 2) rfl rfl
 (w_goto (p' := 2) f_12_105 rfl
 (h)))))))
/-! ClosedRooms$Tape.readClause()I -/
theorem f_13_0 : fnd 13 0 = some (0, .aload_n 0, 1, 0, 0, 0, 0) := ceB_eq (by decide +kernel)
theorem f_13_1 : fnd 13 1 = some (1, .invokevirtual 46, 3, 7, 1, 1, 0) := ceB_eq (by decide +kernel)
theorem f_13_4 : fnd 13 4 = some (4, .aload_n 0, 1, 0, 0, 0, 0) := ceB_eq (by decide +kernel)
theorem f_13_5 : fnd 13 5 = some (5, .getfield 19, 3, 1, 2, 2, 0) := ceB_eq (by decide +kernel)
theorem f_13_8 : fnd 13 8 = some (8, .istore_n 1, 1, 0, 0, 0, 0) := ceB_eq (by decide +kernel)
theorem f_13_9 : fnd 13 9 = some (9, .aload_n 0, 1, 0, 0, 0, 0) := ceB_eq (by decide +kernel)
theorem f_13_10 : fnd 13 10 = some (10, .invokevirtual 57, 3, 8, 1, 1, 0) := ceB_eq (by decide +kernel)
theorem f_13_13 : fnd 13 13 = some (13, .aload_n 0, 1, 0, 0, 0, 0) := ceB_eq (by decide +kernel)
theorem f_13_14 : fnd 13 14 = some (14, .iload_n 1, 1, 0, 0, 0, 0) := ceB_eq (by decide +kernel)
theorem f_13_15 : fnd 13 15 = some (15, .invokevirtual 60, 3, 11, 2, 1, 0) := ceB_eq (by decide +kernel)
theorem f_13_18 : fnd 13 18 = some (18, .istore_n 2, 1, 0, 0, 0, 0) := ceB_eq (by decide +kernel)
theorem f_13_19 : fnd 13 19 = some (19, .iload_n 2, 1, 0, 0, 0, 0) := ceB_eq (by decide +kernel)
theorem f_13_20 : fnd 13 20 = some (20, .ifCond .lt 17, 3, 0, 0, 0, 0) := ceB_eq (by decide +kernel)
theorem f_13_23 : fnd 13 23 = some (23, .iload_n 2, 1, 0, 0, 0, 0) := ceB_eq (by decide +kernel)
theorem f_13_24 : fnd 13 24 = some (24, .iconst 4, 1, 0, 0, 0, 0) := ceB_eq (by decide +kernel)
theorem f_13_25 : fnd 13 25 = some (25, .if_icmp .ge 12, 3, 0, 0, 0, 0) := ceB_eq (by decide +kernel)
theorem f_13_28 : fnd 13 28 = some (28, .aload_n 0, 1, 0, 0, 0, 0) := ceB_eq (by decide +kernel)
theorem f_13_29 : fnd 13 29 = some (29, .getfield 25, 3, 1, 4, 4, 0) := ceB_eq (by decide +kernel)
theorem f_13_32 : fnd 13 32 = some (32, .iload_n 2, 1, 0, 0, 0, 0) := ceB_eq (by decide +kernel)
theorem f_13_33 : fnd 13 33 = some (33, .baload, 1, 0, 0, 0, 0) := ceB_eq (by decide +kernel)
theorem f_13_34 : fnd 13 34 = some (34, .ifCond .eq 5, 3, 0, 0, 0, 0) := ceB_eq (by decide +kernel)
theorem f_13_37 : fnd 13 37 = some (37, .iload_n 1, 1, 0, 0, 0, 0) := ceB_eq (by decide +kernel)
theorem f_13_38 : fnd 13 38 = some (38, .ireturn, 1, 0, 0, 0, 0) := ceB_eq (by decide +kernel)
theorem f_13_39 : fnd 13 39 = some (39, .aload_n 0, 1, 0, 0, 0, 0) := ceB_eq (by decide +kernel)
theorem f_13_40 : fnd 13 40 = some (40, .invokevirtual 46, 3, 7, 1, 1, 0) := ceB_eq (by decide +kernel)
theorem f_13_43 : fnd 13 43 = some (43, .aload_n 0, 1, 0, 0, 0, 0) := ceB_eq (by decide +kernel)
theorem f_13_44 : fnd 13 44 = some (44, .getfield 19, 3, 1, 2, 2, 0) := ceB_eq (by decide +kernel)
theorem f_13_47 : fnd 13 47 = some (47, .istore_n 3, 1, 0, 0, 0, 0) := ceB_eq (by decide +kernel)
theorem f_13_48 : fnd 13 48 = some (48, .aload_n 0, 1, 0, 0, 0, 0) := ceB_eq (by decide +kernel)
theorem f_13_49 : fnd 13 49 = some (49, .invokevirtual 64, 3, 12, 1, 1, 0) := ceB_eq (by decide +kernel)
theorem f_13_52 : fnd 13 52 = some (52, .istore 4, 2, 0, 0, 0, 0) := ceB_eq (by decide +kernel)
theorem f_13_54 : fnd 13 54 = some (54, .iload 4, 2, 0, 0, 0, 0) := ceB_eq (by decide +kernel)
theorem f_13_56 : fnd 13 56 = some (56, .getstatic 67, 3, 62, 0, 0, 0) := ceB_eq (by decide +kernel)
theorem f_13_59 : fnd 13 59 = some (59, .iload_n 2, 1, 0, 0, 0, 0) := ceB_eq (by decide +kernel)
theorem f_13_60 : fnd 13 60 = some (60, .iaload, 1, 0, 0, 0, 0) := ceB_eq (by decide +kernel)
theorem f_13_61 : fnd 13 61 = some (61, .if_icmp .lt 13, 3, 0, 0, 0, 0) := ceB_eq (by decide +kernel)
theorem f_13_64 : fnd 13 64 = some (64, .iload 4, 2, 0, 0, 0, 0) := ceB_eq (by decide +kernel)
theorem f_13_66 : fnd 13 66 = some (66, .getstatic 70, 3, 63, 0, 0, 0) := ceB_eq (by decide +kernel)
theorem f_13_69 : fnd 13 69 = some (69, .iload_n 2, 1, 0, 0, 0, 0) := ceB_eq (by decide +kernel)
theorem f_13_70 : fnd 13 70 = some (70, .iaload, 1, 0, 0, 0, 0) := ceB_eq (by decide +kernel)
theorem f_13_71 : fnd 13 71 = some (71, .if_icmp .le 5, 3, 0, 0, 0, 0) := ceB_eq (by decide +kernel)
theorem f_13_74 : fnd 13 74 = some (74, .iload_n 3, 1, 0, 0, 0, 0) := ceB_eq (by decide +kernel)
theorem f_13_75 : fnd 13 75 = some (75, .ireturn, 1, 0, 0, 0, 0) := ceB_eq (by decide +kernel)
theorem f_13_76 : fnd 13 76 = some (76, .aload_n 0, 1, 0, 0, 0, 0) := ceB_eq (by decide +kernel)
theorem f_13_77 : fnd 13 77 = some (77, .getfield 22, 3, 1, 3, 3, 0) := ceB_eq (by decide +kernel)
theorem f_13_80 : fnd 13 80 = some (80, .iload_n 2, 1, 0, 0, 0, 0) := ceB_eq (by decide +kernel)
theorem f_13_81 : fnd 13 81 = some (81, .iload 4, 2, 0, 0, 0, 0) := ceB_eq (by decide +kernel)
theorem f_13_83 : fnd 13 83 = some (83, .iastore, 1, 0, 0, 0, 0) := ceB_eq (by decide +kernel)
theorem f_13_84 : fnd 13 84 = some (84, .aload_n 0, 1, 0, 0, 0, 0) := ceB_eq (by decide +kernel)
theorem f_13_85 : fnd 13 85 = some (85, .getfield 25, 3, 1, 4, 4, 0) := ceB_eq (by decide +kernel)
theorem f_13_88 : fnd 13 88 = some (88, .iload_n 2, 1, 0, 0, 0, 0) := ceB_eq (by decide +kernel)
theorem f_13_89 : fnd 13 89 = some (89, .iconst 1, 1, 0, 0, 0, 0) := ceB_eq (by decide +kernel)
theorem f_13_90 : fnd 13 90 = some (90, .bastore, 1, 0, 0, 0, 0) := ceB_eq (by decide +kernel)
theorem f_13_91 : fnd 13 91 = some (91, .iconst (-1), 1, 0, 0, 0, 0) := ceB_eq (by decide +kernel)
theorem f_13_92 : fnd 13 92 = some (92, .ireturn, 1, 0, 0, 0, 0) := ceB_eq (by decide +kernel)
theorem rk_13 : rkm 13 = 0 := by decide +kernel
theorem ml_13 : (mth 13).2.1 = 5 := by decide +kernel
set_option maxRecDepth 100000 in
theorem T_Tape_readClause (k0 i0 : Int) (σ : ST) (Q : Option AV → ST → Prop) (h :
  wpM m_Tape_skipBlanks [.inr (.inr (1, k0, i0))] σ (asV fun s101 =>
  wpM m_Tape_skipLetters [.inr (.inr (1, k0, i0))] s101 (asV fun s102 =>
  wpM m_Tape_ruleOf [.inr (.inr (1, k0, i0)), .inl (s101 1 k0 i0 2)] s102 (asI fun r103 s103 =>
  (((r103 < 0 : Prop) →
    Q (some (.inl (s101 1 k0 i0 2))) s103) ∧
  (¬ (r103 < 0) →
    (((4 ≤ r103 : Prop) →
      Q (some (.inl (s101 1 k0 i0 2))) s103) ∧
    (¬ (4 ≤ r103) →
      ((0 : Int) ≤ r103 ∧ (r103 : Int) < 4) ∧
      ((((bz (s103 4 0 0 r103)) = 0 : Prop) →
        wpM m_Tape_skipBlanks [.inr (.inr (1, k0, i0))] s103 (asV fun s104 =>
        wpM m_Tape_readNumber [.inr (.inr (1, k0, i0))] s104 (asI fun r105 s105 =>
        ((0 : Int) ≤ r103 ∧ (r103 : Int) < 4) ∧
        (((r105 < (stv 62 r103) : Prop) →
          Q (some (.inl (s104 1 k0 i0 2))) s105) ∧
        (¬ (r105 < (stv 62 r103)) →
          ((0 : Int) ≤ r103 ∧ (r103 : Int) < 4) ∧
          (((r105 ≤ (stv 63 r103) : Prop) →
            ((0 : Int) ≤ r103 ∧ (r103 : Int) < 4) ∧
            (((0 : Int) ≤ r103 ∧ (r103 : Int) < 4) ∧ ((1 : Int) = 0 ∨ (1 : Int) = 1)) ∧
            Q (some (.inl (-1))) (up (up s105 3 0 0 r103 r105) 4 0 0 r103 1)) ∧
          (¬ (r105 ≤ (stv 63 r103)) →
            Q (some (.inl (s104 1 k0 i0 2))) s105))))))) ∧
      (¬ ((bz (s103 4 0 0 r103)) = 0) →
        Q (some (.inl (s101 1 k0 i0 2))) s103)))))))))) :
  wpM m_Tape_readClause [.inr (.inr (1, k0, i0))] σ Q :=
 wpM_of ml_13 (L := [some (.inr (.inr (1, k0, i0))), none, none, none, none]) rfl
 (w_aload_n (p' := 1) f_13_0 rfl rfl
 (w_callV (p' := 4) f_13_1 rfl rfl rfl rfl rfl (r := []) rfl rfl (kV rk_7 fun s101 h101 =>
 w_aload_n (p' := 5) f_13_4 rfl rfl
 (w_getfield (p' := 8) f_13_5 rfl (x := .inl (s101 1 k0 i0 2)) rfl rfl
 (w_istore_n (p' := 9) f_13_8 (L' := [some (.inr (.inr (1, k0, i0))), some (.inl (s101 1 k0 i0 2)), none, none, none]) rfl rfl
 (w_aload_n (p' := 10) f_13_9 rfl rfl
 (w_callV (p' := 13) f_13_10 rfl rfl rfl rfl rfl (r := []) rfl rfl (kV rk_8 fun s102 h102 =>
 w_aload_n (p' := 14) f_13_13 rfl rfl
 (w_iload_n (p' := 15) f_13_14 rfl rfl
 (w_callV (p' := 18) f_13_15 rfl rfl rfl rfl rfl (r := []) rfl rfl (kI (.inl rk_11) fun r103 s103 h103 =>
 w_istore_n (p' := 19) f_13_18 (L' := [some (.inr (.inr (1, k0, i0))), some (.inl (s101 1 k0 i0 2)), some (.inl r103), none, none]) rfl rfl
 (w_iload_n (p' := 20) f_13_19 rfl rfl
 (w_if (p' := 37) (q' := 23) f_13_20 rfl rfl
 (fun c110 => w_iload_n (p' := 38) f_13_37 rfl rfl
 (w_iret f_13_38 rk_13 (h103.1 c110)))
 (fun c110 => w_iload_n (p' := 24) f_13_23 rfl rfl
 (w_iconst (p' := 25) f_13_24 rfl
 (w_icmp (p' := 37) (q' := 28) f_13_25 rfl rfl
 (fun c109 => w_iload_n (p' := 38) f_13_37 rfl rfl
 (w_iret f_13_38 rk_13 ((h103.2 c110).1 c109)))
 (fun c109 => w_aload_n (p' := 29) f_13_28 rfl rfl
 (w_getfield (p' := 32) f_13_29 rfl (x := .inr (.inr (4, 0, 0))) rfl rfl
 (w_iload_n (p' := 33) f_13_32 rfl rfl
 (w_baload (p' := 34) f_13_33 rfl (n := 4) rfl ((h103.2 c110).2 c109).1 rfl
 (w_if (p' := 39) (q' := 37) f_13_34 rfl rfl
 (fun c108 => w_aload_n (p' := 40) f_13_39 rfl rfl
 (w_callV (p' := 43) f_13_40 rfl rfl rfl rfl rfl (r := []) rfl rfl (kV rk_7 fun s104 h104 =>
 w_aload_n (p' := 44) f_13_43 rfl rfl
 (w_getfield (p' := 47) f_13_44 rfl (x := .inl (s104 1 k0 i0 2)) rfl rfl
 (w_istore_n (p' := 48) f_13_47 (L' := [some (.inr (.inr (1, k0, i0))), some (.inl (s101 1 k0 i0 2)), some (.inl r103), some (.inl (s104 1 k0 i0 2)), none]) rfl rfl
 (w_aload_n (p' := 49) f_13_48 rfl rfl
 (w_callV (p' := 52) f_13_49 rfl rfl rfl rfl rfl (r := []) rfl rfl (kI (.inl rk_12) fun r105 s105 h105 =>
 w_istore (p' := 54) f_13_52 (L' := [some (.inr (.inr (1, k0, i0))), some (.inl (s101 1 k0 i0 2)), some (.inl r103), some (.inl (s104 1 k0 i0 2)), some (.inl r105)]) rfl rfl
 (w_iload (p' := 56) f_13_54 rfl rfl
 (w_getstatic (p' := 59) f_13_56 rfl
 (w_iload_n (p' := 60) f_13_59 rfl rfl
 (w_ialoadS (p' := 61) f_13_60 rfl (n := 4) rfl h105.1 rfl
 (w_icmp (p' := 74) (q' := 64) f_13_61 rfl rfl
 (fun c107 => w_iload_n (p' := 75) f_13_74 rfl rfl
 (w_iret f_13_75 rk_13 (h105.2.1 c107)))
 (fun c107 => w_iload (p' := 66) f_13_64 rfl rfl
 (w_getstatic (p' := 69) f_13_66 rfl
 (w_iload_n (p' := 70) f_13_69 rfl rfl
 (w_ialoadS (p' := 71) f_13_70 rfl (n := 4) rfl (h105.2.2 c107).1 rfl
 (w_icmp (p' := 76) (q' := 74) f_13_71 rfl rfl
 (fun c106 => w_aload_n (p' := 77) f_13_76 rfl rfl
 (w_getfield (p' := 80) f_13_77 rfl (x := .inr (.inr (3, 0, 0))) rfl rfl
 (w_iload_n (p' := 81) f_13_80 rfl rfl
 (w_iload (p' := 83) f_13_81 rfl rfl
 (w_iastore (p' := 84) f_13_83 rfl (n := 4) rfl ((h105.2.2 c107).2.1 c106).1 rfl
 (w_aload_n (p' := 85) f_13_84 rfl rfl
 (w_getfield (p' := 88) f_13_85 rfl (x := .inr (.inr (4, 0, 0))) rfl rfl
 (w_iload_n (p' := 89) f_13_88 rfl rfl
 (w_iconst (p' := 90) f_13_89 rfl
 (w_bastore (p' := 91) f_13_90 rfl (n := 4) rfl ((h105.2.2 c107).2.1 c106).2.1 rfl
 (w_iconst (p' := 92) f_13_91 rfl
 (w_iret f_13_92 rk_13 ((h105.2.2 c107).2.1 c106).2.2))))))))))))
 (fun c106 => w_iload_n (p' := 75) f_13_74 rfl rfl
 (w_iret f_13_75 rk_13 ((h105.2.2 c107).2.2 c106)))))))))))))) h104))))) (((h103.2 c110).2 c109).2.1 c108)))
 (fun c108 => w_iload_n (p' := 38) f_13_37 rfl rfl
 (w_iret f_13_38 rk_13 (((h103.2 c110).2 c109).2.2 c108)))))))))))))) h102))) h101))))) h))
/-! ClosedRooms$Tape.stepWord(I)Ljava/lang/String; -/
theorem f_14_0 : fnd 14 0 = some (0, .iload_n 0, 1, 0, 0, 0, 0) := ceB_eq (by decide +kernel)
theorem f_14_1 : fnd 14 1 = some (1, .tableswitch 120 0 14 #[75, 78, 81, 84, 87, 90, 93, 96, 99, 102, 105, 108, 111, 114, 117], 75, 0, 0, 0, 0) := ceB_eq (by decide +kernel)
theorem f_14_76 : fnd 14 76 = some (76, .ldc 114, 2, 1, 0, 0, 4) := ceB_eq (by decide +kernel)
theorem f_14_78 : fnd 14 78 = some (78, .areturn, 1, 0, 0, 0, 0) := ceB_eq (by decide +kernel)
theorem f_14_79 : fnd 14 79 = some (79, .ldc 116, 2, 1, 0, 0, 5) := ceB_eq (by decide +kernel)
theorem f_14_81 : fnd 14 81 = some (81, .areturn, 1, 0, 0, 0, 0) := ceB_eq (by decide +kernel)
theorem f_14_82 : fnd 14 82 = some (82, .ldc 118, 2, 1, 0, 0, 6) := ceB_eq (by decide +kernel)
theorem f_14_84 : fnd 14 84 = some (84, .areturn, 1, 0, 0, 0, 0) := ceB_eq (by decide +kernel)
theorem f_14_85 : fnd 14 85 = some (85, .ldc 120, 2, 1, 0, 0, 7) := ceB_eq (by decide +kernel)
theorem f_14_87 : fnd 14 87 = some (87, .areturn, 1, 0, 0, 0, 0) := ceB_eq (by decide +kernel)
theorem f_14_88 : fnd 14 88 = some (88, .ldc 122, 2, 1, 0, 0, 8) := ceB_eq (by decide +kernel)
theorem f_14_90 : fnd 14 90 = some (90, .areturn, 1, 0, 0, 0, 0) := ceB_eq (by decide +kernel)
theorem f_14_91 : fnd 14 91 = some (91, .ldc 124, 2, 1, 0, 0, 9) := ceB_eq (by decide +kernel)
theorem f_14_93 : fnd 14 93 = some (93, .areturn, 1, 0, 0, 0, 0) := ceB_eq (by decide +kernel)
theorem f_14_94 : fnd 14 94 = some (94, .ldc 126, 2, 1, 0, 0, 10) := ceB_eq (by decide +kernel)
theorem f_14_96 : fnd 14 96 = some (96, .areturn, 1, 0, 0, 0, 0) := ceB_eq (by decide +kernel)
theorem f_14_97 : fnd 14 97 = some (97, .ldc 128, 2, 1, 0, 0, 11) := ceB_eq (by decide +kernel)
theorem f_14_99 : fnd 14 99 = some (99, .areturn, 1, 0, 0, 0, 0) := ceB_eq (by decide +kernel)
theorem f_14_100 : fnd 14 100 = some (100, .ldc 130, 2, 1, 0, 0, 12) := ceB_eq (by decide +kernel)
theorem f_14_102 : fnd 14 102 = some (102, .areturn, 1, 0, 0, 0, 0) := ceB_eq (by decide +kernel)
theorem f_14_103 : fnd 14 103 = some (103, .ldc 132, 2, 1, 0, 0, 13) := ceB_eq (by decide +kernel)
theorem f_14_105 : fnd 14 105 = some (105, .areturn, 1, 0, 0, 0, 0) := ceB_eq (by decide +kernel)
theorem f_14_106 : fnd 14 106 = some (106, .ldc 134, 2, 1, 0, 0, 14) := ceB_eq (by decide +kernel)
theorem f_14_108 : fnd 14 108 = some (108, .areturn, 1, 0, 0, 0, 0) := ceB_eq (by decide +kernel)
theorem f_14_109 : fnd 14 109 = some (109, .ldc 136, 2, 1, 0, 0, 15) := ceB_eq (by decide +kernel)
theorem f_14_111 : fnd 14 111 = some (111, .areturn, 1, 0, 0, 0, 0) := ceB_eq (by decide +kernel)
theorem f_14_112 : fnd 14 112 = some (112, .ldc 138, 2, 1, 0, 0, 16) := ceB_eq (by decide +kernel)
theorem f_14_114 : fnd 14 114 = some (114, .areturn, 1, 0, 0, 0, 0) := ceB_eq (by decide +kernel)
theorem f_14_115 : fnd 14 115 = some (115, .ldc 140, 2, 1, 0, 0, 17) := ceB_eq (by decide +kernel)
theorem f_14_117 : fnd 14 117 = some (117, .areturn, 1, 0, 0, 0, 0) := ceB_eq (by decide +kernel)
theorem f_14_118 : fnd 14 118 = some (118, .ldc 142, 2, 1, 0, 0, 18) := ceB_eq (by decide +kernel)
theorem f_14_120 : fnd 14 120 = some (120, .areturn, 1, 0, 0, 0, 0) := ceB_eq (by decide +kernel)
theorem f_14_121 : fnd 14 121 = some (121, .ldc 144, 2, 1, 0, 0, 19) := ceB_eq (by decide +kernel)
theorem f_14_123 : fnd 14 123 = some (123, .areturn, 1, 0, 0, 0, 0) := ceB_eq (by decide +kernel)
theorem rk_14 : rkm 14 = 3 := by decide +kernel
theorem ml_14 : (mth 14).2.1 = 1 := by decide +kernel
set_option maxRecDepth 100000 in
theorem T_Tape_stepWord (x1 : Int) (σ : ST) (Q : Option AV → ST → Prop) (h :
  ((x1 = 0 →
    Q (some (.inr (.inr (70, 4, 0)))) σ) ∧ (x1 ≠ 0 →
  ((x1 = 1 →
    Q (some (.inr (.inr (70, 5, 0)))) σ) ∧ (x1 ≠ 1 →
  ((x1 = 2 →
    Q (some (.inr (.inr (70, 6, 0)))) σ) ∧ (x1 ≠ 2 →
  ((x1 = 3 →
    Q (some (.inr (.inr (70, 7, 0)))) σ) ∧ (x1 ≠ 3 →
  ((x1 = 4 →
    Q (some (.inr (.inr (70, 8, 0)))) σ) ∧ (x1 ≠ 4 →
  ((x1 = 5 →
    Q (some (.inr (.inr (70, 9, 0)))) σ) ∧ (x1 ≠ 5 →
  ((x1 = 6 →
    Q (some (.inr (.inr (70, 10, 0)))) σ) ∧ (x1 ≠ 6 →
  ((x1 = 7 →
    Q (some (.inr (.inr (70, 11, 0)))) σ) ∧ (x1 ≠ 7 →
  ((x1 = 8 →
    Q (some (.inr (.inr (70, 12, 0)))) σ) ∧ (x1 ≠ 8 →
  ((x1 = 9 →
    Q (some (.inr (.inr (70, 13, 0)))) σ) ∧ (x1 ≠ 9 →
  ((x1 = 10 →
    Q (some (.inr (.inr (70, 14, 0)))) σ) ∧ (x1 ≠ 10 →
  ((x1 = 11 →
    Q (some (.inr (.inr (70, 15, 0)))) σ) ∧ (x1 ≠ 11 →
  ((x1 = 12 →
    Q (some (.inr (.inr (70, 16, 0)))) σ) ∧ (x1 ≠ 12 →
  ((x1 = 13 →
    Q (some (.inr (.inr (70, 17, 0)))) σ) ∧ (x1 ≠ 13 →
  ((x1 = 14 →
    Q (some (.inr (.inr (70, 18, 0)))) σ) ∧ (x1 ≠ 14 →
    Q (some (.inr (.inr (70, 19, 0)))) σ))))))))))))))))))))))))))))))) :
  wpM m_Tape_stepWord [.inl x1] σ Q :=
 wpM_of ml_14 (L := [some (.inl x1)]) rfl
 (w_iload_n (p' := 1) f_14_0 rfl rfl
 (w_switch f_14_1 (cs := [(0, 76), (1, 79), (2, 82), (3, 85), (4, 88), (5, 91), (6, 94), (7, 97), (8, 100), (9, 103), (10, 106), (11, 109), (12, 112), (13, 115), (14, 118)]) rfl (d' := 121) rfl
 (⟨fun c101 => w_ldcS (p' := 78) f_14_76 rfl
 (w_aret f_14_78 rk_14 (h.1 c101)), fun c101_0 =>
 ⟨fun c101 => w_ldcS (p' := 81) f_14_79 rfl
 (w_aret f_14_81 rk_14 ((h.2 c101_0).1 c101)), fun c101_1 =>
 ⟨fun c101 => w_ldcS (p' := 84) f_14_82 rfl
 (w_aret f_14_84 rk_14 (((h.2 c101_0).2 c101_1).1 c101)), fun c101_2 =>
 ⟨fun c101 => w_ldcS (p' := 87) f_14_85 rfl
 (w_aret f_14_87 rk_14 ((((h.2 c101_0).2 c101_1).2 c101_2).1 c101)), fun c101_3 =>
 ⟨fun c101 => w_ldcS (p' := 90) f_14_88 rfl
 (w_aret f_14_90 rk_14 (((((h.2 c101_0).2 c101_1).2 c101_2).2 c101_3).1 c101)), fun c101_4 =>
 ⟨fun c101 => w_ldcS (p' := 93) f_14_91 rfl
 (w_aret f_14_93 rk_14 ((((((h.2 c101_0).2 c101_1).2 c101_2).2 c101_3).2 c101_4).1 c101)), fun c101_5 =>
 ⟨fun c101 => w_ldcS (p' := 96) f_14_94 rfl
 (w_aret f_14_96 rk_14 (((((((h.2 c101_0).2 c101_1).2 c101_2).2 c101_3).2 c101_4).2 c101_5).1 c101)), fun c101_6 =>
 ⟨fun c101 => w_ldcS (p' := 99) f_14_97 rfl
 (w_aret f_14_99 rk_14 ((((((((h.2 c101_0).2 c101_1).2 c101_2).2 c101_3).2 c101_4).2 c101_5).2 c101_6).1 c101)), fun c101_7 =>
 ⟨fun c101 => w_ldcS (p' := 102) f_14_100 rfl
 (w_aret f_14_102 rk_14 (((((((((h.2 c101_0).2 c101_1).2 c101_2).2 c101_3).2 c101_4).2 c101_5).2 c101_6).2 c101_7).1 c101)), fun c101_8 =>
 ⟨fun c101 => w_ldcS (p' := 105) f_14_103 rfl
 (w_aret f_14_105 rk_14 ((((((((((h.2 c101_0).2 c101_1).2 c101_2).2 c101_3).2 c101_4).2 c101_5).2 c101_6).2 c101_7).2 c101_8).1 c101)), fun c101_9 =>
 ⟨fun c101 => w_ldcS (p' := 108) f_14_106 rfl
 (w_aret f_14_108 rk_14 (((((((((((h.2 c101_0).2 c101_1).2 c101_2).2 c101_3).2 c101_4).2 c101_5).2 c101_6).2 c101_7).2 c101_8).2 c101_9).1 c101)), fun c101_10 =>
 ⟨fun c101 => w_ldcS (p' := 111) f_14_109 rfl
 (w_aret f_14_111 rk_14 ((((((((((((h.2 c101_0).2 c101_1).2 c101_2).2 c101_3).2 c101_4).2 c101_5).2 c101_6).2 c101_7).2 c101_8).2 c101_9).2 c101_10).1 c101)), fun c101_11 =>
 ⟨fun c101 => w_ldcS (p' := 114) f_14_112 rfl
 (w_aret f_14_114 rk_14 (((((((((((((h.2 c101_0).2 c101_1).2 c101_2).2 c101_3).2 c101_4).2 c101_5).2 c101_6).2 c101_7).2 c101_8).2 c101_9).2 c101_10).2 c101_11).1 c101)), fun c101_12 =>
 ⟨fun c101 => w_ldcS (p' := 117) f_14_115 rfl
 (w_aret f_14_117 rk_14 ((((((((((((((h.2 c101_0).2 c101_1).2 c101_2).2 c101_3).2 c101_4).2 c101_5).2 c101_6).2 c101_7).2 c101_8).2 c101_9).2 c101_10).2 c101_11).2 c101_12).1 c101)), fun c101_13 =>
 ⟨fun c101 => w_ldcS (p' := 120) f_14_118 rfl
 (w_aret f_14_120 rk_14 (((((((((((((((h.2 c101_0).2 c101_1).2 c101_2).2 c101_3).2 c101_4).2 c101_5).2 c101_6).2 c101_7).2 c101_8).2 c101_9).2 c101_10).2 c101_11).2 c101_12).2 c101_13).1 c101)), fun c101_14 =>
 w_ldcS (p' := 123) f_14_121 rfl
 (w_aret f_14_123 rk_14 (((((((((((((((h.2 c101_0).2 c101_1).2 c101_2).2 c101_3).2 c101_4).2 c101_5).2 c101_6).2 c101_7).2 c101_8).2 c101_9).2 c101_10).2 c101_11).2 c101_12).2 c101_13).2 c101_14))⟩⟩⟩⟩⟩⟩⟩⟩⟩⟩⟩⟩⟩⟩⟩)))
/-! ClosedRooms$Tape.stepOf(I)I -/
theorem f_15_0 : fnd 15 0 = some (0, .iconst 0, 1, 0, 0, 0, 0) := ceB_eq (by decide +kernel)
theorem f_15_1 : fnd 15 1 = some (1, .istore_n 2, 1, 0, 0, 0, 0) := ceB_eq (by decide +kernel)
theorem f_15_2 : fnd 15 2 = some (2, .iload_n 2, 1, 0, 0, 0, 0) := ceB_eq (by decide +kernel)
theorem f_15_3 : fnd 15 3 = some (3, .bipush 16, 2, 0, 0, 0, 0) := ceB_eq (by decide +kernel)
theorem f_15_5 : fnd 15 5 = some (5, .if_icmp .ge 23, 3, 0, 0, 0, 0) := ceB_eq (by decide +kernel)
theorem f_15_8 : fnd 15 8 = some (8, .aload_n 0, 1, 0, 0, 0, 0) := ceB_eq (by decide +kernel)
theorem f_15_9 : fnd 15 9 = some (9, .iload_n 1, 1, 0, 0, 0, 0) := ceB_eq (by decide +kernel)
theorem f_15_10 : fnd 15 10 = some (10, .iload_n 2, 1, 0, 0, 0, 0) := ceB_eq (by decide +kernel)
theorem f_15_11 : fnd 15 11 = some (11, .invokestatic 95, 3, 14, 1, 1, 70) := ceB_eq (by decide +kernel)
theorem f_15_14 : fnd 15 14 = some (14, .invokevirtual 91, 3, 10, 3, 1, 0) := ceB_eq (by decide +kernel)
theorem f_15_17 : fnd 15 17 = some (17, .ifCond .eq 5, 3, 0, 0, 0, 0) := ceB_eq (by decide +kernel)
theorem f_15_20 : fnd 15 20 = some (20, .iload_n 2, 1, 0, 0, 0, 0) := ceB_eq (by decide +kernel)
theorem f_15_21 : fnd 15 21 = some (21, .ireturn, 1, 0, 0, 0, 0) := ceB_eq (by decide +kernel)
theorem f_15_22 : fnd 15 22 = some (22, .iinc 2 1, 3, 0, 0, 0, 0) := ceB_eq (by decide +kernel)
theorem f_15_25 : fnd 15 25 = some (25, .goto (-23), 3, 0, 0, 0, 0) := ceB_eq (by decide +kernel)
theorem f_15_28 : fnd 15 28 = some (28, .iconst (-1), 1, 0, 0, 0, 0) := ceB_eq (by decide +kernel)
theorem f_15_29 : fnd 15 29 = some (29, .ireturn, 1, 0, 0, 0, 0) := ceB_eq (by decide +kernel)
theorem rk_15 : rkm 15 = 0 := by decide +kernel
theorem ml_15 : (mth 15).2.1 = 3 := by decide +kernel
set_option maxRecDepth 100000 in
theorem T_Tape_stepOf (k0 i0 x1 : Int) (σ : ST) (Q : Option AV → ST → Prop) (h :
  wp m_Tape_stepOf (2, [some (.inr (.inr (1, k0, i0))), some (.inl x1), some (.inl 0)], [], σ) Q) :
  wpM m_Tape_stepOf [.inr (.inr (1, k0, i0)), .inl x1] σ Q :=
 wpM_of ml_15 (L := [some (.inr (.inr (1, k0, i0))), some (.inl x1), none]) rfl
 (w_iconst (p' := 1) f_15_0 rfl
 (w_istore_n (p' := 2) f_15_1 (L' := [some (.inr (.inr (1, k0, i0))), some (.inl x1), some (.inl 0)]) rfl rfl
 (h)))
set_option maxRecDepth 100000 in
theorem T_Tape_stepOf_2 (k0 i0 x1 x2 : Int) (σ : ST) (Q : Option AV → ST → Prop) (h :
  (((16 ≤ x2 : Prop) →
    Q (some (.inl (-1))) σ) ∧
  (¬ (16 ≤ x2) →
    wpM m_Tape_stepWord [.inl x2] σ (asR 70 fun a101 b101 s101 =>
    wpM m_Tape_isWord [.inr (.inr (1, k0, i0)), .inl x1, .inr (.inr (70, a101, b101))] s101 (asI fun r102 s102 =>
    (((r102 = 0 : Prop) →
      wp m_Tape_stepOf (2, [some (.inr (.inr (1, k0, i0))), some (.inl x1), some (.inl (wr (x2 + 1)))], [], s102) Q) ∧
    (¬ (r102 = 0) →
      Q (some (.inl x2)) s102))))))) :
  wp m_Tape_stepOf (2, [some (.inr (.inr (1, k0, i0))), some (.inl x1), some (.inl x2)], [], σ) Q :=
 w_iload_n (p' := 3) f_15_2 rfl rfl
 (w_bipush (p' := 5) f_15_3 rfl
 (w_icmp (p' := 28) (q' := 8) f_15_5 rfl rfl
 (fun c104 => w_iconst (p' := 29) f_15_28 rfl
 (w_iret f_15_29 rk_15 (h.1 c104)))
 (fun c104 => w_aload_n (p' := 9) f_15_8 rfl rfl
 (w_iload_n (p' := 10) f_15_9 rfl rfl
 (w_iload_n (p' := 11) f_15_10 rfl rfl
 (w_callS (p' := 14) f_15_11 rfl rfl rfl (r := [.inl x1, .inr (.inr (1, k0, i0))]) rfl rfl (kR rfl rk_14 fun a101 b101 s101 h101 =>
 w_callV (p' := 17) f_15_14 rfl rfl rfl rfl rfl (r := []) rfl rfl (kI (.inr rk_10) fun r102 s102 h102 =>
 w_if (p' := 22) (q' := 20) f_15_17 rfl rfl
 (fun c103 => w_iinc (p' := 25) f_15_22 rfl (L' := [some (.inr (.inr (1, k0, i0))), some (.inl x1), some (.inl (wr (x2 + 1)))]) rfl rfl
 (w_goto (p' := 2) f_15_25 rfl
 ((h102.1 c103))))
 (fun c103 => w_iload_n (p' := 21) f_15_20 rfl rfl
 (w_iret f_15_21 rk_15 (h102.2 c103)))) h101) (h.2 c104)))))))
/-! ClosedRooms$Script.hasStep(I)Z -/
theorem f_16_0 : fnd 16 0 = some (0, .iload_n 1, 1, 0, 0, 0, 0) := ceB_eq (by decide +kernel)
theorem f_16_1 : fnd 16 1 = some (1, .ifCond .lt 21, 3, 0, 0, 0, 0) := ceB_eq (by decide +kernel)
theorem f_16_4 : fnd 16 4 = some (4, .iload_n 1, 1, 0, 0, 0, 0) := ceB_eq (by decide +kernel)
theorem f_16_5 : fnd 16 5 = some (5, .aload_n 0, 1, 0, 0, 0, 0) := ceB_eq (by decide +kernel)
theorem f_16_6 : fnd 16 6 = some (6, .getfield 9, 3, 2, 0, 0, 0) := ceB_eq (by decide +kernel)
theorem f_16_9 : fnd 16 9 = some (9, .if_icmp .ge 13, 3, 0, 0, 0, 0) := ceB_eq (by decide +kernel)
theorem f_16_12 : fnd 16 12 = some (12, .iload_n 1, 1, 0, 0, 0, 0) := ceB_eq (by decide +kernel)
theorem f_16_13 : fnd 16 13 = some (13, .bipush 12, 2, 0, 0, 0, 0) := ceB_eq (by decide +kernel)
theorem f_16_15 : fnd 16 15 = some (15, .if_icmp .ge 7, 3, 0, 0, 0, 0) := ceB_eq (by decide +kernel)
theorem f_16_18 : fnd 16 18 = some (18, .iconst 1, 1, 0, 0, 0, 0) := ceB_eq (by decide +kernel)
theorem f_16_19 : fnd 16 19 = some (19, .goto 4, 3, 0, 0, 0, 0) := ceB_eq (by decide +kernel)
theorem f_16_22 : fnd 16 22 = some (22, .iconst 0, 1, 0, 0, 0, 0) := ceB_eq (by decide +kernel)
theorem f_16_23 : fnd 16 23 = some (23, .ireturn, 1, 0, 0, 0, 0) := ceB_eq (by decide +kernel)
theorem rk_16 : rkm 16 = 1 := by decide +kernel
theorem ml_16 : (mth 16).2.1 = 2 := by decide +kernel
set_option maxRecDepth 100000 in
theorem T_Script_hasStep (k0 i0 x1 : Int) (σ : ST) (Q : Option AV → ST → Prop) (h :
  (((x1 < 0 : Prop) →
    ((0 : Int) = 0 ∨ (0 : Int) = 1) ∧ Q (some (.inl 0)) σ) ∧
  (¬ (x1 < 0) →
    ((((σ 5 k0 i0 0) ≤ x1 : Prop) →
      ((0 : Int) = 0 ∨ (0 : Int) = 1) ∧ Q (some (.inl 0)) σ) ∧
    (¬ ((σ 5 k0 i0 0) ≤ x1) →
      (((12 ≤ x1 : Prop) →
        ((0 : Int) = 0 ∨ (0 : Int) = 1) ∧ Q (some (.inl 0)) σ) ∧
      (¬ (12 ≤ x1) →
        ((1 : Int) = 0 ∨ (1 : Int) = 1) ∧ Q (some (.inl 1)) σ))))))) :
  wpM m_Script_hasStep [.inr (.inr (5, k0, i0)), .inl x1] σ Q :=
 wpM_of ml_16 (L := [some (.inr (.inr (5, k0, i0))), some (.inl x1)]) rfl
 (w_iload_n (p' := 1) f_16_0 rfl rfl
 (w_if (p' := 22) (q' := 4) f_16_1 rfl rfl
 (fun c103 => w_iconst (p' := 23) f_16_22 rfl
 (w_zret f_16_23 rk_16 (h.1 c103).1 (h.1 c103).2))
 (fun c103 => w_iload_n (p' := 5) f_16_4 rfl rfl
 (w_aload_n (p' := 6) f_16_5 rfl rfl
 (w_getfield (p' := 9) f_16_6 rfl (x := .inl (σ 5 k0 i0 0)) rfl rfl
 (w_icmp (p' := 22) (q' := 12) f_16_9 rfl rfl
 (fun c102 => w_iconst (p' := 23) f_16_22 rfl
 (w_zret f_16_23 rk_16 ((h.2 c103).1 c102).1 ((h.2 c103).1 c102).2))
 (fun c102 => w_iload_n (p' := 13) f_16_12 rfl rfl
 (w_bipush (p' := 15) f_16_13 rfl
 (w_icmp (p' := 22) (q' := 18) f_16_15 rfl rfl
 (fun c101 => w_iconst (p' := 23) f_16_22 rfl
 (w_zret f_16_23 rk_16 (((h.2 c103).2 c102).1 c101).1 (((h.2 c103).2 c102).1 c101).2))
 (fun c101 => w_iconst (p' := 19) f_16_18 rfl
 (w_goto (p' := 23) f_16_19 rfl
 (w_zret f_16_23 rk_16 (((h.2 c103).2 c102).2 c101).1 (((h.2 c103).2 c102).2 c101).2))))))))))))
/-! ClosedRooms$Script.write(II)V -/
theorem f_17_0 : fnd 17 0 = some (0, .aload_n 0, 1, 0, 0, 0, 0) := ceB_eq (by decide +kernel)
theorem f_17_1 : fnd 17 1 = some (1, .aload_n 0, 1, 0, 0, 0, 0) := ceB_eq (by decide +kernel)
theorem f_17_2 : fnd 17 2 = some (2, .getfield 9, 3, 2, 0, 0, 0) := ceB_eq (by decide +kernel)
theorem f_17_5 : fnd 17 5 = some (5, .iconst 1, 1, 0, 0, 0, 0) := ceB_eq (by decide +kernel)
theorem f_17_6 : fnd 17 6 = some (6, .isub, 1, 0, 0, 0, 0) := ceB_eq (by decide +kernel)
theorem f_17_7 : fnd 17 7 = some (7, .invokevirtual 25, 3, 16, 2, 2, 0) := ceB_eq (by decide +kernel)
theorem f_17_10 : fnd 17 10 = some (10, .ifCond .eq 13, 3, 0, 0, 0, 0) := ceB_eq (by decide +kernel)
theorem f_17_13 : fnd 17 13 = some (13, .iload_n 1, 1, 0, 0, 0, 0) := ceB_eq (by decide +kernel)
theorem f_17_14 : fnd 17 14 = some (14, .ifCond .lt 9, 3, 0, 0, 0, 0) := ceB_eq (by decide +kernel)
theorem f_17_17 : fnd 17 17 = some (17, .iload_n 1, 1, 0, 0, 0, 0) := ceB_eq (by decide +kernel)
theorem f_17_18 : fnd 17 18 = some (18, .bipush 6, 2, 0, 0, 0, 0) := ceB_eq (by decide +kernel)
theorem f_17_20 : fnd 17 20 = some (20, .if_icmp .lt 4, 3, 0, 0, 0, 0) := ceB_eq (by decide +kernel)
theorem f_17_23 : fnd 17 23 = some (23, .return_, 1, 0, 0, 0, 0) := ceB_eq (by decide +kernel)
theorem f_17_24 : fnd 17 24 = some (24, .aload_n 0, 1, 0, 0, 0, 0) := ceB_eq (by decide +kernel)
theorem f_17_25 : fnd 17 25 = some (25, .getfield 15, 3, 2, 1, 1, 0) := ceB_eq (by decide +kernel)
theorem f_17_28 : fnd 17 28 = some (28, .aload_n 0, 1, 0, 0, 0, 0) := ceB_eq (by decide +kernel)
theorem f_17_29 : fnd 17 29 = some (29, .getfield 9, 3, 2, 0, 0, 0) := ceB_eq (by decide +kernel)
theorem f_17_32 : fnd 17 32 = some (32, .iconst 1, 1, 0, 0, 0, 0) := ceB_eq (by decide +kernel)
theorem f_17_33 : fnd 17 33 = some (33, .isub, 1, 0, 0, 0, 0) := ceB_eq (by decide +kernel)
theorem f_17_34 : fnd 17 34 = some (34, .bipush 6, 2, 0, 0, 0, 0) := ceB_eq (by decide +kernel)
theorem f_17_36 : fnd 17 36 = some (36, .imul, 1, 0, 0, 0, 0) := ceB_eq (by decide +kernel)
theorem f_17_37 : fnd 17 37 = some (37, .iload_n 1, 1, 0, 0, 0, 0) := ceB_eq (by decide +kernel)
theorem f_17_38 : fnd 17 38 = some (38, .iadd, 1, 0, 0, 0, 0) := ceB_eq (by decide +kernel)
theorem f_17_39 : fnd 17 39 = some (39, .iload_n 2, 1, 0, 0, 0, 0) := ceB_eq (by decide +kernel)
theorem f_17_40 : fnd 17 40 = some (40, .iastore, 1, 0, 0, 0, 0) := ceB_eq (by decide +kernel)
theorem f_17_41 : fnd 17 41 = some (41, .return_, 1, 0, 0, 0, 0) := ceB_eq (by decide +kernel)
theorem rk_17 : rkm 17 = 4 := by decide +kernel
theorem ml_17 : (mth 17).2.1 = 3 := by decide +kernel
set_option maxRecDepth 100000 in
theorem T_Script_write (k0 i0 x1 x2 : Int) (σ : ST) (Q : Option AV → ST → Prop) (h :
  wpM m_Script_hasStep [.inr (.inr (5, k0, i0)), .inl (wr ((σ 5 k0 i0 0) - 1))] σ (asI fun r101 s101 =>
  (((r101 = 0 : Prop) →
    Q none s101) ∧
  (¬ (r101 = 0) →
    (((x1 < 0 : Prop) →
      Q none s101) ∧
    (¬ (x1 < 0) →
      (((x1 < 6 : Prop) →
        ((0 : Int) ≤ (wr ((wr ((wr ((s101 5 k0 i0 0) - 1)) * 6)) + x1)) ∧ ((wr ((wr ((wr ((s101 5 k0 i0 0) - 1)) * 6)) + x1)) : Int) < 72) ∧
        Q none (up s101 6 k0 0 (wr ((wr ((wr ((s101 5 k0 i0 0) - 1)) * 6)) + x1)) x2)) ∧
      (¬ (x1 < 6) →
        Q none s101)))))))) :
  wpM m_Script_write [.inr (.inr (5, k0, i0)), .inl x1, .inl x2] σ Q :=
 wpM_of ml_17 (L := [some (.inr (.inr (5, k0, i0))), some (.inl x1), some (.inl x2)]) rfl
 (w_aload_n (p' := 1) f_17_0 rfl rfl
 (w_aload_n (p' := 2) f_17_1 rfl rfl
 (w_getfield (p' := 5) f_17_2 rfl (x := .inl (σ 5 k0 i0 0)) rfl rfl
 (w_iconst (p' := 6) f_17_5 rfl
 (w_isub (p' := 7) f_17_6 rfl
 (w_callV (p' := 10) f_17_7 rfl rfl rfl rfl rfl (r := []) rfl rfl (kI (.inr rk_16) fun r101 s101 h101 =>
 w_if (p' := 23) (q' := 13) f_17_10 rfl rfl
 (fun c104 => w_vret f_17_23 rk_17 (h101.1 c104))
 (fun c104 => w_iload_n (p' := 14) f_17_13 rfl rfl
 (w_if (p' := 23) (q' := 17) f_17_14 rfl rfl
 (fun c103 => w_vret f_17_23 rk_17 ((h101.2 c104).1 c103))
 (fun c103 => w_iload_n (p' := 18) f_17_17 rfl rfl
 (w_bipush (p' := 20) f_17_18 rfl
 (w_icmp (p' := 24) (q' := 23) f_17_20 rfl rfl
 (fun c102 => w_aload_n (p' := 25) f_17_24 rfl rfl
 (w_getfield (p' := 28) f_17_25 rfl (x := .inr (.inr (6, k0, 0))) rfl rfl
 (w_aload_n (p' := 29) f_17_28 rfl rfl
 (w_getfield (p' := 32) f_17_29 rfl (x := .inl (s101 5 k0 i0 0)) rfl rfl
 (w_iconst (p' := 33) f_17_32 rfl
 (w_isub (p' := 34) f_17_33 rfl
 (w_bipush (p' := 36) f_17_34 rfl
 (w_imul (p' := 37) f_17_36 rfl
 (w_iload_n (p' := 38) f_17_37 rfl rfl
 (w_iadd (p' := 39) f_17_38 rfl
 (w_iload_n (p' := 40) f_17_39 rfl rfl
 (w_iastore (p' := 41) f_17_40 rfl (n := 72) rfl (((h101.2 c104).2 c103).1 c102).1 rfl
 (w_vret f_17_41 rk_17 (((h101.2 c104).2 c103).1 c102).2)))))))))))))
 (fun c102 => w_vret f_17_23 rk_17 (((h101.2 c104).2 c103).2 c102)))))))) h))))))
/-! ClosedRooms$Script.open(I)V -/
theorem f_18_0 : fnd 18 0 = some (0, .aload_n 0, 1, 0, 0, 0, 0) := ceB_eq (by decide +kernel)
theorem f_18_1 : fnd 18 1 = some (1, .getfield 9, 3, 2, 0, 0, 0) := ceB_eq (by decide +kernel)
theorem f_18_4 : fnd 18 4 = some (4, .ifCond .lt 12, 3, 0, 0, 0, 0) := ceB_eq (by decide +kernel)
theorem f_18_7 : fnd 18 7 = some (7, .aload_n 0, 1, 0, 0, 0, 0) := ceB_eq (by decide +kernel)
theorem f_18_8 : fnd 18 8 = some (8, .getfield 9, 3, 2, 0, 0, 0) := ceB_eq (by decide +kernel)
theorem f_18_11 : fnd 18 11 = some (11, .bipush 12, 2, 0, 0, 0, 0) := ceB_eq (by decide +kernel)
theorem f_18_13 : fnd 18 13 = some (13, .if_icmp .lt 4, 3, 0, 0, 0, 0) := ceB_eq (by decide +kernel)
theorem f_18_16 : fnd 18 16 = some (16, .return_, 1, 0, 0, 0, 0) := ceB_eq (by decide +kernel)
theorem f_18_17 : fnd 18 17 = some (17, .aload_n 0, 1, 0, 0, 0, 0) := ceB_eq (by decide +kernel)
theorem f_18_18 : fnd 18 18 = some (18, .dup, 1, 0, 0, 0, 0) := ceB_eq (by decide +kernel)
theorem f_18_19 : fnd 18 19 = some (19, .getfield 9, 3, 2, 0, 0, 0) := ceB_eq (by decide +kernel)
theorem f_18_22 : fnd 18 22 = some (22, .iconst 1, 1, 0, 0, 0, 0) := ceB_eq (by decide +kernel)
theorem f_18_23 : fnd 18 23 = some (23, .iadd, 1, 0, 0, 0, 0) := ceB_eq (by decide +kernel)
theorem f_18_24 : fnd 18 24 = some (24, .putfield 9, 3, 2, 0, 0, 0) := ceB_eq (by decide +kernel)
theorem f_18_27 : fnd 18 27 = some (27, .iconst 0, 1, 0, 0, 0, 0) := ceB_eq (by decide +kernel)
theorem f_18_28 : fnd 18 28 = some (28, .istore_n 2, 1, 0, 0, 0, 0) := ceB_eq (by decide +kernel)
theorem f_18_29 : fnd 18 29 = some (29, .iload_n 2, 1, 0, 0, 0, 0) := ceB_eq (by decide +kernel)
theorem f_18_30 : fnd 18 30 = some (30, .bipush 6, 2, 0, 0, 0, 0) := ceB_eq (by decide +kernel)
theorem f_18_32 : fnd 18 32 = some (32, .if_icmp .ge 15, 3, 0, 0, 0, 0) := ceB_eq (by decide +kernel)
theorem f_18_35 : fnd 18 35 = some (35, .aload_n 0, 1, 0, 0, 0, 0) := ceB_eq (by decide +kernel)
theorem f_18_36 : fnd 18 36 = some (36, .iload_n 2, 1, 0, 0, 0, 0) := ceB_eq (by decide +kernel)
theorem f_18_37 : fnd 18 37 = some (37, .iconst (-1), 1, 0, 0, 0, 0) := ceB_eq (by decide +kernel)
theorem f_18_38 : fnd 18 38 = some (38, .invokevirtual 29, 3, 17, 3, 2, 0) := ceB_eq (by decide +kernel)
theorem f_18_41 : fnd 18 41 = some (41, .iinc 2 1, 3, 0, 0, 0, 0) := ceB_eq (by decide +kernel)
theorem f_18_44 : fnd 18 44 = some (44, .goto (-15), 3, 0, 0, 0, 0) := ceB_eq (by decide +kernel)
theorem f_18_47 : fnd 18 47 = some (47, .aload_n 0, 1, 0, 0, 0, 0) := ceB_eq (by decide +kernel)
theorem f_18_48 : fnd 18 48 = some (48, .iconst 0, 1, 0, 0, 0, 0) := ceB_eq (by decide +kernel)
theorem f_18_49 : fnd 18 49 = some (49, .iload_n 1, 1, 0, 0, 0, 0) := ceB_eq (by decide +kernel)
theorem f_18_50 : fnd 18 50 = some (50, .invokevirtual 29, 3, 17, 3, 2, 0) := ceB_eq (by decide +kernel)
theorem f_18_53 : fnd 18 53 = some (53, .return_, 1, 0, 0, 0, 0) := ceB_eq (by decide +kernel)
theorem rk_18 : rkm 18 = 4 := by decide +kernel
theorem ml_18 : (mth 18).2.1 = 3 := by decide +kernel
set_option maxRecDepth 100000 in
theorem T_Script_open (k0 i0 x1 : Int) (σ : ST) (Q : Option AV → ST → Prop) (h :
  ((((σ 5 k0 i0 0) < 0 : Prop) →
    Q none σ) ∧
  (¬ ((σ 5 k0 i0 0) < 0) →
    ((((σ 5 k0 i0 0) < 12 : Prop) →
      wp m_Script_open (29, [some (.inr (.inr (5, k0, i0))), some (.inl x1), some (.inl 0)], [], (up σ 5 k0 i0 0 (wr ((σ 5 k0 i0 0) + 1)))) Q) ∧
    (¬ ((σ 5 k0 i0 0) < 12) →
      Q none σ))))) :
  wpM m_Script_open [.inr (.inr (5, k0, i0)), .inl x1] σ Q :=
 wpM_of ml_18 (L := [some (.inr (.inr (5, k0, i0))), some (.inl x1), none]) rfl
 (w_aload_n (p' := 1) f_18_0 rfl rfl
 (w_getfield (p' := 4) f_18_1 rfl (x := .inl (σ 5 k0 i0 0)) rfl rfl
 (w_if (p' := 16) (q' := 7) f_18_4 rfl rfl
 (fun c102 => w_vret f_18_16 rk_18 (h.1 c102))
 (fun c102 => w_aload_n (p' := 8) f_18_7 rfl rfl
 (w_getfield (p' := 11) f_18_8 rfl (x := .inl (σ 5 k0 i0 0)) rfl rfl
 (w_bipush (p' := 13) f_18_11 rfl
 (w_icmp (p' := 17) (q' := 16) f_18_13 rfl rfl
 (fun c101 => w_aload_n (p' := 18) f_18_17 rfl rfl
 (w_dupR (p' := 19) f_18_18 rfl
 (w_getfield (p' := 22) f_18_19 rfl (x := .inl (σ 5 k0 i0 0)) rfl rfl
 (w_iconst (p' := 23) f_18_22 rfl
 (w_iadd (p' := 24) f_18_23 rfl
 (w_putI (p' := 27) f_18_24 rfl rfl (c' := 0) rfl rfl
 (w_iconst (p' := 28) f_18_27 rfl
 (w_istore_n (p' := 29) f_18_28 (L' := [some (.inr (.inr (5, k0, i0))), some (.inl x1), some (.inl 0)]) rfl rfl
 (((h.2 c102).1 c101))))))))))
 (fun c101 => w_vret f_18_16 rk_18 ((h.2 c102).2 c101)))))))))
set_option maxRecDepth 100000 in
theorem T_Script_open_29 (k0 i0 x1 x2 : Int) (σ : ST) (Q : Option AV → ST → Prop) (h :
  (((6 ≤ x2 : Prop) →
    wpM m_Script_write [.inr (.inr (5, k0, i0)), .inl 0, .inl x1] σ (asV fun s101 =>
    Q none s101)) ∧
  (¬ (6 ≤ x2) →
    wpM m_Script_write [.inr (.inr (5, k0, i0)), .inl x2, .inl (-1)] σ (asV fun s102 =>
    wp m_Script_open (29, [some (.inr (.inr (5, k0, i0))), some (.inl x1), some (.inl (wr (x2 + 1)))], [], s102) Q)))) :
  wp m_Script_open (29, [some (.inr (.inr (5, k0, i0))), some (.inl x1), some (.inl x2)], [], σ) Q :=
 w_iload_n (p' := 30) f_18_29 rfl rfl
 (w_bipush (p' := 32) f_18_30 rfl
 (w_icmp (p' := 47) (q' := 35) f_18_32 rfl rfl
 (fun c103 => w_aload_n (p' := 48) f_18_47 rfl rfl
 (w_iconst (p' := 49) f_18_48 rfl
 (w_iload_n (p' := 50) f_18_49 rfl rfl
 (w_callV (p' := 53) f_18_50 rfl rfl rfl rfl rfl (r := []) rfl rfl (kV rk_17 fun s101 h101 =>
 w_vret f_18_53 rk_18 h101) (h.1 c103)))))
 (fun c103 => w_aload_n (p' := 36) f_18_35 rfl rfl
 (w_iload_n (p' := 37) f_18_36 rfl rfl
 (w_iconst (p' := 38) f_18_37 rfl
 (w_callV (p' := 41) f_18_38 rfl rfl rfl rfl rfl (r := []) rfl rfl (kV rk_17 fun s102 h102 =>
 w_iinc (p' := 44) f_18_41 rfl (L' := [some (.inr (.inr (5, k0, i0))), some (.inl x1), some (.inl (wr (x2 + 1)))]) rfl rfl
 (w_goto (p' := 29) f_18_44 rfl
 (h102))) (h.2 c103)))))))
/-! ClosedRooms$Tape.readStep()I -/
theorem f_19_0 : fnd 19 0 = some (0, .aload_n 0, 1, 0, 0, 0, 0) := ceB_eq (by decide +kernel)
theorem f_19_1 : fnd 19 1 = some (1, .invokevirtual 46, 3, 7, 1, 1, 0) := ceB_eq (by decide +kernel)
theorem f_19_4 : fnd 19 4 = some (4, .aload_n 0, 1, 0, 0, 0, 0) := ceB_eq (by decide +kernel)
theorem f_19_5 : fnd 19 5 = some (5, .getfield 19, 3, 1, 2, 2, 0) := ceB_eq (by decide +kernel)
theorem f_19_8 : fnd 19 8 = some (8, .istore_n 1, 1, 0, 0, 0, 0) := ceB_eq (by decide +kernel)
theorem f_19_9 : fnd 19 9 = some (9, .aload_n 0, 1, 0, 0, 0, 0) := ceB_eq (by decide +kernel)
theorem f_19_10 : fnd 19 10 = some (10, .invokevirtual 57, 3, 8, 1, 1, 0) := ceB_eq (by decide +kernel)
theorem f_19_13 : fnd 19 13 = some (13, .aload_n 0, 1, 0, 0, 0, 0) := ceB_eq (by decide +kernel)
theorem f_19_14 : fnd 19 14 = some (14, .iload_n 1, 1, 0, 0, 0, 0) := ceB_eq (by decide +kernel)
theorem f_19_15 : fnd 19 15 = some (15, .invokevirtual 73, 3, 15, 2, 1, 0) := ceB_eq (by decide +kernel)
theorem f_19_18 : fnd 19 18 = some (18, .istore_n 2, 1, 0, 0, 0, 0) := ceB_eq (by decide +kernel)
theorem f_19_19 : fnd 19 19 = some (19, .iload_n 2, 1, 0, 0, 0, 0) := ceB_eq (by decide +kernel)
theorem f_19_20 : fnd 19 20 = some (20, .ifCond .lt 9, 3, 0, 0, 0, 0) := ceB_eq (by decide +kernel)
theorem f_19_23 : fnd 19 23 = some (23, .iload_n 2, 1, 0, 0, 0, 0) := ceB_eq (by decide +kernel)
theorem f_19_24 : fnd 19 24 = some (24, .bipush 16, 2, 0, 0, 0, 0) := ceB_eq (by decide +kernel)
theorem f_19_26 : fnd 19 26 = some (26, .if_icmp .lt 5, 3, 0, 0, 0, 0) := ceB_eq (by decide +kernel)
theorem f_19_29 : fnd 19 29 = some (29, .iload_n 1, 1, 0, 0, 0, 0) := ceB_eq (by decide +kernel)
theorem f_19_30 : fnd 19 30 = some (30, .ireturn, 1, 0, 0, 0, 0) := ceB_eq (by decide +kernel)
theorem f_19_31 : fnd 19 31 = some (31, .aload_n 0, 1, 0, 0, 0, 0) := ceB_eq (by decide +kernel)
theorem f_19_32 : fnd 19 32 = some (32, .getfield 32, 3, 1, 5, 5, 0) := ceB_eq (by decide +kernel)
theorem f_19_35 : fnd 19 35 = some (35, .iload_n 2, 1, 0, 0, 0, 0) := ceB_eq (by decide +kernel)
theorem f_19_36 : fnd 19 36 = some (36, .invokevirtual 76, 3, 18, 2, 2, 0) := ceB_eq (by decide +kernel)
theorem f_19_39 : fnd 19 39 = some (39, .iconst 1, 1, 0, 0, 0, 0) := ceB_eq (by decide +kernel)
theorem f_19_40 : fnd 19 40 = some (40, .istore_n 3, 1, 0, 0, 0, 0) := ceB_eq (by decide +kernel)
theorem f_19_41 : fnd 19 41 = some (41, .iload_n 3, 1, 0, 0, 0, 0) := ceB_eq (by decide +kernel)
theorem f_19_42 : fnd 19 42 = some (42, .getstatic 80, 3, 65, 0, 0, 0) := ceB_eq (by decide +kernel)
theorem f_19_45 : fnd 19 45 = some (45, .iload_n 2, 1, 0, 0, 0, 0) := ceB_eq (by decide +kernel)
theorem f_19_46 : fnd 19 46 = some (46, .iaload, 1, 0, 0, 0, 0) := ceB_eq (by decide +kernel)
theorem f_19_47 : fnd 19 47 = some (47, .if_icmp .gt 84, 3, 0, 0, 0, 0) := ceB_eq (by decide +kernel)
theorem f_19_50 : fnd 19 50 = some (50, .aload_n 0, 1, 0, 0, 0, 0) := ceB_eq (by decide +kernel)
theorem f_19_51 : fnd 19 51 = some (51, .invokevirtual 46, 3, 7, 1, 1, 0) := ceB_eq (by decide +kernel)
theorem f_19_54 : fnd 19 54 = some (54, .iload_n 3, 1, 0, 0, 0, 0) := ceB_eq (by decide +kernel)
theorem f_19_55 : fnd 19 55 = some (55, .iconst 1, 1, 0, 0, 0, 0) := ceB_eq (by decide +kernel)
theorem f_19_56 : fnd 19 56 = some (56, .if_icmp .le 31, 3, 0, 0, 0, 0) := ceB_eq (by decide +kernel)
theorem f_19_59 : fnd 19 59 = some (59, .aload_n 0, 1, 0, 0, 0, 0) := ceB_eq (by decide +kernel)
theorem f_19_60 : fnd 19 60 = some (60, .bipush 44, 2, 0, 0, 0, 0) := ceB_eq (by decide +kernel)
theorem f_19_62 : fnd 19 62 = some (62, .invokevirtual 49, 3, 6, 2, 1, 0) := ceB_eq (by decide +kernel)
theorem f_19_65 : fnd 19 65 = some (65, .ifCond .ne 8, 3, 0, 0, 0, 0) := ceB_eq (by decide +kernel)
theorem f_19_68 : fnd 19 68 = some (68, .aload_n 0, 1, 0, 0, 0, 0) := ceB_eq (by decide +kernel)
theorem f_19_69 : fnd 19 69 = some (69, .getfield 19, 3, 1, 2, 2, 0) := ceB_eq (by decide +kernel)
theorem f_19_72 : fnd 19 72 = some (72, .ireturn, 1, 0, 0, 0, 0) := ceB_eq (by decide +kernel)
theorem f_19_73 : fnd 19 73 = some (73, .aload_n 0, 1, 0, 0, 0, 0) := ceB_eq (by decide +kernel)
theorem f_19_74 : fnd 19 74 = some (74, .dup, 1, 0, 0, 0, 0) := ceB_eq (by decide +kernel)
theorem f_19_75 : fnd 19 75 = some (75, .getfield 19, 3, 1, 2, 2, 0) := ceB_eq (by decide +kernel)
theorem f_19_78 : fnd 19 78 = some (78, .iconst 1, 1, 0, 0, 0, 0) := ceB_eq (by decide +kernel)
theorem f_19_79 : fnd 19 79 = some (79, .iadd, 1, 0, 0, 0, 0) := ceB_eq (by decide +kernel)
theorem f_19_80 : fnd 19 80 = some (80, .putfield 19, 3, 1, 2, 2, 0) := ceB_eq (by decide +kernel)
theorem f_19_83 : fnd 19 83 = some (83, .aload_n 0, 1, 0, 0, 0, 0) := ceB_eq (by decide +kernel)
theorem f_19_84 : fnd 19 84 = some (84, .invokevirtual 46, 3, 7, 1, 1, 0) := ceB_eq (by decide +kernel)
theorem f_19_87 : fnd 19 87 = some (87, .aload_n 0, 1, 0, 0, 0, 0) := ceB_eq (by decide +kernel)
theorem f_19_88 : fnd 19 88 = some (88, .getfield 19, 3, 1, 2, 2, 0) := ceB_eq (by decide +kernel)
theorem f_19_91 : fnd 19 91 = some (91, .istore 4, 2, 0, 0, 0, 0) := ceB_eq (by decide +kernel)
theorem f_19_93 : fnd 19 93 = some (93, .aload_n 0, 1, 0, 0, 0, 0) := ceB_eq (by decide +kernel)
theorem f_19_94 : fnd 19 94 = some (94, .invokevirtual 64, 3, 12, 1, 1, 0) := ceB_eq (by decide +kernel)
theorem f_19_97 : fnd 19 97 = some (97, .istore 5, 2, 0, 0, 0, 0) := ceB_eq (by decide +kernel)
theorem f_19_99 : fnd 19 99 = some (99, .iload 5, 2, 0, 0, 0, 0) := ceB_eq (by decide +kernel)
theorem f_19_101 : fnd 19 101 = some (101, .ifCond .lt 11, 3, 0, 0, 0, 0) := ceB_eq (by decide +kernel)
theorem f_19_104 : fnd 19 104 = some (104, .iload 5, 2, 0, 0, 0, 0) := ceB_eq (by decide +kernel)
theorem f_19_106 : fnd 19 106 = some (106, .sipush 999, 3, 0, 0, 0, 0) := ceB_eq (by decide +kernel)
theorem f_19_109 : fnd 19 109 = some (109, .if_icmp .le 6, 3, 0, 0, 0, 0) := ceB_eq (by decide +kernel)
theorem f_19_112 : fnd 19 112 = some (112, .iload 4, 2, 0, 0, 0, 0) := ceB_eq (by decide +kernel)
theorem f_19_114 : fnd 19 114 = some (114, .ireturn, 1, 0, 0, 0, 0) := ceB_eq (by decide +kernel)
theorem f_19_115 : fnd 19 115 = some (115, .aload_n 0, 1, 0, 0, 0, 0) := ceB_eq (by decide +kernel)
theorem f_19_116 : fnd 19 116 = some (116, .getfield 32, 3, 1, 5, 5, 0) := ceB_eq (by decide +kernel)
theorem f_19_119 : fnd 19 119 = some (119, .iload_n 3, 1, 0, 0, 0, 0) := ceB_eq (by decide +kernel)
theorem f_19_120 : fnd 19 120 = some (120, .iload 5, 2, 0, 0, 0, 0) := ceB_eq (by decide +kernel)
theorem f_19_122 : fnd 19 122 = some (122, .invokevirtual 83, 3, 17, 3, 2, 0) := ceB_eq (by decide +kernel)
theorem f_19_125 : fnd 19 125 = some (125, .iinc 3 1, 3, 0, 0, 0, 0) := ceB_eq (by decide +kernel)
theorem f_19_128 : fnd 19 128 = some (128, .goto (-87), 3, 0, 0, 0, 0) := ceB_eq (by decide +kernel)
theorem f_19_131 : fnd 19 131 = some (131, .iconst (-1), 1, 0, 0, 0, 0) := ceB_eq (by decide +kernel)
theorem f_19_132 : fnd 19 132 = some (132, .ireturn, 1, 0, 0, 0, 0) := ceB_eq (by decide +kernel)
theorem rk_19 : rkm 19 = 0 := by decide +kernel
theorem ml_19 : (mth 19).2.1 = 6 := by decide +kernel
set_option maxRecDepth 100000 in
theorem T_Tape_readStep (k0 i0 : Int) (σ : ST) (Q : Option AV → ST → Prop) (h :
  wpM m_Tape_skipBlanks [.inr (.inr (1, k0, i0))] σ (asV fun s101 =>
  wpM m_Tape_skipLetters [.inr (.inr (1, k0, i0))] s101 (asV fun s102 =>
  wpM m_Tape_stepOf [.inr (.inr (1, k0, i0)), .inl (s101 1 k0 i0 2)] s102 (asI fun r103 s103 =>
  (((r103 < 0 : Prop) →
    Q (some (.inl (s101 1 k0 i0 2))) s103) ∧
  (¬ (r103 < 0) →
    (((r103 < 16 : Prop) →
      wpM m_Script_open [.inr (.inr (5, 4, 0)), .inl r103] s103 (asV fun s104 =>
      wp m_Tape_readStep (41, [some (.inr (.inr (1, k0, i0))), some (.inl (s101 1 k0 i0 2)), some (.inl r103), some (.inl 1), none, none], [], s104) Q)) ∧
    (¬ (r103 < 16) →
      Q (some (.inl (s101 1 k0 i0 2))) s103)))))))) :
  wpM m_Tape_readStep [.inr (.inr (1, k0, i0))] σ Q :=
 wpM_of ml_19 (L := [some (.inr (.inr (1, k0, i0))), none, none, none, none, none]) rfl
 (w_aload_n (p' := 1) f_19_0 rfl rfl
 (w_callV (p' := 4) f_19_1 rfl rfl rfl rfl rfl (r := []) rfl rfl (kV rk_7 fun s101 h101 =>
 w_aload_n (p' := 5) f_19_4 rfl rfl
 (w_getfield (p' := 8) f_19_5 rfl (x := .inl (s101 1 k0 i0 2)) rfl rfl
 (w_istore_n (p' := 9) f_19_8 (L' := [some (.inr (.inr (1, k0, i0))), some (.inl (s101 1 k0 i0 2)), none, none, none, none]) rfl rfl
 (w_aload_n (p' := 10) f_19_9 rfl rfl
 (w_callV (p' := 13) f_19_10 rfl rfl rfl rfl rfl (r := []) rfl rfl (kV rk_8 fun s102 h102 =>
 w_aload_n (p' := 14) f_19_13 rfl rfl
 (w_iload_n (p' := 15) f_19_14 rfl rfl
 (w_callV (p' := 18) f_19_15 rfl rfl rfl rfl rfl (r := []) rfl rfl (kI (.inl rk_15) fun r103 s103 h103 =>
 w_istore_n (p' := 19) f_19_18 (L' := [some (.inr (.inr (1, k0, i0))), some (.inl (s101 1 k0 i0 2)), some (.inl r103), none, none, none]) rfl rfl
 (w_iload_n (p' := 20) f_19_19 rfl rfl
 (w_if (p' := 29) (q' := 23) f_19_20 rfl rfl
 (fun c106 => w_iload_n (p' := 30) f_19_29 rfl rfl
 (w_iret f_19_30 rk_19 (h103.1 c106)))
 (fun c106 => w_iload_n (p' := 24) f_19_23 rfl rfl
 (w_bipush (p' := 26) f_19_24 rfl
 (w_icmp (p' := 31) (q' := 29) f_19_26 rfl rfl
 (fun c105 => w_aload_n (p' := 32) f_19_31 rfl rfl
 (w_getfield (p' := 35) f_19_32 rfl (x := .inr (.inr (5, 4, 0))) rfl rfl
 (w_iload_n (p' := 36) f_19_35 rfl rfl
 (w_callV (p' := 39) f_19_36 rfl rfl rfl rfl rfl (r := []) rfl rfl (kV rk_18 fun s104 h104 =>
 w_iconst (p' := 40) f_19_39 rfl
 (w_istore_n (p' := 41) f_19_40 (L' := [some (.inr (.inr (1, k0, i0))), some (.inl (s101 1 k0 i0 2)), some (.inl r103), some (.inl 1), none, none]) rfl rfl
 (h104))) ((h103.2 c106).1 c105)))))
 (fun c105 => w_iload_n (p' := 30) f_19_29 rfl rfl
 (w_iret f_19_30 rk_19 ((h103.2 c106).2 c105))))))))) h102))) h101))))) h))
set_option maxRecDepth 100000 in
theorem T_Tape_readStep_41 (k0 i0 x2 x3 : Int) (o1 o4 o5 : Option AV) (σ : ST) (Q : Option AV → ST → Prop) (h :
  ((0 : Int) ≤ x2 ∧ (x2 : Int) < 16) ∧
  ((((stv 65 x2) < x3 : Prop) →
    Q (some (.inl (-1))) σ) ∧
  (¬ ((stv 65 x2) < x3) →
    wpM m_Tape_skipBlanks [.inr (.inr (1, k0, i0))] σ (asV fun s101 =>
    (((x3 ≤ 1 : Prop) →
      wp m_Tape_readStep (87, [some (.inr (.inr (1, k0, i0))), o1, some (.inl x2), some (.inl x3), o4, o5], [], s101) Q) ∧
    (¬ (x3 ≤ 1) →
      wpM m_Tape_stands [.inr (.inr (1, k0, i0)), .inl 44] s101 (asI fun r102 s102 =>
      (((r102 ≠ 0 : Prop) →
        wpM m_Tape_skipBlanks [.inr (.inr (1, k0, i0))] (up s102 1 k0 i0 2 (wr ((s102 1 k0 i0 2) + 1))) (asV fun s103 =>
        wp m_Tape_readStep (87, [some (.inr (.inr (1, k0, i0))), o1, some (.inl x2), some (.inl x3), o4, o5], [], s103) Q)) ∧
      (¬ (r102 ≠ 0) →
        Q (some (.inl (s102 1 k0 i0 2))) s102))))))))) :
  wp m_Tape_readStep (41, [some (.inr (.inr (1, k0, i0))), o1, some (.inl x2), some (.inl x3), o4, o5], [], σ) Q :=
 w_iload_n (p' := 42) f_19_41 rfl rfl
 (w_getstatic (p' := 45) f_19_42 rfl
 (w_iload_n (p' := 46) f_19_45 rfl rfl
 (w_ialoadS (p' := 47) f_19_46 rfl (n := 16) rfl h.1 rfl
 (w_icmp (p' := 131) (q' := 50) f_19_47 rfl rfl
 (fun c106 => w_iconst (p' := 132) f_19_131 rfl
 (w_iret f_19_132 rk_19 (h.2.1 c106)))
 (fun c106 => w_aload_n (p' := 51) f_19_50 rfl rfl
 (w_callV (p' := 54) f_19_51 rfl rfl rfl rfl rfl (r := []) rfl rfl (kV rk_7 fun s101 h101 =>
 w_iload_n (p' := 55) f_19_54 rfl rfl
 (w_iconst (p' := 56) f_19_55 rfl
 (w_icmp (p' := 87) (q' := 59) f_19_56 rfl rfl
 (fun c105 => (h101.1 c105))
 (fun c105 => w_aload_n (p' := 60) f_19_59 rfl rfl
 (w_bipush (p' := 62) f_19_60 rfl
 (w_callV (p' := 65) f_19_62 rfl rfl rfl rfl rfl (r := []) rfl rfl (kI (.inr rk_6) fun r102 s102 h102 =>
 w_if (p' := 73) (q' := 68) f_19_65 rfl rfl
 (fun c104 => w_aload_n (p' := 74) f_19_73 rfl rfl
 (w_dupR (p' := 75) f_19_74 rfl
 (w_getfield (p' := 78) f_19_75 rfl (x := .inl (s102 1 k0 i0 2)) rfl rfl
 (w_iconst (p' := 79) f_19_78 rfl
 (w_iadd (p' := 80) f_19_79 rfl
 (w_putI (p' := 83) f_19_80 rfl rfl (c' := 2) rfl rfl
 (w_aload_n (p' := 84) f_19_83 rfl rfl
 (w_callV (p' := 87) f_19_84 rfl rfl rfl rfl rfl (r := []) rfl rfl (kV rk_7 fun s103 h103 =>
 h103) (h102.1 c104)))))))))
 (fun c104 => w_aload_n (p' := 69) f_19_68 rfl rfl
 (w_getfield (p' := 72) f_19_69 rfl (x := .inl (s102 1 k0 i0 2)) rfl rfl
 (w_iret f_19_72 rk_19 (h102.2 c104))))) (h101.2 c105))))))) (h.2.2 c106)))))))
set_option maxRecDepth 100000 in
theorem T_Tape_readStep_87 (k0 i0 x2 x3 : Int) (o1 o4 o5 : Option AV) (σ : ST) (Q : Option AV → ST → Prop) (h :
  wpM m_Tape_readNumber [.inr (.inr (1, k0, i0))] σ (asI fun r101 s101 =>
  (((r101 < 0 : Prop) →
    Q (some (.inl (σ 1 k0 i0 2))) s101) ∧
  (¬ (r101 < 0) →
    (((r101 ≤ 999 : Prop) →
      wpM m_Script_write [.inr (.inr (5, 4, 0)), .inl x3, .inl r101] s101 (asV fun s102 =>
      wp m_Tape_readStep (41, [some (.inr (.inr (1, k0, i0))), o1, some (.inl x2), some (.inl (wr (x3 + 1))), some (.inl (σ 1 k0 i0 2)), some (.inl r101)], [], s102) Q)) ∧
    (¬ (r101 ≤ 999) →
      Q (some (.inl (σ 1 k0 i0 2))) s101)))))) :
  wp m_Tape_readStep (87, [some (.inr (.inr (1, k0, i0))), o1, some (.inl x2), some (.inl x3), o4, o5], [], σ) Q :=
 w_aload_n (p' := 88) f_19_87 rfl rfl
 (w_getfield (p' := 91) f_19_88 rfl (x := .inl (σ 1 k0 i0 2)) rfl rfl
 (w_istore (p' := 93) f_19_91 (L' := [some (.inr (.inr (1, k0, i0))), o1, some (.inl x2), some (.inl x3), some (.inl (σ 1 k0 i0 2)), o5]) rfl rfl
 (w_aload_n (p' := 94) f_19_93 rfl rfl
 (w_callV (p' := 97) f_19_94 rfl rfl rfl rfl rfl (r := []) rfl rfl (kI (.inl rk_12) fun r101 s101 h101 =>
 w_istore (p' := 99) f_19_97 (L' := [some (.inr (.inr (1, k0, i0))), o1, some (.inl x2), some (.inl x3), some (.inl (σ 1 k0 i0 2)), some (.inl r101)]) rfl rfl
 (w_iload (p' := 101) f_19_99 rfl rfl
 (w_if (p' := 112) (q' := 104) f_19_101 rfl rfl
 (fun c104 => w_iload (p' := 114) f_19_112 rfl rfl
 (w_iret f_19_114 rk_19 (h101.1 c104)))
 (fun c104 => w_iload (p' := 106) f_19_104 rfl rfl
 (w_sipush (p' := 109) f_19_106 rfl
 (w_icmp (p' := 115) (q' := 112) f_19_109 rfl rfl
 (fun c103 => w_aload_n (p' := 116) f_19_115 rfl rfl
 (w_getfield (p' := 119) f_19_116 rfl (x := .inr (.inr (5, 4, 0))) rfl rfl
 (w_iload_n (p' := 120) f_19_119 rfl rfl
 (w_iload (p' := 122) f_19_120 rfl rfl
 (w_callV (p' := 125) f_19_122 rfl rfl rfl rfl rfl (r := []) rfl rfl (kV rk_17 fun s102 h102 =>
 w_iinc (p' := 128) f_19_125 rfl (L' := [some (.inr (.inr (1, k0, i0))), o1, some (.inl x2), some (.inl (wr (x3 + 1))), some (.inl (σ 1 k0 i0 2)), some (.inl r101)]) rfl rfl
 (w_goto (p' := 41) f_19_128 rfl
 (h102))) ((h101.2 c104).1 c103))))))
 (fun c103 => w_iload (p' := 114) f_19_112 rfl rfl
 (w_iret f_19_114 rk_19 ((h101.2 c104).2 c103))))))))) h))))
/-! ClosedRooms$Tape.faultAs(I)I -/
theorem f_20_0 : fnd 20 0 = some (0, .aload_n 0, 1, 0, 0, 0, 0) := ceB_eq (by decide +kernel)
theorem f_20_1 : fnd 20 1 = some (1, .invokevirtual 36, 3, 5, 1, 1, 0) := ceB_eq (by decide +kernel)
theorem f_20_4 : fnd 20 4 = some (4, .iconst 1, 1, 0, 0, 0, 0) := ceB_eq (by decide +kernel)
theorem f_20_5 : fnd 20 5 = some (5, .istore_n 2, 1, 0, 0, 0, 0) := ceB_eq (by decide +kernel)
theorem f_20_6 : fnd 20 6 = some (6, .iload_n 2, 1, 0, 0, 0, 0) := ceB_eq (by decide +kernel)
theorem f_20_7 : fnd 20 7 = some (7, .sipush 320, 3, 0, 0, 0, 0) := ceB_eq (by decide +kernel)
theorem f_20_10 : fnd 20 10 = some (10, .if_icmp .gt 84, 3, 0, 0, 0, 0) := ceB_eq (by decide +kernel)
theorem f_20_13 : fnd 20 13 = some (13, .iload_n 1, 1, 0, 0, 0, 0) := ceB_eq (by decide +kernel)
theorem f_20_14 : fnd 20 14 = some (14, .ifCond .ne 10, 3, 0, 0, 0, 0) := ceB_eq (by decide +kernel)
theorem f_20_17 : fnd 20 17 = some (17, .aload_n 0, 1, 0, 0, 0, 0) := ceB_eq (by decide +kernel)
theorem f_20_18 : fnd 20 18 = some (18, .invokevirtual 39, 3, 13, 1, 1, 0) := ceB_eq (by decide +kernel)
theorem f_20_21 : fnd 20 21 = some (21, .goto 7, 3, 0, 0, 0, 0) := ceB_eq (by decide +kernel)
theorem f_20_24 : fnd 20 24 = some (24, .aload_n 0, 1, 0, 0, 0, 0) := ceB_eq (by decide +kernel)
theorem f_20_25 : fnd 20 25 = some (25, .invokevirtual 43, 3, 19, 1, 1, 0) := ceB_eq (by decide +kernel)
theorem f_20_28 : fnd 20 28 = some (28, .istore_n 3, 1, 0, 0, 0, 0) := ceB_eq (by decide +kernel)
theorem f_20_29 : fnd 20 29 = some (29, .iload_n 3, 1, 0, 0, 0, 0) := ceB_eq (by decide +kernel)
theorem f_20_30 : fnd 20 30 = some (30, .iconst (-1), 1, 0, 0, 0, 0) := ceB_eq (by decide +kernel)
theorem f_20_31 : fnd 20 31 = some (31, .if_icmp .eq 5, 3, 0, 0, 0, 0) := ceB_eq (by decide +kernel)
theorem f_20_34 : fnd 20 34 = some (34, .iload_n 3, 1, 0, 0, 0, 0) := ceB_eq (by decide +kernel)
theorem f_20_35 : fnd 20 35 = some (35, .ireturn, 1, 0, 0, 0, 0) := ceB_eq (by decide +kernel)
theorem f_20_36 : fnd 20 36 = some (36, .aload_n 0, 1, 0, 0, 0, 0) := ceB_eq (by decide +kernel)
theorem f_20_37 : fnd 20 37 = some (37, .invokevirtual 46, 3, 7, 1, 1, 0) := ceB_eq (by decide +kernel)
theorem f_20_40 : fnd 20 40 = some (40, .aload_n 0, 1, 0, 0, 0, 0) := ceB_eq (by decide +kernel)
theorem f_20_41 : fnd 20 41 = some (41, .getfield 19, 3, 1, 2, 2, 0) := ceB_eq (by decide +kernel)
theorem f_20_44 : fnd 20 44 = some (44, .aload_n 0, 1, 0, 0, 0, 0) := ceB_eq (by decide +kernel)
theorem f_20_45 : fnd 20 45 = some (45, .getfield 9, 3, 1, 0, 0, 0) := ceB_eq (by decide +kernel)
theorem f_20_48 : fnd 20 48 = some (48, .if_icmp .lt 5, 3, 0, 0, 0, 0) := ceB_eq (by decide +kernel)
theorem f_20_51 : fnd 20 51 = some (51, .iconst (-1), 1, 0, 0, 0, 0) := ceB_eq (by decide +kernel)
theorem f_20_52 : fnd 20 52 = some (52, .ireturn, 1, 0, 0, 0, 0) := ceB_eq (by decide +kernel)
theorem f_20_53 : fnd 20 53 = some (53, .aload_n 0, 1, 0, 0, 0, 0) := ceB_eq (by decide +kernel)
theorem f_20_54 : fnd 20 54 = some (54, .bipush 59, 2, 0, 0, 0, 0) := ceB_eq (by decide +kernel)
theorem f_20_56 : fnd 20 56 = some (56, .invokevirtual 49, 3, 6, 2, 1, 0) := ceB_eq (by decide +kernel)
theorem f_20_59 : fnd 20 59 = some (59, .ifCond .eq 14, 3, 0, 0, 0, 0) := ceB_eq (by decide +kernel)
theorem f_20_62 : fnd 20 62 = some (62, .iload_n 1, 1, 0, 0, 0, 0) := ceB_eq (by decide +kernel)
theorem f_20_63 : fnd 20 63 = some (63, .iconst 1, 1, 0, 0, 0, 0) := ceB_eq (by decide +kernel)
theorem f_20_64 : fnd 20 64 = some (64, .if_icmp .ne 14, 3, 0, 0, 0, 0) := ceB_eq (by decide +kernel)
theorem f_20_67 : fnd 20 67 = some (67, .iload_n 2, 1, 0, 0, 0, 0) := ceB_eq (by decide +kernel)
theorem f_20_68 : fnd 20 68 = some (68, .bipush 12, 2, 0, 0, 0, 0) := ceB_eq (by decide +kernel)
theorem f_20_70 : fnd 20 70 = some (70, .if_icmp .lt 8, 3, 0, 0, 0, 0) := ceB_eq (by decide +kernel)
theorem f_20_73 : fnd 20 73 = some (73, .aload_n 0, 1, 0, 0, 0, 0) := ceB_eq (by decide +kernel)
theorem f_20_74 : fnd 20 74 = some (74, .getfield 19, 3, 1, 2, 2, 0) := ceB_eq (by decide +kernel)
theorem f_20_77 : fnd 20 77 = some (77, .ireturn, 1, 0, 0, 0, 0) := ceB_eq (by decide +kernel)
theorem f_20_78 : fnd 20 78 = some (78, .aload_n 0, 1, 0, 0, 0, 0) := ceB_eq (by decide +kernel)
theorem f_20_79 : fnd 20 79 = some (79, .dup, 1, 0, 0, 0, 0) := ceB_eq (by decide +kernel)
theorem f_20_80 : fnd 20 80 = some (80, .getfield 19, 3, 1, 2, 2, 0) := ceB_eq (by decide +kernel)
theorem f_20_83 : fnd 20 83 = some (83, .iconst 1, 1, 0, 0, 0, 0) := ceB_eq (by decide +kernel)
theorem f_20_84 : fnd 20 84 = some (84, .iadd, 1, 0, 0, 0, 0) := ceB_eq (by decide +kernel)
theorem f_20_85 : fnd 20 85 = some (85, .putfield 19, 3, 1, 2, 2, 0) := ceB_eq (by decide +kernel)
theorem f_20_88 : fnd 20 88 = some (88, .iinc 2 1, 3, 0, 0, 0, 0) := ceB_eq (by decide +kernel)
theorem f_20_91 : fnd 20 91 = some (91, .goto (-85), 3, 0, 0, 0, 0) := ceB_eq (by decide +kernel)
theorem f_20_94 : fnd 20 94 = some (94, .aload_n 0, 1, 0, 0, 0, 0) := ceB_eq (by decide +kernel)
theorem f_20_95 : fnd 20 95 = some (95, .getfield 9, 3, 1, 0, 0, 0) := ceB_eq (by decide +kernel)
theorem f_20_98 : fnd 20 98 = some (98, .ireturn, 1, 0, 0, 0, 0) := ceB_eq (by decide +kernel)
theorem rk_20 : rkm 20 = 0 := by decide +kernel
theorem ml_20 : (mth 20).2.1 = 4 := by decide +kernel
set_option maxRecDepth 100000 in
theorem T_Tape_faultAs (k0 i0 x1 : Int) (σ : ST) (Q : Option AV → ST → Prop) (h :
  wpM m_Tape_begin [.inr (.inr (1, k0, i0))] σ (asV fun s101 =>
  wp m_Tape_faultAs (6, [some (.inr (.inr (1, k0, i0))), some (.inl x1), some (.inl 1), none], [], s101) Q)) :
  wpM m_Tape_faultAs [.inr (.inr (1, k0, i0)), .inl x1] σ Q :=
 wpM_of ml_20 (L := [some (.inr (.inr (1, k0, i0))), some (.inl x1), none, none]) rfl
 (w_aload_n (p' := 1) f_20_0 rfl rfl
 (w_callV (p' := 4) f_20_1 rfl rfl rfl rfl rfl (r := []) rfl rfl (kV rk_5 fun s101 h101 =>
 w_iconst (p' := 5) f_20_4 rfl
 (w_istore_n (p' := 6) f_20_5 (L' := [some (.inr (.inr (1, k0, i0))), some (.inl x1), some (.inl 1), none]) rfl rfl
 (h101))) h))
set_option maxRecDepth 100000 in
theorem T_Tape_faultAs_6 (k0 i0 x1 x2 : Int) (o3 : Option AV) (σ : ST) (Q : Option AV → ST → Prop) (h :
  (((320 < x2 : Prop) →
    Q (some (.inl (σ 1 k0 i0 0))) σ) ∧
  (¬ (320 < x2) →
    (((x1 ≠ 0 : Prop) →
      wpM m_Tape_readStep [.inr (.inr (1, k0, i0))] σ (asI fun r101 s101 =>
      wp m_Tape_faultAs (28, [some (.inr (.inr (1, k0, i0))), some (.inl x1), some (.inl x2), o3], [.inl r101], s101) Q)) ∧
    (¬ (x1 ≠ 0) →
      wpM m_Tape_readClause [.inr (.inr (1, k0, i0))] σ (asI fun r102 s102 =>
      wp m_Tape_faultAs (28, [some (.inr (.inr (1, k0, i0))), some (.inl x1), some (.inl x2), o3], [.inl r102], s102) Q)))))) :
  wp m_Tape_faultAs (6, [some (.inr (.inr (1, k0, i0))), some (.inl x1), some (.inl x2), o3], [], σ) Q :=
 w_iload_n (p' := 7) f_20_6 rfl rfl
 (w_sipush (p' := 10) f_20_7 rfl
 (w_icmp (p' := 94) (q' := 13) f_20_10 rfl rfl
 (fun c104 => w_aload_n (p' := 95) f_20_94 rfl rfl
 (w_getfield (p' := 98) f_20_95 rfl (x := .inl (σ 1 k0 i0 0)) rfl rfl
 (w_iret f_20_98 rk_20 (h.1 c104))))
 (fun c104 => w_iload_n (p' := 14) f_20_13 rfl rfl
 (w_if (p' := 24) (q' := 17) f_20_14 rfl rfl
 (fun c103 => w_aload_n (p' := 25) f_20_24 rfl rfl
 (w_callV (p' := 28) f_20_25 rfl rfl rfl rfl rfl (r := []) rfl rfl (kI (.inl rk_19) fun r101 s101 h101 =>
 h101) ((h.2 c104).1 c103)))
 (fun c103 => w_aload_n (p' := 18) f_20_17 rfl rfl
 (w_callV (p' := 21) f_20_18 rfl rfl rfl rfl rfl (r := []) rfl rfl (kI (.inl rk_13) fun r102 s102 h102 =>
 w_goto (p' := 28) f_20_21 rfl
 (h102)) ((h.2 c104).2 c103)))))))
set_option maxRecDepth 100000 in
theorem T_Tape_faultAs_28 (k0 i0 x1 x2 t0 : Int) (o3 : Option AV) (σ : ST) (Q : Option AV → ST → Prop) (h :
  (((t0 = (-1) : Prop) →
    wpM m_Tape_skipBlanks [.inr (.inr (1, k0, i0))] σ (asV fun s101 =>
    ((((s101 1 k0 i0 2) < (s101 1 k0 i0 0) : Prop) →
      wpM m_Tape_stands [.inr (.inr (1, k0, i0)), .inl 59] s101 (asI fun r102 s102 =>
      (((r102 = 0 : Prop) →
        Q (some (.inl (s102 1 k0 i0 2))) s102) ∧
      (¬ (r102 = 0) →
        (((x1 ≠ 1 : Prop) →
          wp m_Tape_faultAs (78, [some (.inr (.inr (1, k0, i0))), some (.inl x1), some (.inl x2), some (.inl t0)], [], s102) Q) ∧
        (¬ (x1 ≠ 1) →
          (((x2 < 12 : Prop) →
            wp m_Tape_faultAs (78, [some (.inr (.inr (1, k0, i0))), some (.inl x1), some (.inl x2), some (.inl t0)], [], s102) Q) ∧
          (¬ (x2 < 12) →
            Q (some (.inl (s102 1 k0 i0 2))) s102)))))))) ∧
    (¬ ((s101 1 k0 i0 2) < (s101 1 k0 i0 0)) →
      Q (some (.inl (-1))) s101)))) ∧
  (¬ (t0 = (-1)) →
    Q (some (.inl t0)) σ))) :
  wp m_Tape_faultAs (28, [some (.inr (.inr (1, k0, i0))), some (.inl x1), some (.inl x2), o3], [.inl t0], σ) Q :=
 w_istore_n (p' := 29) f_20_28 (L' := [some (.inr (.inr (1, k0, i0))), some (.inl x1), some (.inl x2), some (.inl t0)]) rfl rfl
 (w_iload_n (p' := 30) f_20_29 rfl rfl
 (w_iconst (p' := 31) f_20_30 rfl
 (w_icmp (p' := 36) (q' := 34) f_20_31 rfl rfl
 (fun c107 => w_aload_n (p' := 37) f_20_36 rfl rfl
 (w_callV (p' := 40) f_20_37 rfl rfl rfl rfl rfl (r := []) rfl rfl (kV rk_7 fun s101 h101 =>
 w_aload_n (p' := 41) f_20_40 rfl rfl
 (w_getfield (p' := 44) f_20_41 rfl (x := .inl (s101 1 k0 i0 2)) rfl rfl
 (w_aload_n (p' := 45) f_20_44 rfl rfl
 (w_getfield (p' := 48) f_20_45 rfl (x := .inl (s101 1 k0 i0 0)) rfl rfl
 (w_icmp (p' := 53) (q' := 51) f_20_48 rfl rfl
 (fun c106 => w_aload_n (p' := 54) f_20_53 rfl rfl
 (w_bipush (p' := 56) f_20_54 rfl
 (w_callV (p' := 59) f_20_56 rfl rfl rfl rfl rfl (r := []) rfl rfl (kI (.inr rk_6) fun r102 s102 h102 =>
 w_if (p' := 73) (q' := 62) f_20_59 rfl rfl
 (fun c105 => w_aload_n (p' := 74) f_20_73 rfl rfl
 (w_getfield (p' := 77) f_20_74 rfl (x := .inl (s102 1 k0 i0 2)) rfl rfl
 (w_iret f_20_77 rk_20 (h102.1 c105))))
 (fun c105 => w_iload_n (p' := 63) f_20_62 rfl rfl
 (w_iconst (p' := 64) f_20_63 rfl
 (w_icmp (p' := 78) (q' := 67) f_20_64 rfl rfl
 (fun c104 => ((h102.2 c105).1 c104))
 (fun c104 => w_iload_n (p' := 68) f_20_67 rfl rfl
 (w_bipush (p' := 70) f_20_68 rfl
 (w_icmp (p' := 78) (q' := 73) f_20_70 rfl rfl
 (fun c103 => (((h102.2 c105).2 c104).1 c103))
 (fun c103 => w_aload_n (p' := 74) f_20_73 rfl rfl
 (w_getfield (p' := 77) f_20_74 rfl (x := .inl (s102 1 k0 i0 2)) rfl rfl
 (w_iret f_20_77 rk_20 (((h102.2 c105).2 c104).2 c103))))))))))) (h101.1 c106))))
 (fun c106 => w_iconst (p' := 52) f_20_51 rfl
 (w_iret f_20_52 rk_20 (h101.2 c106)))))))) (h.1 c107)))
 (fun c107 => w_iload_n (p' := 35) f_20_34 rfl rfl
 (w_iret f_20_35 rk_20 (h.2 c107))))))
set_option maxRecDepth 100000 in
theorem T_Tape_faultAs_78 (k0 i0 x1 x2 : Int) (o3 : Option AV) (σ : ST) (Q : Option AV → ST → Prop) (h :
  wp m_Tape_faultAs (6, [some (.inr (.inr (1, k0, i0))), some (.inl x1), some (.inl (wr (x2 + 1))), o3], [], (up σ 1 k0 i0 2 (wr ((σ 1 k0 i0 2) + 1)))) Q) :
  wp m_Tape_faultAs (78, [some (.inr (.inr (1, k0, i0))), some (.inl x1), some (.inl x2), o3], [], σ) Q :=
 w_aload_n (p' := 79) f_20_78 rfl rfl
 (w_dupR (p' := 80) f_20_79 rfl
 (w_getfield (p' := 83) f_20_80 rfl (x := .inl (σ 1 k0 i0 2)) rfl rfl
 (w_iconst (p' := 84) f_20_83 rfl
 (w_iadd (p' := 85) f_20_84 rfl
 (w_putI (p' := 88) f_20_85 rfl rfl (c' := 2) rfl rfl
 (w_iinc (p' := 91) f_20_88 rfl (L' := [some (.inr (.inr (1, k0, i0))), some (.inl x1), some (.inl (wr (x2 + 1))), o3]) rfl rfl
 (w_goto (p' := 6) f_20_91 rfl
 (h))))))))
/-! ClosedRooms.fault(I)I -/
theorem f_21_0 : fnd 21 0 = some (0, .iload_n 1, 1, 0, 0, 0, 0) := ceB_eq (by decide +kernel)
theorem f_21_1 : fnd 21 1 = some (1, .ifCond .eq 11, 3, 0, 0, 0, 0) := ceB_eq (by decide +kernel)
theorem f_21_4 : fnd 21 4 = some (4, .iload_n 1, 1, 0, 0, 0, 0) := ceB_eq (by decide +kernel)
theorem f_21_5 : fnd 21 5 = some (5, .iconst 1, 1, 0, 0, 0, 0) := ceB_eq (by decide +kernel)
theorem f_21_6 : fnd 21 6 = some (6, .if_icmp .eq 6, 3, 0, 0, 0, 0) := ceB_eq (by decide +kernel)
theorem f_21_9 : fnd 21 9 = some (9, .bipush (-2), 2, 0, 0, 0, 0) := ceB_eq (by decide +kernel)
theorem f_21_11 : fnd 21 11 = some (11, .ireturn, 1, 0, 0, 0, 0) := ceB_eq (by decide +kernel)
theorem f_21_12 : fnd 21 12 = some (12, .aload_n 0, 1, 0, 0, 0, 0) := ceB_eq (by decide +kernel)
theorem f_21_13 : fnd 21 13 = some (13, .getfield 10, 3, 0, 0, 0, 0) := ceB_eq (by decide +kernel)
theorem f_21_16 : fnd 21 16 = some (16, .iload_n 1, 1, 0, 0, 0, 0) := ceB_eq (by decide +kernel)
theorem f_21_17 : fnd 21 17 = some (17, .invokevirtual 83, 3, 20, 2, 1, 0) := ceB_eq (by decide +kernel)
theorem f_21_20 : fnd 21 20 = some (20, .ireturn, 1, 0, 0, 0, 0) := ceB_eq (by decide +kernel)
theorem rk_21 : rkm 21 = 0 := by decide +kernel
theorem ml_21 : (mth 21).2.1 = 2 := by decide +kernel
set_option maxRecDepth 100000 in
theorem T_X_fault (k0 i0 x1 : Int) (σ : ST) (Q : Option AV → ST → Prop) (h :
  (((x1 = 0 : Prop) →
    wpM m_Tape_faultAs [.inr (.inr (1, 0, 0)), .inl x1] σ (asI fun r101 s101 =>
    Q (some (.inl r101)) s101)) ∧
  (¬ (x1 = 0) →
    (((x1 = 1 : Prop) →
      wpM m_Tape_faultAs [.inr (.inr (1, 0, 0)), .inl x1] σ (asI fun r102 s102 =>
      Q (some (.inl r102)) s102)) ∧
    (¬ (x1 = 1) →
      Q (some (.inl (-2))) σ))))) :
  wpM m_X_fault [.inr (.inr (0, k0, i0)), .inl x1] σ Q :=
 wpM_of ml_21 (L := [some (.inr (.inr (0, k0, i0))), some (.inl x1)]) rfl
 (w_iload_n (p' := 1) f_21_0 rfl rfl
 (w_if (p' := 12) (q' := 4) f_21_1 rfl rfl
 (fun c104 => w_aload_n (p' := 13) f_21_12 rfl rfl
 (w_getfield (p' := 16) f_21_13 rfl (x := .inr (.inr (1, 0, 0))) rfl rfl
 (w_iload_n (p' := 17) f_21_16 rfl rfl
 (w_callV (p' := 20) f_21_17 rfl rfl rfl rfl rfl (r := []) rfl rfl (kI (.inl rk_20) fun r101 s101 h101 =>
 w_iret f_21_20 rk_21 h101) (h.1 c104)))))
 (fun c104 => w_iload_n (p' := 5) f_21_4 rfl rfl
 (w_iconst (p' := 6) f_21_5 rfl
 (w_icmp (p' := 12) (q' := 9) f_21_6 rfl rfl
 (fun c103 => w_aload_n (p' := 13) f_21_12 rfl rfl
 (w_getfield (p' := 16) f_21_13 rfl (x := .inr (.inr (1, 0, 0))) rfl rfl
 (w_iload_n (p' := 17) f_21_16 rfl rfl
 (w_callV (p' := 20) f_21_17 rfl rfl rfl rfl rfl (r := []) rfl rfl (kI (.inl rk_20) fun r102 s102 h102 =>
 w_iret f_21_20 rk_21 h102) ((h.2 c104).1 c103)))))
 (fun c103 => w_bipush (p' := 11) f_21_9 rfl
 (w_iret f_21_11 rk_21 ((h.2 c104).2 c103))))))))
/-! ClosedRooms$Page.begin(II)V -/
theorem f_22_0 : fnd 22 0 = some (0, .aload_n 0, 1, 0, 0, 0, 0) := ceB_eq (by decide +kernel)
theorem f_22_1 : fnd 22 1 = some (1, .iload_n 1, 1, 0, 0, 0, 0) := ceB_eq (by decide +kernel)
theorem f_22_2 : fnd 22 2 = some (2, .putfield 19, 3, 6, 0, 0, 0) := ceB_eq (by decide +kernel)
theorem f_22_5 : fnd 22 5 = some (5, .aload_n 0, 1, 0, 0, 0, 0) := ceB_eq (by decide +kernel)
theorem f_22_6 : fnd 22 6 = some (6, .iload_n 2, 1, 0, 0, 0, 0) := ceB_eq (by decide +kernel)
theorem f_22_7 : fnd 22 7 = some (7, .putfield 23, 3, 6, 1, 1, 0) := ceB_eq (by decide +kernel)
theorem f_22_10 : fnd 22 10 = some (10, .aload_n 0, 1, 0, 0, 0, 0) := ceB_eq (by decide +kernel)
theorem f_22_11 : fnd 22 11 = some (11, .iconst (-1), 1, 0, 0, 0, 0) := ceB_eq (by decide +kernel)
theorem f_22_12 : fnd 22 12 = some (12, .putfield 26, 3, 6, 2, 2, 0) := ceB_eq (by decide +kernel)
theorem f_22_15 : fnd 22 15 = some (15, .aload_n 0, 1, 0, 0, 0, 0) := ceB_eq (by decide +kernel)
theorem f_22_16 : fnd 22 16 = some (16, .iconst 0, 1, 0, 0, 0, 0) := ceB_eq (by decide +kernel)
theorem f_22_17 : fnd 22 17 = some (17, .putfield 29, 3, 6, 3, 3, 0) := ceB_eq (by decide +kernel)
theorem f_22_20 : fnd 22 20 = some (20, .aload_n 0, 1, 0, 0, 0, 0) := ceB_eq (by decide +kernel)
theorem f_22_21 : fnd 22 21 = some (21, .iconst 0, 1, 0, 0, 0, 0) := ceB_eq (by decide +kernel)
theorem f_22_22 : fnd 22 22 = some (22, .putfield 32, 3, 6, 4, 4, 0) := ceB_eq (by decide +kernel)
theorem f_22_25 : fnd 22 25 = some (25, .aload_n 0, 1, 0, 0, 0, 0) := ceB_eq (by decide +kernel)
theorem f_22_26 : fnd 22 26 = some (26, .iconst 0, 1, 0, 0, 0, 0) := ceB_eq (by decide +kernel)
theorem f_22_27 : fnd 22 27 = some (27, .putfield 35, 3, 6, 5, 5, 0) := ceB_eq (by decide +kernel)
theorem f_22_30 : fnd 22 30 = some (30, .aload_n 0, 1, 0, 0, 0, 0) := ceB_eq (by decide +kernel)
theorem f_22_31 : fnd 22 31 = some (31, .iconst 0, 1, 0, 0, 0, 0) := ceB_eq (by decide +kernel)
theorem f_22_32 : fnd 22 32 = some (32, .putfield 39, 3, 6, 6, 6, 0) := ceB_eq (by decide +kernel)
theorem f_22_35 : fnd 22 35 = some (35, .aload_n 0, 1, 0, 0, 0, 0) := ceB_eq (by decide +kernel)
theorem f_22_36 : fnd 22 36 = some (36, .iconst 0, 1, 0, 0, 0, 0) := ceB_eq (by decide +kernel)
theorem f_22_37 : fnd 22 37 = some (37, .putfield 42, 3, 6, 7, 7, 0) := ceB_eq (by decide +kernel)
theorem f_22_40 : fnd 22 40 = some (40, .iconst 0, 1, 0, 0, 0, 0) := ceB_eq (by decide +kernel)
theorem f_22_41 : fnd 22 41 = some (41, .istore_n 3, 1, 0, 0, 0, 0) := ceB_eq (by decide +kernel)
theorem f_22_42 : fnd 22 42 = some (42, .iload_n 3, 1, 0, 0, 0, 0) := ceB_eq (by decide +kernel)
theorem f_22_43 : fnd 22 43 = some (43, .iconst 4, 1, 0, 0, 0, 0) := ceB_eq (by decide +kernel)
theorem f_22_44 : fnd 22 44 = some (44, .if_icmp .ge 16, 3, 0, 0, 0, 0) := ceB_eq (by decide +kernel)
theorem f_22_47 : fnd 22 47 = some (47, .aload_n 0, 1, 0, 0, 0, 0) := ceB_eq (by decide +kernel)
theorem f_22_48 : fnd 22 48 = some (48, .getfield 9, 3, 6, 8, 8, 0) := ceB_eq (by decide +kernel)
theorem f_22_51 : fnd 22 51 = some (51, .iload_n 3, 1, 0, 0, 0, 0) := ceB_eq (by decide +kernel)
theorem f_22_52 : fnd 22 52 = some (52, .iconst 0, 1, 0, 0, 0, 0) := ceB_eq (by decide +kernel)
theorem f_22_53 : fnd 22 53 = some (53, .iastore, 1, 0, 0, 0, 0) := ceB_eq (by decide +kernel)
theorem f_22_54 : fnd 22 54 = some (54, .iinc 3 1, 3, 0, 0, 0, 0) := ceB_eq (by decide +kernel)
theorem f_22_57 : fnd 22 57 = some (57, .goto (-15), 3, 0, 0, 0, 0) := ceB_eq (by decide +kernel)
theorem f_22_60 : fnd 22 60 = some (60, .return_, 1, 0, 0, 0, 0) := ceB_eq (by decide +kernel)
theorem rk_22 : rkm 22 = 4 := by decide +kernel
theorem ml_22 : (mth 22).2.1 = 4 := by decide +kernel
set_option maxRecDepth 100000 in
theorem T_Page_begin (k0 i0 x1 x2 : Int) (σ : ST) (Q : Option AV → ST → Prop) (h :
  ((0 : Int) = 0 ∨ (0 : Int) = 1) ∧
  wp m_Page_begin (42, [some (.inr (.inr (14, k0, i0))), some (.inl x1), some (.inl x2), some (.inl 0)], [], (up (up (up (up (up (up (up (up σ 14 k0 i0 0 x1) 14 k0 i0 1 x2) 14 k0 i0 2 (-1)) 14 k0 i0 3 0) 14 k0 i0 4 0) 14 k0 i0 5 0) 14 k0 i0 6 0) 14 k0 i0 7 0)) Q) :
  wpM m_Page_begin [.inr (.inr (14, k0, i0)), .inl x1, .inl x2] σ Q :=
 wpM_of ml_22 (L := [some (.inr (.inr (14, k0, i0))), some (.inl x1), some (.inl x2), none]) rfl
 (w_aload_n (p' := 1) f_22_0 rfl rfl
 (w_iload_n (p' := 2) f_22_1 rfl rfl
 (w_putI (p' := 5) f_22_2 rfl rfl (c' := 0) rfl rfl
 (w_aload_n (p' := 6) f_22_5 rfl rfl
 (w_iload_n (p' := 7) f_22_6 rfl rfl
 (w_putI (p' := 10) f_22_7 rfl rfl (c' := 1) rfl rfl
 (w_aload_n (p' := 11) f_22_10 rfl rfl
 (w_iconst (p' := 12) f_22_11 rfl
 (w_putI (p' := 15) f_22_12 rfl rfl (c' := 2) rfl rfl
 (w_aload_n (p' := 16) f_22_15 rfl rfl
 (w_iconst (p' := 17) f_22_16 rfl
 (w_putI (p' := 20) f_22_17 rfl rfl (c' := 3) rfl rfl
 (w_aload_n (p' := 21) f_22_20 rfl rfl
 (w_iconst (p' := 22) f_22_21 rfl
 (w_putI (p' := 25) f_22_22 rfl rfl (c' := 4) rfl rfl
 (w_aload_n (p' := 26) f_22_25 rfl rfl
 (w_iconst (p' := 27) f_22_26 rfl
 (w_putZ (p' := 30) f_22_27 rfl rfl (c' := 5) rfl h.1 rfl
 (w_aload_n (p' := 31) f_22_30 rfl rfl
 (w_iconst (p' := 32) f_22_31 rfl
 (w_putI (p' := 35) f_22_32 rfl rfl (c' := 6) rfl rfl
 (w_aload_n (p' := 36) f_22_35 rfl rfl
 (w_iconst (p' := 37) f_22_36 rfl
 (w_putI (p' := 40) f_22_37 rfl rfl (c' := 7) rfl rfl
 (w_iconst (p' := 41) f_22_40 rfl
 (w_istore_n (p' := 42) f_22_41 (L' := [some (.inr (.inr (14, k0, i0))), some (.inl x1), some (.inl x2), some (.inl 0)]) rfl rfl
 (h.2)))))))))))))))))))))))))))
set_option maxRecDepth 100000 in
theorem T_Page_begin_42 (k0 i0 x3 : Int) (o1 o2 : Option AV) (σ : ST) (Q : Option AV → ST → Prop) (h :
  (((4 ≤ x3 : Prop) →
    Q none σ) ∧
  (¬ (4 ≤ x3) →
    ((0 : Int) ≤ x3 ∧ (x3 : Int) < 4) ∧
    wp m_Page_begin (42, [some (.inr (.inr (14, k0, i0))), o1, o2, some (.inl (wr (x3 + 1)))], [], (up σ 15 k0 i0 x3 0)) Q))) :
  wp m_Page_begin (42, [some (.inr (.inr (14, k0, i0))), o1, o2, some (.inl x3)], [], σ) Q :=
 w_iload_n (p' := 43) f_22_42 rfl rfl
 (w_iconst (p' := 44) f_22_43 rfl
 (w_icmp (p' := 60) (q' := 47) f_22_44 rfl rfl
 (fun c101 => w_vret f_22_60 rk_22 (h.1 c101))
 (fun c101 => w_aload_n (p' := 48) f_22_47 rfl rfl
 (w_getfield (p' := 51) f_22_48 rfl (x := .inr (.inr (15, k0, i0))) rfl rfl
 (w_iload_n (p' := 52) f_22_51 rfl rfl
 (w_iconst (p' := 53) f_22_52 rfl
 (w_iastore (p' := 54) f_22_53 rfl (n := 4) rfl (h.2 c101).1 rfl
 (w_iinc (p' := 57) f_22_54 rfl (L' := [some (.inr (.inr (14, k0, i0))), o1, o2, some (.inl (wr (x3 + 1)))]) rfl rfl
 (w_goto (p' := 42) f_22_57 rfl
 ((h.2 c101).2))))))))))
/-! ClosedRooms$Core.goOutside()V -/
theorem f_23_0 : fnd 23 0 = some (0, .aload_n 0, 1, 0, 0, 0, 0) := ceB_eq (by decide +kernel)
theorem f_23_1 : fnd 23 1 = some (1, .iconst (-1), 1, 0, 0, 0, 0) := ceB_eq (by decide +kernel)
theorem f_23_2 : fnd 23 2 = some (2, .putfield 15, 3, 8, 1, 1, 0) := ceB_eq (by decide +kernel)
theorem f_23_5 : fnd 23 5 = some (5, .aload_n 0, 1, 0, 0, 0, 0) := ceB_eq (by decide +kernel)
theorem f_23_6 : fnd 23 6 = some (6, .iconst (-1), 1, 0, 0, 0, 0) := ceB_eq (by decide +kernel)
theorem f_23_7 : fnd 23 7 = some (7, .putfield 18, 3, 8, 2, 2, 0) := ceB_eq (by decide +kernel)
theorem f_23_10 : fnd 23 10 = some (10, .aload_n 0, 1, 0, 0, 0, 0) := ceB_eq (by decide +kernel)
theorem f_23_11 : fnd 23 11 = some (11, .iconst (-1), 1, 0, 0, 0, 0) := ceB_eq (by decide +kernel)
theorem f_23_12 : fnd 23 12 = some (12, .putfield 21, 3, 8, 3, 3, 0) := ceB_eq (by decide +kernel)
theorem f_23_15 : fnd 23 15 = some (15, .aload_n 0, 1, 0, 0, 0, 0) := ceB_eq (by decide +kernel)
theorem f_23_16 : fnd 23 16 = some (16, .iconst 0, 1, 0, 0, 0, 0) := ceB_eq (by decide +kernel)
theorem f_23_17 : fnd 23 17 = some (17, .putfield 24, 3, 8, 4, 4, 0) := ceB_eq (by decide +kernel)
theorem f_23_20 : fnd 23 20 = some (20, .return_, 1, 0, 0, 0, 0) := ceB_eq (by decide +kernel)
theorem rk_23 : rkm 23 = 4 := by decide +kernel
theorem ml_23 : (mth 23).2.1 = 1 := by decide +kernel
set_option maxRecDepth 100000 in
theorem T_Core_goOutside (k0 i0 : Int) (σ : ST) (Q : Option AV → ST → Prop) (h :
  Q none (up (up (up (up σ 21 k0 i0 1 (-1)) 21 k0 i0 2 (-1)) 21 k0 i0 3 (-1)) 21 k0 i0 4 0)) :
  wpM m_Core_goOutside [.inr (.inr (21, k0, i0))] σ Q :=
 wpM_of ml_23 (L := [some (.inr (.inr (21, k0, i0)))]) rfl
 (w_aload_n (p' := 1) f_23_0 rfl rfl
 (w_iconst (p' := 2) f_23_1 rfl
 (w_putI (p' := 5) f_23_2 rfl rfl (c' := 1) rfl rfl
 (w_aload_n (p' := 6) f_23_5 rfl rfl
 (w_iconst (p' := 7) f_23_6 rfl
 (w_putI (p' := 10) f_23_7 rfl rfl (c' := 2) rfl rfl
 (w_aload_n (p' := 11) f_23_10 rfl rfl
 (w_iconst (p' := 12) f_23_11 rfl
 (w_putI (p' := 15) f_23_12 rfl rfl (c' := 3) rfl rfl
 (w_aload_n (p' := 16) f_23_15 rfl rfl
 (w_iconst (p' := 17) f_23_16 rfl
 (w_putI (p' := 20) f_23_17 rfl rfl (c' := 4) rfl rfl
 (w_vret f_23_20 rk_23 h)))))))))))))
/-! ClosedRooms$Core.begin()V -/
theorem f_24_0 : fnd 24 0 = some (0, .aload_n 0, 1, 0, 0, 0, 0) := ceB_eq (by decide +kernel)
theorem f_24_1 : fnd 24 1 = some (1, .iconst 0, 1, 0, 0, 0, 0) := ceB_eq (by decide +kernel)
theorem f_24_2 : fnd 24 2 = some (2, .putfield 9, 3, 8, 0, 0, 0) := ceB_eq (by decide +kernel)
theorem f_24_5 : fnd 24 5 = some (5, .aload_n 0, 1, 0, 0, 0, 0) := ceB_eq (by decide +kernel)
theorem f_24_6 : fnd 24 6 = some (6, .invokevirtual 34, 3, 23, 1, 8, 0) := ceB_eq (by decide +kernel)
theorem f_24_9 : fnd 24 9 = some (9, .return_, 1, 0, 0, 0, 0) := ceB_eq (by decide +kernel)
theorem rk_24 : rkm 24 = 4 := by decide +kernel
theorem ml_24 : (mth 24).2.1 = 1 := by decide +kernel
set_option maxRecDepth 100000 in
theorem T_Core_begin (k0 i0 : Int) (σ : ST) (Q : Option AV → ST → Prop) (h :
  wpM m_Core_goOutside [.inr (.inr (21, k0, i0))] (up σ 21 k0 i0 0 0) (asV fun s101 =>
  Q none s101)) :
  wpM m_Core_begin [.inr (.inr (21, k0, i0))] σ Q :=
 wpM_of ml_24 (L := [some (.inr (.inr (21, k0, i0)))]) rfl
 (w_aload_n (p' := 1) f_24_0 rfl rfl
 (w_iconst (p' := 2) f_24_1 rfl
 (w_putI (p' := 5) f_24_2 rfl rfl (c' := 0) rfl rfl
 (w_aload_n (p' := 6) f_24_5 rfl rfl
 (w_callV (p' := 9) f_24_6 rfl rfl rfl rfl rfl (r := []) rfl rfl (kV rk_23 fun s101 h101 =>
 w_vret f_24_9 rk_24 h101) h)))))
/-! ClosedRooms$Log.begin()V -/
theorem f_25_0 : fnd 25 0 = some (0, .aload_n 0, 1, 0, 0, 0, 0) := ceB_eq (by decide +kernel)
theorem f_25_1 : fnd 25 1 = some (1, .iconst 0, 1, 0, 0, 0, 0) := ceB_eq (by decide +kernel)
theorem f_25_2 : fnd 25 2 = some (2, .putfield 9, 3, 5, 0, 0, 0) := ceB_eq (by decide +kernel)
theorem f_25_5 : fnd 25 5 = some (5, .aload_n 0, 1, 0, 0, 0, 0) := ceB_eq (by decide +kernel)
theorem f_25_6 : fnd 25 6 = some (6, .iconst 0, 1, 0, 0, 0, 0) := ceB_eq (by decide +kernel)
theorem f_25_7 : fnd 25 7 = some (7, .putfield 15, 3, 5, 1, 1, 0) := ceB_eq (by decide +kernel)
theorem f_25_10 : fnd 25 10 = some (10, .return_, 1, 0, 0, 0, 0) := ceB_eq (by decide +kernel)
theorem rk_25 : rkm 25 = 4 := by decide +kernel
theorem ml_25 : (mth 25).2.1 = 1 := by decide +kernel
set_option maxRecDepth 100000 in
theorem T_Log_begin (k0 i0 : Int) (σ : ST) (Q : Option AV → ST → Prop) (h :
  Q none (up (up σ 26 k0 i0 0 0) 26 k0 i0 1 0)) :
  wpM m_Log_begin [.inr (.inr (26, k0, i0))] σ Q :=
 wpM_of ml_25 (L := [some (.inr (.inr (26, k0, i0)))]) rfl
 (w_aload_n (p' := 1) f_25_0 rfl rfl
 (w_iconst (p' := 2) f_25_1 rfl
 (w_putI (p' := 5) f_25_2 rfl rfl (c' := 0) rfl rfl
 (w_aload_n (p' := 6) f_25_5 rfl rfl
 (w_iconst (p' := 7) f_25_6 rfl
 (w_putI (p' := 10) f_25_7 rfl rfl (c' := 1) rfl rfl
 (w_vret f_25_10 rk_25 h)))))))
/-! ClosedRooms$World.begin(III)V -/
theorem f_26_0 : fnd 26 0 = some (0, .aload_n 0, 1, 0, 0, 0, 0) := ceB_eq (by decide +kernel)
theorem f_26_1 : fnd 26 1 = some (1, .iload_n 1, 1, 0, 0, 0, 0) := ceB_eq (by decide +kernel)
theorem f_26_2 : fnd 26 2 = some (2, .putfield 9, 3, 4, 0, 0, 0) := ceB_eq (by decide +kernel)
theorem f_26_5 : fnd 26 5 = some (5, .aload_n 0, 1, 0, 0, 0, 0) := ceB_eq (by decide +kernel)
theorem f_26_6 : fnd 26 6 = some (6, .iload_n 2, 1, 0, 0, 0, 0) := ceB_eq (by decide +kernel)
theorem f_26_7 : fnd 26 7 = some (7, .putfield 15, 3, 4, 1, 1, 0) := ceB_eq (by decide +kernel)
theorem f_26_10 : fnd 26 10 = some (10, .aload_n 0, 1, 0, 0, 0, 0) := ceB_eq (by decide +kernel)
theorem f_26_11 : fnd 26 11 = some (11, .iload_n 3, 1, 0, 0, 0, 0) := ceB_eq (by decide +kernel)
theorem f_26_12 : fnd 26 12 = some (12, .putfield 18, 3, 4, 2, 2, 0) := ceB_eq (by decide +kernel)
theorem f_26_15 : fnd 26 15 = some (15, .aload_n 0, 1, 0, 0, 0, 0) := ceB_eq (by decide +kernel)
theorem f_26_16 : fnd 26 16 = some (16, .iconst 0, 1, 0, 0, 0, 0) := ceB_eq (by decide +kernel)
theorem f_26_17 : fnd 26 17 = some (17, .putfield 21, 3, 4, 3, 3, 0) := ceB_eq (by decide +kernel)
theorem f_26_20 : fnd 26 20 = some (20, .aload_n 0, 1, 0, 0, 0, 0) := ceB_eq (by decide +kernel)
theorem f_26_21 : fnd 26 21 = some (21, .iconst 0, 1, 0, 0, 0, 0) := ceB_eq (by decide +kernel)
theorem f_26_22 : fnd 26 22 = some (22, .putfield 24, 3, 4, 4, 4, 0) := ceB_eq (by decide +kernel)
theorem f_26_25 : fnd 26 25 = some (25, .iconst 0, 1, 0, 0, 0, 0) := ceB_eq (by decide +kernel)
theorem f_26_26 : fnd 26 26 = some (26, .istore 4, 2, 0, 0, 0, 0) := ceB_eq (by decide +kernel)
theorem f_26_28 : fnd 26 28 = some (28, .iload 4, 2, 0, 0, 0, 0) := ceB_eq (by decide +kernel)
theorem f_26_30 : fnd 26 30 = some (30, .bipush 10, 2, 0, 0, 0, 0) := ceB_eq (by decide +kernel)
theorem f_26_32 : fnd 26 32 = some (32, .if_icmp .ge 21, 3, 0, 0, 0, 0) := ceB_eq (by decide +kernel)
theorem f_26_35 : fnd 26 35 = some (35, .aload_n 0, 1, 0, 0, 0, 0) := ceB_eq (by decide +kernel)
theorem f_26_36 : fnd 26 36 = some (36, .getfield 29, 3, 4, 5, 5, 0) := ceB_eq (by decide +kernel)
theorem f_26_39 : fnd 26 39 = some (39, .iload 4, 2, 0, 0, 0, 0) := ceB_eq (by decide +kernel)
theorem f_26_41 : fnd 26 41 = some (41, .aaload, 1, 0, 0, 0, 0) := ceB_eq (by decide +kernel)
theorem f_26_42 : fnd 26 42 = some (42, .iconst 0, 1, 0, 0, 0, 0) := ceB_eq (by decide +kernel)
theorem f_26_43 : fnd 26 43 = some (43, .iconst (-1), 1, 0, 0, 0, 0) := ceB_eq (by decide +kernel)
theorem f_26_44 : fnd 26 44 = some (44, .invokevirtual 62, 3, 22, 3, 6, 0) := ceB_eq (by decide +kernel)
theorem f_26_47 : fnd 26 47 = some (47, .iinc 4 1, 3, 0, 0, 0, 0) := ceB_eq (by decide +kernel)
theorem f_26_50 : fnd 26 50 = some (50, .goto (-22), 3, 0, 0, 0, 0) := ceB_eq (by decide +kernel)
theorem f_26_53 : fnd 26 53 = some (53, .iconst 0, 1, 0, 0, 0, 0) := ceB_eq (by decide +kernel)
theorem f_26_54 : fnd 26 54 = some (54, .istore 4, 2, 0, 0, 0, 0) := ceB_eq (by decide +kernel)
theorem f_26_56 : fnd 26 56 = some (56, .iload 4, 2, 0, 0, 0, 0) := ceB_eq (by decide +kernel)
theorem f_26_58 : fnd 26 58 = some (58, .iconst 4, 1, 0, 0, 0, 0) := ceB_eq (by decide +kernel)
theorem f_26_59 : fnd 26 59 = some (59, .if_icmp .ge 20, 3, 0, 0, 0, 0) := ceB_eq (by decide +kernel)
theorem f_26_62 : fnd 26 62 = some (62, .aload_n 0, 1, 0, 0, 0, 0) := ceB_eq (by decide +kernel)
theorem f_26_63 : fnd 26 63 = some (63, .getfield 35, 3, 4, 6, 6, 0) := ceB_eq (by decide +kernel)
theorem f_26_66 : fnd 26 66 = some (66, .iload 4, 2, 0, 0, 0, 0) := ceB_eq (by decide +kernel)
theorem f_26_68 : fnd 26 68 = some (68, .aaload, 1, 0, 0, 0, 0) := ceB_eq (by decide +kernel)
theorem f_26_69 : fnd 26 69 = some (69, .iconst 0, 1, 0, 0, 0, 0) := ceB_eq (by decide +kernel)
theorem f_26_70 : fnd 26 70 = some (70, .putfield 66, 3, 7, 0, 0, 0) := ceB_eq (by decide +kernel)
theorem f_26_73 : fnd 26 73 = some (73, .iinc 4 1, 3, 0, 0, 0, 0) := ceB_eq (by decide +kernel)
theorem f_26_76 : fnd 26 76 = some (76, .goto (-20), 3, 0, 0, 0, 0) := ceB_eq (by decide +kernel)
theorem f_26_79 : fnd 26 79 = some (79, .iconst 0, 1, 0, 0, 0, 0) := ceB_eq (by decide +kernel)
theorem f_26_80 : fnd 26 80 = some (80, .istore 4, 2, 0, 0, 0, 0) := ceB_eq (by decide +kernel)
theorem f_26_82 : fnd 26 82 = some (82, .iload 4, 2, 0, 0, 0, 0) := ceB_eq (by decide +kernel)
theorem f_26_84 : fnd 26 84 = some (84, .iconst 3, 1, 0, 0, 0, 0) := ceB_eq (by decide +kernel)
theorem f_26_85 : fnd 26 85 = some (85, .if_icmp .ge 19, 3, 0, 0, 0, 0) := ceB_eq (by decide +kernel)
theorem f_26_88 : fnd 26 88 = some (88, .aload_n 0, 1, 0, 0, 0, 0) := ceB_eq (by decide +kernel)
theorem f_26_89 : fnd 26 89 = some (89, .getfield 41, 3, 4, 7, 7, 0) := ceB_eq (by decide +kernel)
theorem f_26_92 : fnd 26 92 = some (92, .iload 4, 2, 0, 0, 0, 0) := ceB_eq (by decide +kernel)
theorem f_26_94 : fnd 26 94 = some (94, .aaload, 1, 0, 0, 0, 0) := ceB_eq (by decide +kernel)
theorem f_26_95 : fnd 26 95 = some (95, .invokevirtual 70, 3, 24, 1, 8, 0) := ceB_eq (by decide +kernel)
theorem f_26_98 : fnd 26 98 = some (98, .iinc 4 1, 3, 0, 0, 0, 0) := ceB_eq (by decide +kernel)
theorem f_26_101 : fnd 26 101 = some (101, .goto (-19), 3, 0, 0, 0, 0) := ceB_eq (by decide +kernel)
theorem f_26_104 : fnd 26 104 = some (104, .iconst 0, 1, 0, 0, 0, 0) := ceB_eq (by decide +kernel)
theorem f_26_105 : fnd 26 105 = some (105, .istore 4, 2, 0, 0, 0, 0) := ceB_eq (by decide +kernel)
theorem f_26_107 : fnd 26 107 = some (107, .iload 4, 2, 0, 0, 0, 0) := ceB_eq (by decide +kernel)
theorem f_26_109 : fnd 26 109 = some (109, .bipush 12, 2, 0, 0, 0, 0) := ceB_eq (by decide +kernel)
theorem f_26_111 : fnd 26 111 = some (111, .if_icmp .ge 20, 3, 0, 0, 0, 0) := ceB_eq (by decide +kernel)
theorem f_26_114 : fnd 26 114 = some (114, .aload_n 0, 1, 0, 0, 0, 0) := ceB_eq (by decide +kernel)
theorem f_26_115 : fnd 26 115 = some (115, .getfield 47, 3, 4, 8, 8, 0) := ceB_eq (by decide +kernel)
theorem f_26_118 : fnd 26 118 = some (118, .iload 4, 2, 0, 0, 0, 0) := ceB_eq (by decide +kernel)
theorem f_26_120 : fnd 26 120 = some (120, .aaload, 1, 0, 0, 0, 0) := ceB_eq (by decide +kernel)
theorem f_26_121 : fnd 26 121 = some (121, .iconst 0, 1, 0, 0, 0, 0) := ceB_eq (by decide +kernel)
theorem f_26_122 : fnd 26 122 = some (122, .putfield 72, 3, 9, 0, 0, 0) := ceB_eq (by decide +kernel)
theorem f_26_125 : fnd 26 125 = some (125, .iinc 4 1, 3, 0, 0, 0, 0) := ceB_eq (by decide +kernel)
theorem f_26_128 : fnd 26 128 = some (128, .goto (-21), 3, 0, 0, 0, 0) := ceB_eq (by decide +kernel)
theorem f_26_131 : fnd 26 131 = some (131, .aload_n 0, 1, 0, 0, 0, 0) := ceB_eq (by decide +kernel)
theorem f_26_132 : fnd 26 132 = some (132, .getfield 54, 3, 4, 9, 9, 0) := ceB_eq (by decide +kernel)
theorem f_26_135 : fnd 26 135 = some (135, .invokevirtual 73, 3, 25, 1, 5, 0) := ceB_eq (by decide +kernel)
theorem f_26_138 : fnd 26 138 = some (138, .return_, 1, 0, 0, 0, 0) := ceB_eq (by decide +kernel)
theorem rk_26 : rkm 26 = 4 := by decide +kernel
theorem ml_26 : (mth 26).2.1 = 5 := by decide +kernel
set_option maxRecDepth 100000 in
theorem T_World_begin (k0 i0 x1 x2 x3 : Int) (σ : ST) (Q : Option AV → ST → Prop) (h :
  wp m_World_begin (28, [some (.inr (.inr (12, k0, i0))), some (.inl x1), some (.inl x2), some (.inl x3), some (.inl 0)], [], (up (up (up (up (up σ 12 k0 i0 0 x1) 12 k0 i0 1 x2) 12 k0 i0 2 x3) 12 k0 i0 3 0) 12 k0 i0 4 0)) Q) :
  wpM m_World_begin [.inr (.inr (12, k0, i0)), .inl x1, .inl x2, .inl x3] σ Q :=
 wpM_of ml_26 (L := [some (.inr (.inr (12, k0, i0))), some (.inl x1), some (.inl x2), some (.inl x3), none]) rfl
 (w_aload_n (p' := 1) f_26_0 rfl rfl
 (w_iload_n (p' := 2) f_26_1 rfl rfl
 (w_putI (p' := 5) f_26_2 rfl rfl (c' := 0) rfl rfl
 (w_aload_n (p' := 6) f_26_5 rfl rfl
 (w_iload_n (p' := 7) f_26_6 rfl rfl
 (w_putI (p' := 10) f_26_7 rfl rfl (c' := 1) rfl rfl
 (w_aload_n (p' := 11) f_26_10 rfl rfl
 (w_iload_n (p' := 12) f_26_11 rfl rfl
 (w_putI (p' := 15) f_26_12 rfl rfl (c' := 2) rfl rfl
 (w_aload_n (p' := 16) f_26_15 rfl rfl
 (w_iconst (p' := 17) f_26_16 rfl
 (w_putI (p' := 20) f_26_17 rfl rfl (c' := 3) rfl rfl
 (w_aload_n (p' := 21) f_26_20 rfl rfl
 (w_iconst (p' := 22) f_26_21 rfl
 (w_putI (p' := 25) f_26_22 rfl rfl (c' := 4) rfl rfl
 (w_iconst (p' := 26) f_26_25 rfl
 (w_istore (p' := 28) f_26_26 (L' := [some (.inr (.inr (12, k0, i0))), some (.inl x1), some (.inl x2), some (.inl x3), some (.inl 0)]) rfl rfl
 (h))))))))))))))))))
set_option maxRecDepth 100000 in
theorem T_World_begin_28 (k0 i0 x4 : Int) (o1 o2 o3 : Option AV) (σ : ST) (Q : Option AV → ST → Prop) (h :
  (((10 ≤ x4 : Prop) →
    wp m_World_begin (56, [some (.inr (.inr (12, k0, i0))), o1, o2, o3, some (.inl 0)], [], σ) Q) ∧
  (¬ (10 ≤ x4) →
    ((0 : Int) ≤ x4 ∧ (x4 : Int) < 10) ∧
    wpM m_Page_begin [.inr (.inr (14, k0, x4)), .inl 0, .inl (-1)] σ (asV fun s101 =>
    wp m_World_begin (28, [some (.inr (.inr (12, k0, i0))), o1, o2, o3, some (.inl (wr (x4 + 1)))], [], s101) Q)))) :
  wp m_World_begin (28, [some (.inr (.inr (12, k0, i0))), o1, o2, o3, some (.inl x4)], [], σ) Q :=
 w_iload (p' := 30) f_26_28 rfl rfl
 (w_bipush (p' := 32) f_26_30 rfl
 (w_icmp (p' := 53) (q' := 35) f_26_32 rfl rfl
 (fun c102 => w_iconst (p' := 54) f_26_53 rfl
 (w_istore (p' := 56) f_26_54 (L' := [some (.inr (.inr (12, k0, i0))), o1, o2, o3, some (.inl 0)]) rfl rfl
 ((h.1 c102))))
 (fun c102 => w_aload_n (p' := 36) f_26_35 rfl rfl
 (w_getfield (p' := 39) f_26_36 rfl (x := .inr (.inr (13, k0, 0))) rfl rfl
 (w_iload (p' := 41) f_26_39 rfl rfl
 (w_aaload (p' := 42) f_26_41 rfl (n := 10) rfl (x := (14, k0, x4)) rfl (h.2 c102).1 rfl
 (w_iconst (p' := 43) f_26_42 rfl
 (w_iconst (p' := 44) f_26_43 rfl
 (w_callV (p' := 47) f_26_44 rfl rfl rfl rfl rfl (r := []) rfl rfl (kV rk_22 fun s101 h101 =>
 w_iinc (p' := 50) f_26_47 rfl (L' := [some (.inr (.inr (12, k0, i0))), o1, o2, o3, some (.inl (wr (x4 + 1)))]) rfl rfl
 (w_goto (p' := 28) f_26_50 rfl
 (h101))) (h.2 c102).2)))))))))
set_option maxRecDepth 100000 in
theorem T_World_begin_56 (k0 i0 x4 : Int) (o1 o2 o3 : Option AV) (σ : ST) (Q : Option AV → ST → Prop) (h :
  (((4 ≤ x4 : Prop) →
    wp m_World_begin (82, [some (.inr (.inr (12, k0, i0))), o1, o2, o3, some (.inl 0)], [], σ) Q) ∧
  (¬ (4 ≤ x4) →
    ((0 : Int) ≤ x4 ∧ (x4 : Int) < 4) ∧
    ((0 : Int) = 0 ∨ (0 : Int) = 1) ∧
    wp m_World_begin (56, [some (.inr (.inr (12, k0, i0))), o1, o2, o3, some (.inl (wr (x4 + 1)))], [], (up σ 17 k0 x4 0 0)) Q))) :
  wp m_World_begin (56, [some (.inr (.inr (12, k0, i0))), o1, o2, o3, some (.inl x4)], [], σ) Q :=
 w_iload (p' := 58) f_26_56 rfl rfl
 (w_iconst (p' := 59) f_26_58 rfl
 (w_icmp (p' := 79) (q' := 62) f_26_59 rfl rfl
 (fun c101 => w_iconst (p' := 80) f_26_79 rfl
 (w_istore (p' := 82) f_26_80 (L' := [some (.inr (.inr (12, k0, i0))), o1, o2, o3, some (.inl 0)]) rfl rfl
 ((h.1 c101))))
 (fun c101 => w_aload_n (p' := 63) f_26_62 rfl rfl
 (w_getfield (p' := 66) f_26_63 rfl (x := .inr (.inr (16, k0, 0))) rfl rfl
 (w_iload (p' := 68) f_26_66 rfl rfl
 (w_aaload (p' := 69) f_26_68 rfl (n := 4) rfl (x := (17, k0, x4)) rfl (h.2 c101).1 rfl
 (w_iconst (p' := 70) f_26_69 rfl
 (w_putZ (p' := 73) f_26_70 rfl rfl (c' := 0) rfl (h.2 c101).2.1 rfl
 (w_iinc (p' := 76) f_26_73 rfl (L' := [some (.inr (.inr (12, k0, i0))), o1, o2, o3, some (.inl (wr (x4 + 1)))]) rfl rfl
 (w_goto (p' := 56) f_26_76 rfl
 ((h.2 c101).2.2)))))))))))
set_option maxRecDepth 100000 in
theorem T_World_begin_82 (k0 i0 x4 : Int) (o1 o2 o3 : Option AV) (σ : ST) (Q : Option AV → ST → Prop) (h :
  (((3 ≤ x4 : Prop) →
    wp m_World_begin (107, [some (.inr (.inr (12, k0, i0))), o1, o2, o3, some (.inl 0)], [], σ) Q) ∧
  (¬ (3 ≤ x4) →
    ((0 : Int) ≤ x4 ∧ (x4 : Int) < 3) ∧
    wpM m_Core_begin [.inr (.inr (21, k0, x4))] σ (asV fun s101 =>
    wp m_World_begin (82, [some (.inr (.inr (12, k0, i0))), o1, o2, o3, some (.inl (wr (x4 + 1)))], [], s101) Q)))) :
  wp m_World_begin (82, [some (.inr (.inr (12, k0, i0))), o1, o2, o3, some (.inl x4)], [], σ) Q :=
 w_iload (p' := 84) f_26_82 rfl rfl
 (w_iconst (p' := 85) f_26_84 rfl
 (w_icmp (p' := 104) (q' := 88) f_26_85 rfl rfl
 (fun c102 => w_iconst (p' := 105) f_26_104 rfl
 (w_istore (p' := 107) f_26_105 (L' := [some (.inr (.inr (12, k0, i0))), o1, o2, o3, some (.inl 0)]) rfl rfl
 ((h.1 c102))))
 (fun c102 => w_aload_n (p' := 89) f_26_88 rfl rfl
 (w_getfield (p' := 92) f_26_89 rfl (x := .inr (.inr (20, k0, 0))) rfl rfl
 (w_iload (p' := 94) f_26_92 rfl rfl
 (w_aaload (p' := 95) f_26_94 rfl (n := 3) rfl (x := (21, k0, x4)) rfl (h.2 c102).1 rfl
 (w_callV (p' := 98) f_26_95 rfl rfl rfl rfl rfl (r := []) rfl rfl (kV rk_24 fun s101 h101 =>
 w_iinc (p' := 101) f_26_98 rfl (L' := [some (.inr (.inr (12, k0, i0))), o1, o2, o3, some (.inl (wr (x4 + 1)))]) rfl rfl
 (w_goto (p' := 82) f_26_101 rfl
 (h101))) (h.2 c102).2)))))))
set_option maxRecDepth 100000 in
theorem T_World_begin_107 (k0 i0 x4 : Int) (o1 o2 o3 : Option AV) (σ : ST) (Q : Option AV → ST → Prop) (h :
  (((12 ≤ x4 : Prop) →
    wpM m_Log_begin [.inr (.inr (26, k0, 0))] σ (asV fun s101 =>
    Q none s101)) ∧
  (¬ (12 ≤ x4) →
    ((0 : Int) ≤ x4 ∧ (x4 : Int) < 12) ∧
    ((0 : Int) = 0 ∨ (0 : Int) = 1) ∧
    wp m_World_begin (107, [some (.inr (.inr (12, k0, i0))), o1, o2, o3, some (.inl (wr (x4 + 1)))], [], (up σ 25 k0 x4 0 0)) Q))) :
  wp m_World_begin (107, [some (.inr (.inr (12, k0, i0))), o1, o2, o3, some (.inl x4)], [], σ) Q :=
 w_iload (p' := 109) f_26_107 rfl rfl
 (w_bipush (p' := 111) f_26_109 rfl
 (w_icmp (p' := 131) (q' := 114) f_26_111 rfl rfl
 (fun c102 => w_aload_n (p' := 132) f_26_131 rfl rfl
 (w_getfield (p' := 135) f_26_132 rfl (x := .inr (.inr (26, k0, 0))) rfl rfl
 (w_callV (p' := 138) f_26_135 rfl rfl rfl rfl rfl (r := []) rfl rfl (kV rk_25 fun s101 h101 =>
 w_vret f_26_138 rk_26 h101) (h.1 c102))))
 (fun c102 => w_aload_n (p' := 115) f_26_114 rfl rfl
 (w_getfield (p' := 118) f_26_115 rfl (x := .inr (.inr (24, k0, 0))) rfl rfl
 (w_iload (p' := 120) f_26_118 rfl rfl
 (w_aaload (p' := 121) f_26_120 rfl (n := 12) rfl (x := (25, k0, x4)) rfl (h.2 c102).1 rfl
 (w_iconst (p' := 122) f_26_121 rfl
 (w_putZ (p' := 125) f_26_122 rfl rfl (c' := 0) rfl (h.2 c102).2.1 rfl
 (w_iinc (p' := 128) f_26_125 rfl (L' := [some (.inr (.inr (12, k0, i0))), o1, o2, o3, some (.inl (wr (x4 + 1)))]) rfl rfl
 (w_goto (p' := 107) f_26_128 rfl
 ((h.2 c102).2.2)))))))))))
/-! ClosedRooms.takeMachine()I -/
theorem f_27_0 : fnd 27 0 = some (0, .aload_n 0, 1, 0, 0, 0, 0) := ceB_eq (by decide +kernel)
theorem f_27_1 : fnd 27 1 = some (1, .getfield 10, 3, 0, 0, 0, 0) := ceB_eq (by decide +kernel)
theorem f_27_4 : fnd 27 4 = some (4, .iconst 0, 1, 0, 0, 0, 0) := ceB_eq (by decide +kernel)
theorem f_27_5 : fnd 27 5 = some (5, .invokevirtual 83, 3, 20, 2, 1, 0) := ceB_eq (by decide +kernel)
theorem f_27_8 : fnd 27 8 = some (8, .iconst (-1), 1, 0, 0, 0, 0) := ceB_eq (by decide +kernel)
theorem f_27_9 : fnd 27 9 = some (9, .if_icmp .eq 5, 3, 0, 0, 0, 0) := ceB_eq (by decide +kernel)
theorem f_27_12 : fnd 27 12 = some (12, .iconst (-1), 1, 0, 0, 0, 0) := ceB_eq (by decide +kernel)
theorem f_27_13 : fnd 27 13 = some (13, .ireturn, 1, 0, 0, 0, 0) := ceB_eq (by decide +kernel)
theorem f_27_14 : fnd 27 14 = some (14, .aload_n 0, 1, 0, 0, 0, 0) := ceB_eq (by decide +kernel)
theorem f_27_15 : fnd 27 15 = some (15, .getfield 10, 3, 0, 0, 0, 0) := ceB_eq (by decide +kernel)
theorem f_27_18 : fnd 27 18 = some (18, .iconst 0, 1, 0, 0, 0, 0) := ceB_eq (by decide +kernel)
theorem f_27_19 : fnd 27 19 = some (19, .putfield 76, 3, 1, 0, 0, 0) := ceB_eq (by decide +kernel)
theorem f_27_22 : fnd 27 22 = some (22, .aload_n 0, 1, 0, 0, 0, 0) := ceB_eq (by decide +kernel)
theorem f_27_23 : fnd 27 23 = some (23, .getfield 10, 3, 0, 0, 0, 0) := ceB_eq (by decide +kernel)
theorem f_27_26 : fnd 27 26 = some (26, .getfield 93, 3, 1, 3, 3, 0) := ceB_eq (by decide +kernel)
theorem f_27_29 : fnd 27 29 = some (29, .iconst 0, 1, 0, 0, 0, 0) := ceB_eq (by decide +kernel)
theorem f_27_30 : fnd 27 30 = some (30, .aload_n 0, 1, 0, 0, 0, 0) := ceB_eq (by decide +kernel)
theorem f_27_31 : fnd 27 31 = some (31, .getfield 16, 3, 0, 1, 1, 0) := ceB_eq (by decide +kernel)
theorem f_27_34 : fnd 27 34 = some (34, .iconst 0, 1, 0, 0, 0, 0) := ceB_eq (by decide +kernel)
theorem f_27_35 : fnd 27 35 = some (35, .iconst 4, 1, 0, 0, 0, 0) := ceB_eq (by decide +kernel)
theorem f_27_36 : fnd 27 36 = some (36, .invokestatic 94, 3, 900, 5, 0, 0) := ceB_eq (by decide +kernel)
theorem f_27_39 : fnd 27 39 = some (39, .aload_n 0, 1, 0, 0, 0, 0) := ceB_eq (by decide +kernel)
theorem f_27_40 : fnd 27 40 = some (40, .iconst 1, 1, 0, 0, 0, 0) := ceB_eq (by decide +kernel)
theorem f_27_41 : fnd 27 41 = some (41, .putfield 20, 3, 0, 2, 2, 0) := ceB_eq (by decide +kernel)
theorem f_27_44 : fnd 27 44 = some (44, .aload_n 0, 1, 0, 0, 0, 0) := ceB_eq (by decide +kernel)
theorem f_27_45 : fnd 27 45 = some (45, .iconst 0, 1, 0, 0, 0, 0) := ceB_eq (by decide +kernel)
theorem f_27_46 : fnd 27 46 = some (46, .putfield 55, 3, 0, 9, 9, 0) := ceB_eq (by decide +kernel)
theorem f_27_49 : fnd 27 49 = some (49, .aload_n 0, 1, 0, 0, 0, 0) := ceB_eq (by decide +kernel)
theorem f_27_50 : fnd 27 50 = some (50, .iconst 0, 1, 0, 0, 0, 0) := ceB_eq (by decide +kernel)
theorem f_27_51 : fnd 27 51 = some (51, .putfield 65, 3, 0, 12, 12, 0) := ceB_eq (by decide +kernel)
theorem f_27_54 : fnd 27 54 = some (54, .aload_n 0, 1, 0, 0, 0, 0) := ceB_eq (by decide +kernel)
theorem f_27_55 : fnd 27 55 = some (55, .getfield 45, 3, 0, 6, 6, 0) := ceB_eq (by decide +kernel)
theorem f_27_58 : fnd 27 58 = some (58, .aload_n 0, 1, 0, 0, 0, 0) := ceB_eq (by decide +kernel)
theorem f_27_59 : fnd 27 59 = some (59, .getfield 16, 3, 0, 1, 1, 0) := ceB_eq (by decide +kernel)
theorem f_27_62 : fnd 27 62 = some (62, .iconst 0, 1, 0, 0, 0, 0) := ceB_eq (by decide +kernel)
theorem f_27_63 : fnd 27 63 = some (63, .iaload, 1, 0, 0, 0, 0) := ceB_eq (by decide +kernel)
theorem f_27_64 : fnd 27 64 = some (64, .aload_n 0, 1, 0, 0, 0, 0) := ceB_eq (by decide +kernel)
theorem f_27_65 : fnd 27 65 = some (65, .getfield 16, 3, 0, 1, 1, 0) := ceB_eq (by decide +kernel)
theorem f_27_68 : fnd 27 68 = some (68, .iconst 1, 1, 0, 0, 0, 0) := ceB_eq (by decide +kernel)
theorem f_27_69 : fnd 27 69 = some (69, .iaload, 1, 0, 0, 0, 0) := ceB_eq (by decide +kernel)
theorem f_27_70 : fnd 27 70 = some (70, .aload_n 0, 1, 0, 0, 0, 0) := ceB_eq (by decide +kernel)
theorem f_27_71 : fnd 27 71 = some (71, .getfield 16, 3, 0, 1, 1, 0) := ceB_eq (by decide +kernel)
theorem f_27_74 : fnd 27 74 = some (74, .iconst 2, 1, 0, 0, 0, 0) := ceB_eq (by decide +kernel)
theorem f_27_75 : fnd 27 75 = some (75, .iaload, 1, 0, 0, 0, 0) := ceB_eq (by decide +kernel)
theorem f_27_76 : fnd 27 76 = some (76, .invokevirtual 100, 3, 26, 4, 4, 0) := ceB_eq (by decide +kernel)
theorem f_27_79 : fnd 27 79 = some (79, .aload_n 0, 1, 0, 0, 0, 0) := ceB_eq (by decide +kernel)
theorem f_27_80 : fnd 27 80 = some (80, .getfield 16, 3, 0, 1, 1, 0) := ceB_eq (by decide +kernel)
theorem f_27_83 : fnd 27 83 = some (83, .iconst 0, 1, 0, 0, 0, 0) := ceB_eq (by decide +kernel)
theorem f_27_84 : fnd 27 84 = some (84, .iaload, 1, 0, 0, 0, 0) := ceB_eq (by decide +kernel)
theorem f_27_85 : fnd 27 85 = some (85, .ireturn, 1, 0, 0, 0, 0) := ceB_eq (by decide +kernel)
theorem rk_27 : rkm 27 = 0 := by decide +kernel
theorem ml_27 : (mth 27).2.1 = 1 := by decide +kernel
set_option maxRecDepth 100000 in
theorem T_X_takeMachine (k0 i0 : Int) (σ : ST) (Q : Option AV → ST → Prop) (h :
  wpM m_Tape_faultAs [.inr (.inr (1, 0, 0)), .inl 0] σ (asI fun r101 s101 =>
  (((r101 = (-1) : Prop) →
    ((0 : Int) ≤ 0 ∧ (0 : Int) ≤ 0 ∧ (0 : Int) ≤ 4 ∧ (0 : Int) + 4 ≤ 4 ∧ (0 : Int) + 4 ≤ 4) ∧
    ((1 : Int) = 0 ∨ (1 : Int) = 1) ∧
    ((0 : Int) = 0 ∨ (0 : Int) = 1) ∧
    ((0 : Int) ≤ 0 ∧ (0 : Int) < 4) ∧
    ((0 : Int) ≤ 1 ∧ (1 : Int) < 4) ∧
    ((0 : Int) ≤ 2 ∧ (2 : Int) < 4) ∧
    wpM m_World_begin [.inr (.inr (12, 0, 0)), .inl ((up (up (up (cpy (up s101 1 0 0 0 0) 3 0 0 0 7 0 0 0 4) 0 k0 i0 2 1) 0 k0 i0 9 0) 0 k0 i0 12 0) 7 0 0 0), .inl ((up (up (up (cpy (up s101 1 0 0 0 0) 3 0 0 0 7 0 0 0 4) 0 k0 i0 2 1) 0 k0 i0 9 0) 0 k0 i0 12 0) 7 0 0 1), .inl ((up (up (up (cpy (up s101 1 0 0 0 0) 3 0 0 0 7 0 0 0 4) 0 k0 i0 2 1) 0 k0 i0 9 0) 0 k0 i0 12 0) 7 0 0 2)] (up (up (up (cpy (up s101 1 0 0 0 0) 3 0 0 0 7 0 0 0 4) 0 k0 i0 2 1) 0 k0 i0 9 0) 0 k0 i0 12 0) (asV fun s102 =>
    ((0 : Int) ≤ 0 ∧ (0 : Int) < 4) ∧
    Q (some (.inl (s102 7 0 0 0))) s102)) ∧
  (¬ (r101 = (-1)) →
    Q (some (.inl (-1))) s101)))) :
  wpM m_X_takeMachine [.inr (.inr (0, k0, i0))] σ Q :=
 wpM_of ml_27 (L := [some (.inr (.inr (0, k0, i0)))]) rfl
 (w_aload_n (p' := 1) f_27_0 rfl rfl
 (w_getfield (p' := 4) f_27_1 rfl (x := .inr (.inr (1, 0, 0))) rfl rfl
 (w_iconst (p' := 5) f_27_4 rfl
 (w_callV (p' := 8) f_27_5 rfl rfl rfl rfl rfl (r := []) rfl rfl (kI (.inl rk_20) fun r101 s101 h101 =>
 w_iconst (p' := 9) f_27_8 rfl
 (w_icmp (p' := 14) (q' := 12) f_27_9 rfl rfl
 (fun c103 => w_aload_n (p' := 15) f_27_14 rfl rfl
 (w_getfield (p' := 18) f_27_15 rfl (x := .inr (.inr (1, 0, 0))) rfl rfl
 (w_iconst (p' := 19) f_27_18 rfl
 (w_putI (p' := 22) f_27_19 rfl rfl (c' := 0) rfl rfl
 (w_aload_n (p' := 23) f_27_22 rfl rfl
 (w_getfield (p' := 26) f_27_23 rfl (x := .inr (.inr (1, 0, 0))) rfl rfl
 (w_getfield (p' := 29) f_27_26 rfl (x := .inr (.inr (3, 0, 0))) rfl rfl
 (w_iconst (p' := 30) f_27_29 rfl
 (w_aload_n (p' := 31) f_27_30 rfl rfl
 (w_getfield (p' := 34) f_27_31 rfl (x := .inr (.inr (7, 0, 0))) rfl rfl
 (w_iconst (p' := 35) f_27_34 rfl
 (w_iconst (p' := 36) f_27_35 rfl
 (w_copy (p' := 39) f_27_36 rfl rfl (N := 4) rfl (N1 := 4) rfl rfl (h101.1 c103).1 rfl
 (w_aload_n (p' := 40) f_27_39 rfl rfl
 (w_iconst (p' := 41) f_27_40 rfl
 (w_putZ (p' := 44) f_27_41 rfl rfl (c' := 2) rfl (h101.1 c103).2.1 rfl
 (w_aload_n (p' := 45) f_27_44 rfl rfl
 (w_iconst (p' := 46) f_27_45 rfl
 (w_putZ (p' := 49) f_27_46 rfl rfl (c' := 9) rfl (h101.1 c103).2.2.1 rfl
 (w_aload_n (p' := 50) f_27_49 rfl rfl
 (w_iconst (p' := 51) f_27_50 rfl
 (w_putI (p' := 54) f_27_51 rfl rfl (c' := 12) rfl rfl
 (w_aload_n (p' := 55) f_27_54 rfl rfl
 (w_getfield (p' := 58) f_27_55 rfl (x := .inr (.inr (12, 0, 0))) rfl rfl
 (w_aload_n (p' := 59) f_27_58 rfl rfl
 (w_getfield (p' := 62) f_27_59 rfl (x := .inr (.inr (7, 0, 0))) rfl rfl
 (w_iconst (p' := 63) f_27_62 rfl
 (w_iaload (p' := 64) f_27_63 rfl (n := 4) rfl (h101.1 c103).2.2.2.1 rfl
 (w_aload_n (p' := 65) f_27_64 rfl rfl
 (w_getfield (p' := 68) f_27_65 rfl (x := .inr (.inr (7, 0, 0))) rfl rfl
 (w_iconst (p' := 69) f_27_68 rfl
 (w_iaload (p' := 70) f_27_69 rfl (n := 4) rfl (h101.1 c103).2.2.2.2.1 rfl
 (w_aload_n (p' := 71) f_27_70 rfl rfl
 (w_getfield (p' := 74) f_27_71 rfl (x := .inr (.inr (7, 0, 0))) rfl rfl
 (w_iconst (p' := 75) f_27_74 rfl
 (w_iaload (p' := 76) f_27_75 rfl (n := 4) rfl (h101.1 c103).2.2.2.2.2.1 rfl
 (w_callV (p' := 79) f_27_76 rfl rfl rfl rfl rfl (r := []) rfl rfl (kV rk_26 fun s102 h102 =>
 w_aload_n (p' := 80) f_27_79 rfl rfl
 (w_getfield (p' := 83) f_27_80 rfl (x := .inr (.inr (7, 0, 0))) rfl rfl
 (w_iconst (p' := 84) f_27_83 rfl
 (w_iaload (p' := 85) f_27_84 rfl (n := 4) rfl h102.1 rfl
 (w_iret f_27_85 rk_27 h102.2))))) (h101.1 c103).2.2.2.2.2.2)))))))))))))))))))))))))))))))))))))
 (fun c103 => w_iconst (p' := 13) f_27_12 rfl
 (w_iret f_27_13 rk_27 (h101.2 c103))))) h))))
/-! ClosedRooms$Script.take(LClosedRooms$Script;)V -/
theorem f_28_0 : fnd 28 0 = some (0, .aload_n 0, 1, 0, 0, 0, 0) := ceB_eq (by decide +kernel)
theorem f_28_1 : fnd 28 1 = some (1, .aload_n 1, 1, 0, 0, 0, 0) := ceB_eq (by decide +kernel)
theorem f_28_2 : fnd 28 2 = some (2, .getfield 9, 3, 2, 0, 0, 0) := ceB_eq (by decide +kernel)
theorem f_28_5 : fnd 28 5 = some (5, .putfield 9, 3, 2, 0, 0, 0) := ceB_eq (by decide +kernel)
theorem f_28_8 : fnd 28 8 = some (8, .aload_n 1, 1, 0, 0, 0, 0) := ceB_eq (by decide +kernel)
theorem f_28_9 : fnd 28 9 = some (9, .getfield 15, 3, 2, 1, 1, 0) := ceB_eq (by decide +kernel)
theorem f_28_12 : fnd 28 12 = some (12, .iconst 0, 1, 0, 0, 0, 0) := ceB_eq (by decide +kernel)
theorem f_28_13 : fnd 28 13 = some (13, .aload_n 0, 1, 0, 0, 0, 0) := ceB_eq (by decide +kernel)
theorem f_28_14 : fnd 28 14 = some (14, .getfield 15, 3, 2, 1, 1, 0) := ceB_eq (by decide +kernel)
theorem f_28_17 : fnd 28 17 = some (17, .iconst 0, 1, 0, 0, 0, 0) := ceB_eq (by decide +kernel)
theorem f_28_18 : fnd 28 18 = some (18, .bipush 72, 2, 0, 0, 0, 0) := ceB_eq (by decide +kernel)
theorem f_28_20 : fnd 28 20 = some (20, .invokestatic 19, 3, 900, 5, 0, 0) := ceB_eq (by decide +kernel)
theorem f_28_23 : fnd 28 23 = some (23, .return_, 1, 0, 0, 0, 0) := ceB_eq (by decide +kernel)
theorem rk_28 : rkm 28 = 4 := by decide +kernel
theorem ml_28 : (mth 28).2.1 = 2 := by decide +kernel
set_option maxRecDepth 100000 in
theorem T_Script_take (k0 i0 k1 i1 : Int) (σ : ST) (Q : Option AV → ST → Prop) (h :
  ((0 : Int) ≤ 0 ∧ (0 : Int) ≤ 0 ∧ (0 : Int) ≤ 72 ∧ (0 : Int) + 72 ≤ 72 ∧ (0 : Int) + 72 ≤ 72) ∧
  Q none (cpy (up σ 5 k0 i0 0 (σ 5 k1 i1 0)) 6 k1 0 0 6 k0 0 0 72)) :
  wpM m_Script_take [.inr (.inr (5, k0, i0)), .inr (.inr (5, k1, i1))] σ Q :=
 wpM_of ml_28 (L := [some (.inr (.inr (5, k0, i0))), some (.inr (.inr (5, k1, i1)))]) rfl
 (w_aload_n (p' := 1) f_28_0 rfl rfl
 (w_aload_n (p' := 2) f_28_1 rfl rfl
 (w_getfield (p' := 5) f_28_2 rfl (x := .inl (σ 5 k1 i1 0)) rfl rfl
 (w_putI (p' := 8) f_28_5 rfl rfl (c' := 0) rfl rfl
 (w_aload_n (p' := 9) f_28_8 rfl rfl
 (w_getfield (p' := 12) f_28_9 rfl (x := .inr (.inr (6, k1, 0))) rfl rfl
 (w_iconst (p' := 13) f_28_12 rfl
 (w_aload_n (p' := 14) f_28_13 rfl rfl
 (w_getfield (p' := 17) f_28_14 rfl (x := .inr (.inr (6, k0, 0))) rfl rfl
 (w_iconst (p' := 18) f_28_17 rfl
 (w_bipush (p' := 20) f_28_18 rfl
 (w_copy (p' := 23) f_28_20 rfl rfl (N := 72) rfl (N1 := 72) rfl rfl h.1 rfl
 (w_vret f_28_23 rk_28 h.2)))))))))))))
/-! ClosedRooms.takeScript()I -/
theorem f_29_0 : fnd 29 0 = some (0, .aload_n 0, 1, 0, 0, 0, 0) := ceB_eq (by decide +kernel)
theorem f_29_1 : fnd 29 1 = some (1, .getfield 30, 3, 0, 4, 4, 0) := ceB_eq (by decide +kernel)
theorem f_29_4 : fnd 29 4 = some (4, .ifCond .lt 11, 3, 0, 0, 0, 0) := ceB_eq (by decide +kernel)
theorem f_29_7 : fnd 29 7 = some (7, .aload_n 0, 1, 0, 0, 0, 0) := ceB_eq (by decide +kernel)
theorem f_29_8 : fnd 29 8 = some (8, .getfield 30, 3, 0, 4, 4, 0) := ceB_eq (by decide +kernel)
theorem f_29_11 : fnd 29 11 = some (11, .iconst 4, 1, 0, 0, 0, 0) := ceB_eq (by decide +kernel)
theorem f_29_12 : fnd 29 12 = some (12, .if_icmp .lt 5, 3, 0, 0, 0, 0) := ceB_eq (by decide +kernel)
theorem f_29_15 : fnd 29 15 = some (15, .iconst (-1), 1, 0, 0, 0, 0) := ceB_eq (by decide +kernel)
theorem f_29_16 : fnd 29 16 = some (16, .ireturn, 1, 0, 0, 0, 0) := ceB_eq (by decide +kernel)
theorem f_29_17 : fnd 29 17 = some (17, .aload_n 0, 1, 0, 0, 0, 0) := ceB_eq (by decide +kernel)
theorem f_29_18 : fnd 29 18 = some (18, .getfield 10, 3, 0, 0, 0, 0) := ceB_eq (by decide +kernel)
theorem f_29_21 : fnd 29 21 = some (21, .iconst 1, 1, 0, 0, 0, 0) := ceB_eq (by decide +kernel)
theorem f_29_22 : fnd 29 22 = some (22, .invokevirtual 83, 3, 20, 2, 1, 0) := ceB_eq (by decide +kernel)
theorem f_29_25 : fnd 29 25 = some (25, .iconst (-1), 1, 0, 0, 0, 0) := ceB_eq (by decide +kernel)
theorem f_29_26 : fnd 29 26 = some (26, .if_icmp .eq 5, 3, 0, 0, 0, 0) := ceB_eq (by decide +kernel)
theorem f_29_29 : fnd 29 29 = some (29, .iconst (-1), 1, 0, 0, 0, 0) := ceB_eq (by decide +kernel)
theorem f_29_30 : fnd 29 30 = some (30, .ireturn, 1, 0, 0, 0, 0) := ceB_eq (by decide +kernel)
theorem f_29_31 : fnd 29 31 = some (31, .aload_n 0, 1, 0, 0, 0, 0) := ceB_eq (by decide +kernel)
theorem f_29_32 : fnd 29 32 = some (32, .getfield 10, 3, 0, 0, 0, 0) := ceB_eq (by decide +kernel)
theorem f_29_35 : fnd 29 35 = some (35, .iconst 0, 1, 0, 0, 0, 0) := ceB_eq (by decide +kernel)
theorem f_29_36 : fnd 29 36 = some (36, .putfield 76, 3, 1, 0, 0, 0) := ceB_eq (by decide +kernel)
theorem f_29_39 : fnd 29 39 = some (39, .aload_n 0, 1, 0, 0, 0, 0) := ceB_eq (by decide +kernel)
theorem f_29_40 : fnd 29 40 = some (40, .getfield 26, 3, 0, 3, 3, 0) := ceB_eq (by decide +kernel)
theorem f_29_43 : fnd 29 43 = some (43, .aload_n 0, 1, 0, 0, 0, 0) := ceB_eq (by decide +kernel)
theorem f_29_44 : fnd 29 44 = some (44, .getfield 30, 3, 0, 4, 4, 0) := ceB_eq (by decide +kernel)
theorem f_29_47 : fnd 29 47 = some (47, .aaload, 1, 0, 0, 0, 0) := ceB_eq (by decide +kernel)
theorem f_29_48 : fnd 29 48 = some (48, .aload_n 0, 1, 0, 0, 0, 0) := ceB_eq (by decide +kernel)
theorem f_29_49 : fnd 29 49 = some (49, .getfield 10, 3, 0, 0, 0, 0) := ceB_eq (by decide +kernel)
theorem f_29_52 : fnd 29 52 = some (52, .getfield 104, 3, 1, 5, 5, 0) := ceB_eq (by decide +kernel)
theorem f_29_55 : fnd 29 55 = some (55, .invokevirtual 108, 3, 28, 2, 2, 0) := ceB_eq (by decide +kernel)
theorem f_29_58 : fnd 29 58 = some (58, .aload_n 0, 1, 0, 0, 0, 0) := ceB_eq (by decide +kernel)
theorem f_29_59 : fnd 29 59 = some (59, .dup, 1, 0, 0, 0, 0) := ceB_eq (by decide +kernel)
theorem f_29_60 : fnd 29 60 = some (60, .getfield 30, 3, 0, 4, 4, 0) := ceB_eq (by decide +kernel)
theorem f_29_63 : fnd 29 63 = some (63, .iconst 1, 1, 0, 0, 0, 0) := ceB_eq (by decide +kernel)
theorem f_29_64 : fnd 29 64 = some (64, .iadd, 1, 0, 0, 0, 0) := ceB_eq (by decide +kernel)
theorem f_29_65 : fnd 29 65 = some (65, .putfield 30, 3, 0, 4, 4, 0) := ceB_eq (by decide +kernel)
theorem f_29_68 : fnd 29 68 = some (68, .aload_n 0, 1, 0, 0, 0, 0) := ceB_eq (by decide +kernel)
theorem f_29_69 : fnd 29 69 = some (69, .getfield 30, 3, 0, 4, 4, 0) := ceB_eq (by decide +kernel)
theorem f_29_72 : fnd 29 72 = some (72, .iconst 1, 1, 0, 0, 0, 0) := ceB_eq (by decide +kernel)
theorem f_29_73 : fnd 29 73 = some (73, .isub, 1, 0, 0, 0, 0) := ceB_eq (by decide +kernel)
theorem f_29_74 : fnd 29 74 = some (74, .ireturn, 1, 0, 0, 0, 0) := ceB_eq (by decide +kernel)
theorem rk_29 : rkm 29 = 0 := by decide +kernel
theorem ml_29 : (mth 29).2.1 = 1 := by decide +kernel
set_option maxRecDepth 100000 in
theorem T_X_takeScript (k0 i0 : Int) (σ : ST) (Q : Option AV → ST → Prop) (h :
  ((((σ 0 k0 i0 4) < 0 : Prop) →
    Q (some (.inl (-1))) σ) ∧
  (¬ ((σ 0 k0 i0 4) < 0) →
    ((((σ 0 k0 i0 4) < 4 : Prop) →
      wpM m_Tape_faultAs [.inr (.inr (1, 0, 0)), .inl 1] σ (asI fun r101 s101 =>
      (((r101 = (-1) : Prop) →
        ((0 : Int) ≤ ((up s101 1 0 0 0 0) 0 k0 i0 4) ∧ (((up s101 1 0 0 0 0) 0 k0 i0 4) : Int) < 4) ∧
        wpM m_Script_take [.inr (.inr (5, ((up s101 1 0 0 0 0) 0 k0 i0 4), 0)), .inr (.inr (5, 4, 0))] (up s101 1 0 0 0 0) (asV fun s102 =>
        Q (some (.inl (wr (((up s102 0 k0 i0 4 (wr ((s102 0 k0 i0 4) + 1))) 0 k0 i0 4) - 1)))) (up s102 0 k0 i0 4 (wr ((s102 0 k0 i0 4) + 1))))) ∧
      (¬ (r101 = (-1)) →
        Q (some (.inl (-1))) s101)))) ∧
    (¬ ((σ 0 k0 i0 4) < 4) →
      Q (some (.inl (-1))) σ))))) :
  wpM m_X_takeScript [.inr (.inr (0, k0, i0))] σ Q :=
 wpM_of ml_29 (L := [some (.inr (.inr (0, k0, i0)))]) rfl
 (w_aload_n (p' := 1) f_29_0 rfl rfl
 (w_getfield (p' := 4) f_29_1 rfl (x := .inl (σ 0 k0 i0 4)) rfl rfl
 (w_if (p' := 15) (q' := 7) f_29_4 rfl rfl
 (fun c105 => w_iconst (p' := 16) f_29_15 rfl
 (w_iret f_29_16 rk_29 (h.1 c105)))
 (fun c105 => w_aload_n (p' := 8) f_29_7 rfl rfl
 (w_getfield (p' := 11) f_29_8 rfl (x := .inl (σ 0 k0 i0 4)) rfl rfl
 (w_iconst (p' := 12) f_29_11 rfl
 (w_icmp (p' := 17) (q' := 15) f_29_12 rfl rfl
 (fun c104 => w_aload_n (p' := 18) f_29_17 rfl rfl
 (w_getfield (p' := 21) f_29_18 rfl (x := .inr (.inr (1, 0, 0))) rfl rfl
 (w_iconst (p' := 22) f_29_21 rfl
 (w_callV (p' := 25) f_29_22 rfl rfl rfl rfl rfl (r := []) rfl rfl (kI (.inl rk_20) fun r101 s101 h101 =>
 w_iconst (p' := 26) f_29_25 rfl
 (w_icmp (p' := 31) (q' := 29) f_29_26 rfl rfl
 (fun c103 => w_aload_n (p' := 32) f_29_31 rfl rfl
 (w_getfield (p' := 35) f_29_32 rfl (x := .inr (.inr (1, 0, 0))) rfl rfl
 (w_iconst (p' := 36) f_29_35 rfl
 (w_putI (p' := 39) f_29_36 rfl rfl (c' := 0) rfl rfl
 (w_aload_n (p' := 40) f_29_39 rfl rfl
 (w_getfield (p' := 43) f_29_40 rfl (x := .inr (.inr (8, 0, 0))) rfl rfl
 (w_aload_n (p' := 44) f_29_43 rfl rfl
 (w_getfield (p' := 47) f_29_44 rfl (x := .inl ((up s101 1 0 0 0 0) 0 k0 i0 4)) rfl rfl
 (w_aaload (p' := 48) f_29_47 rfl (n := 4) rfl (x := (5, ((up s101 1 0 0 0 0) 0 k0 i0 4), 0)) rfl (h101.1 c103).1 rfl
 (w_aload_n (p' := 49) f_29_48 rfl rfl
 (w_getfield (p' := 52) f_29_49 rfl (x := .inr (.inr (1, 0, 0))) rfl rfl
 (w_getfield (p' := 55) f_29_52 rfl (x := .inr (.inr (5, 4, 0))) rfl rfl
 (w_callV (p' := 58) f_29_55 rfl rfl rfl rfl rfl (r := []) rfl rfl (kV rk_28 fun s102 h102 =>
 w_aload_n (p' := 59) f_29_58 rfl rfl
 (w_dupR (p' := 60) f_29_59 rfl
 (w_getfield (p' := 63) f_29_60 rfl (x := .inl (s102 0 k0 i0 4)) rfl rfl
 (w_iconst (p' := 64) f_29_63 rfl
 (w_iadd (p' := 65) f_29_64 rfl
 (w_putI (p' := 68) f_29_65 rfl rfl (c' := 4) rfl rfl
 (w_aload_n (p' := 69) f_29_68 rfl rfl
 (w_getfield (p' := 72) f_29_69 rfl (x := .inl ((up s102 0 k0 i0 4 (wr ((s102 0 k0 i0 4) + 1))) 0 k0 i0 4)) rfl rfl
 (w_iconst (p' := 73) f_29_72 rfl
 (w_isub (p' := 74) f_29_73 rfl
 (w_iret f_29_74 rk_29 h102))))))))))) (h101.1 c103).2)))))))))))))
 (fun c103 => w_iconst (p' := 30) f_29_29 rfl
 (w_iret f_29_30 rk_29 (h101.2 c103))))) ((h.2 c105).1 c104)))))
 (fun c104 => w_iconst (p' := 16) f_29_15 rfl
 (w_iret f_29_16 rk_29 ((h.2 c105).2 c104))))))))))
/-! ClosedRooms.text(I)I -/
theorem f_30_0 : fnd 30 0 = some (0, .iload_n 1, 1, 0, 0, 0, 0) := ceB_eq (by decide +kernel)
theorem f_30_1 : fnd 30 1 = some (1, .ifCond .ne 8, 3, 0, 0, 0, 0) := ceB_eq (by decide +kernel)
theorem f_30_4 : fnd 30 4 = some (4, .aload_n 0, 1, 0, 0, 0, 0) := ceB_eq (by decide +kernel)
theorem f_30_5 : fnd 30 5 = some (5, .invokevirtual 86, 3, 27, 1, 0, 0) := ceB_eq (by decide +kernel)
theorem f_30_8 : fnd 30 8 = some (8, .ireturn, 1, 0, 0, 0, 0) := ceB_eq (by decide +kernel)
theorem f_30_9 : fnd 30 9 = some (9, .iload_n 1, 1, 0, 0, 0, 0) := ceB_eq (by decide +kernel)
theorem f_30_10 : fnd 30 10 = some (10, .iconst 1, 1, 0, 0, 0, 0) := ceB_eq (by decide +kernel)
theorem f_30_11 : fnd 30 11 = some (11, .if_icmp .ne 8, 3, 0, 0, 0, 0) := ceB_eq (by decide +kernel)
theorem f_30_14 : fnd 30 14 = some (14, .aload_n 0, 1, 0, 0, 0, 0) := ceB_eq (by decide +kernel)
theorem f_30_15 : fnd 30 15 = some (15, .invokevirtual 90, 3, 29, 1, 0, 0) := ceB_eq (by decide +kernel)
theorem f_30_18 : fnd 30 18 = some (18, .ireturn, 1, 0, 0, 0, 0) := ceB_eq (by decide +kernel)
theorem f_30_19 : fnd 30 19 = some (19, .iconst (-1), 1, 0, 0, 0, 0) := ceB_eq (by decide +kernel)
theorem f_30_20 : fnd 30 20 = some (20, .ireturn, 1, 0, 0, 0, 0) := ceB_eq (by decide +kernel)
theorem rk_30 : rkm 30 = 0 := by decide +kernel
theorem ml_30 : (mth 30).2.1 = 2 := by decide +kernel
set_option maxRecDepth 100000 in
theorem T_X_text (k0 i0 x1 : Int) (σ : ST) (Q : Option AV → ST → Prop) (h :
  (((x1 ≠ 0 : Prop) →
    (((x1 ≠ 1 : Prop) →
      Q (some (.inl (-1))) σ) ∧
    (¬ (x1 ≠ 1) →
      wpM m_X_takeScript [.inr (.inr (0, k0, i0))] σ (asI fun r101 s101 =>
      Q (some (.inl r101)) s101)))) ∧
  (¬ (x1 ≠ 0) →
    wpM m_X_takeMachine [.inr (.inr (0, k0, i0))] σ (asI fun r103 s103 =>
    Q (some (.inl r103)) s103)))) :
  wpM m_X_text [.inr (.inr (0, k0, i0)), .inl x1] σ Q :=
 wpM_of ml_30 (L := [some (.inr (.inr (0, k0, i0))), some (.inl x1)]) rfl
 (w_iload_n (p' := 1) f_30_0 rfl rfl
 (w_if (p' := 9) (q' := 4) f_30_1 rfl rfl
 (fun c104 => w_iload_n (p' := 10) f_30_9 rfl rfl
 (w_iconst (p' := 11) f_30_10 rfl
 (w_icmp (p' := 19) (q' := 14) f_30_11 rfl rfl
 (fun c102 => w_iconst (p' := 20) f_30_19 rfl
 (w_iret f_30_20 rk_30 ((h.1 c104).1 c102)))
 (fun c102 => w_aload_n (p' := 15) f_30_14 rfl rfl
 (w_callV (p' := 18) f_30_15 rfl rfl rfl rfl rfl (r := []) rfl rfl (kI (.inl rk_29) fun r101 s101 h101 =>
 w_iret f_30_18 rk_30 h101) ((h.1 c104).2 c102))))))
 (fun c104 => w_aload_n (p' := 5) f_30_4 rfl rfl
 (w_callV (p' := 8) f_30_5 rfl rfl rfl rfl rfl (r := []) rfl rfl (kI (.inl rk_27) fun r103 s103 h103 =>
 w_iret f_30_8 rk_30 h103) (h.2 c104)))))
/-! ClosedRooms.rule(I)I -/
theorem f_31_0 : fnd 31 0 = some (0, .aload_n 0, 1, 0, 0, 0, 0) := ceB_eq (by decide +kernel)
theorem f_31_1 : fnd 31 1 = some (1, .getfield 20, 3, 0, 2, 2, 0) := ceB_eq (by decide +kernel)
theorem f_31_4 : fnd 31 4 = some (4, .ifCond .eq 12, 3, 0, 0, 0, 0) := ceB_eq (by decide +kernel)
theorem f_31_7 : fnd 31 7 = some (7, .iload_n 1, 1, 0, 0, 0, 0) := ceB_eq (by decide +kernel)
theorem f_31_8 : fnd 31 8 = some (8, .ifCond .lt 8, 3, 0, 0, 0, 0) := ceB_eq (by decide +kernel)
theorem f_31_11 : fnd 31 11 = some (11, .iload_n 1, 1, 0, 0, 0, 0) := ceB_eq (by decide +kernel)
theorem f_31_12 : fnd 31 12 = some (12, .iconst 4, 1, 0, 0, 0, 0) := ceB_eq (by decide +kernel)
theorem f_31_13 : fnd 31 13 = some (13, .if_icmp .lt 5, 3, 0, 0, 0, 0) := ceB_eq (by decide +kernel)
theorem f_31_16 : fnd 31 16 = some (16, .iconst (-1), 1, 0, 0, 0, 0) := ceB_eq (by decide +kernel)
theorem f_31_17 : fnd 31 17 = some (17, .ireturn, 1, 0, 0, 0, 0) := ceB_eq (by decide +kernel)
theorem f_31_18 : fnd 31 18 = some (18, .aload_n 0, 1, 0, 0, 0, 0) := ceB_eq (by decide +kernel)
theorem f_31_19 : fnd 31 19 = some (19, .getfield 16, 3, 0, 1, 1, 0) := ceB_eq (by decide +kernel)
theorem f_31_22 : fnd 31 22 = some (22, .iload_n 1, 1, 0, 0, 0, 0) := ceB_eq (by decide +kernel)
theorem f_31_23 : fnd 31 23 = some (23, .iaload, 1, 0, 0, 0, 0) := ceB_eq (by decide +kernel)
theorem f_31_24 : fnd 31 24 = some (24, .ireturn, 1, 0, 0, 0, 0) := ceB_eq (by decide +kernel)
theorem rk_31 : rkm 31 = 0 := by decide +kernel
theorem ml_31 : (mth 31).2.1 = 2 := by decide +kernel
set_option maxRecDepth 100000 in
theorem T_X_rule (k0 i0 x1 : Int) (σ : ST) (Q : Option AV → ST → Prop) (h :
  ((((bz (σ 0 k0 i0 2)) = 0 : Prop) →
    Q (some (.inl (-1))) σ) ∧
  (¬ ((bz (σ 0 k0 i0 2)) = 0) →
    (((x1 < 0 : Prop) →
      Q (some (.inl (-1))) σ) ∧
    (¬ (x1 < 0) →
      (((x1 < 4 : Prop) →
        ((0 : Int) ≤ x1 ∧ (x1 : Int) < 4) ∧
        Q (some (.inl (σ 7 0 0 x1))) σ) ∧
      (¬ (x1 < 4) →
        Q (some (.inl (-1))) σ))))))) :
  wpM m_X_rule [.inr (.inr (0, k0, i0)), .inl x1] σ Q :=
 wpM_of ml_31 (L := [some (.inr (.inr (0, k0, i0))), some (.inl x1)]) rfl
 (w_aload_n (p' := 1) f_31_0 rfl rfl
 (w_getfield (p' := 4) f_31_1 rfl (x := .inl (bz (σ 0 k0 i0 2))) rfl rfl
 (w_if (p' := 16) (q' := 7) f_31_4 rfl rfl
 (fun c103 => w_iconst (p' := 17) f_31_16 rfl
 (w_iret f_31_17 rk_31 (h.1 c103)))
 (fun c103 => w_iload_n (p' := 8) f_31_7 rfl rfl
 (w_if (p' := 16) (q' := 11) f_31_8 rfl rfl
 (fun c102 => w_iconst (p' := 17) f_31_16 rfl
 (w_iret f_31_17 rk_31 ((h.2 c103).1 c102)))
 (fun c102 => w_iload_n (p' := 12) f_31_11 rfl rfl
 (w_iconst (p' := 13) f_31_12 rfl
 (w_icmp (p' := 18) (q' := 16) f_31_13 rfl rfl
 (fun c101 => w_aload_n (p' := 19) f_31_18 rfl rfl
 (w_getfield (p' := 22) f_31_19 rfl (x := .inr (.inr (7, 0, 0))) rfl rfl
 (w_iload_n (p' := 23) f_31_22 rfl rfl
 (w_iaload (p' := 24) f_31_23 rfl (n := 4) rfl (((h.2 c103).2 c102).1 c101).1 rfl
 (w_iret f_31_24 rk_31 (((h.2 c103).2 c102).1 c101).2)))))
 (fun c101 => w_iconst (p' := 17) f_31_16 rfl
 (w_iret f_31_17 rk_31 (((h.2 c103).2 c102).2 c101)))))))))))
/-! ClosedRooms$World.isPage(I)Z -/
theorem f_32_0 : fnd 32 0 = some (0, .iload_n 1, 1, 0, 0, 0, 0) := ceB_eq (by decide +kernel)
theorem f_32_1 : fnd 32 1 = some (1, .ifCond .lt 21, 3, 0, 0, 0, 0) := ceB_eq (by decide +kernel)
theorem f_32_4 : fnd 32 4 = some (4, .iload_n 1, 1, 0, 0, 0, 0) := ceB_eq (by decide +kernel)
theorem f_32_5 : fnd 32 5 = some (5, .aload_n 0, 1, 0, 0, 0, 0) := ceB_eq (by decide +kernel)
theorem f_32_6 : fnd 32 6 = some (6, .getfield 9, 3, 4, 0, 0, 0) := ceB_eq (by decide +kernel)
theorem f_32_9 : fnd 32 9 = some (9, .if_icmp .ge 13, 3, 0, 0, 0, 0) := ceB_eq (by decide +kernel)
theorem f_32_12 : fnd 32 12 = some (12, .iload_n 1, 1, 0, 0, 0, 0) := ceB_eq (by decide +kernel)
theorem f_32_13 : fnd 32 13 = some (13, .bipush 10, 2, 0, 0, 0, 0) := ceB_eq (by decide +kernel)
theorem f_32_15 : fnd 32 15 = some (15, .if_icmp .ge 7, 3, 0, 0, 0, 0) := ceB_eq (by decide +kernel)
theorem f_32_18 : fnd 32 18 = some (18, .iconst 1, 1, 0, 0, 0, 0) := ceB_eq (by decide +kernel)
theorem f_32_19 : fnd 32 19 = some (19, .goto 4, 3, 0, 0, 0, 0) := ceB_eq (by decide +kernel)
theorem f_32_22 : fnd 32 22 = some (22, .iconst 0, 1, 0, 0, 0, 0) := ceB_eq (by decide +kernel)
theorem f_32_23 : fnd 32 23 = some (23, .ireturn, 1, 0, 0, 0, 0) := ceB_eq (by decide +kernel)
theorem rk_32 : rkm 32 = 1 := by decide +kernel
theorem ml_32 : (mth 32).2.1 = 2 := by decide +kernel
set_option maxRecDepth 100000 in
theorem T_World_isPage (k0 i0 x1 : Int) (σ : ST) (Q : Option AV → ST → Prop) (h :
  (((x1 < 0 : Prop) →
    ((0 : Int) = 0 ∨ (0 : Int) = 1) ∧ Q (some (.inl 0)) σ) ∧
  (¬ (x1 < 0) →
    ((((σ 12 k0 i0 0) ≤ x1 : Prop) →
      ((0 : Int) = 0 ∨ (0 : Int) = 1) ∧ Q (some (.inl 0)) σ) ∧
    (¬ ((σ 12 k0 i0 0) ≤ x1) →
      (((10 ≤ x1 : Prop) →
        ((0 : Int) = 0 ∨ (0 : Int) = 1) ∧ Q (some (.inl 0)) σ) ∧
      (¬ (10 ≤ x1) →
        ((1 : Int) = 0 ∨ (1 : Int) = 1) ∧ Q (some (.inl 1)) σ))))))) :
  wpM m_World_isPage [.inr (.inr (12, k0, i0)), .inl x1] σ Q :=
 wpM_of ml_32 (L := [some (.inr (.inr (12, k0, i0))), some (.inl x1)]) rfl
 (w_iload_n (p' := 1) f_32_0 rfl rfl
 (w_if (p' := 22) (q' := 4) f_32_1 rfl rfl
 (fun c103 => w_iconst (p' := 23) f_32_22 rfl
 (w_zret f_32_23 rk_32 (h.1 c103).1 (h.1 c103).2))
 (fun c103 => w_iload_n (p' := 5) f_32_4 rfl rfl
 (w_aload_n (p' := 6) f_32_5 rfl rfl
 (w_getfield (p' := 9) f_32_6 rfl (x := .inl (σ 12 k0 i0 0)) rfl rfl
 (w_icmp (p' := 22) (q' := 12) f_32_9 rfl rfl
 (fun c102 => w_iconst (p' := 23) f_32_22 rfl
 (w_zret f_32_23 rk_32 ((h.2 c103).1 c102).1 ((h.2 c103).1 c102).2))
 (fun c102 => w_iload_n (p' := 13) f_32_12 rfl rfl
 (w_bipush (p' := 15) f_32_13 rfl
 (w_icmp (p' := 22) (q' := 18) f_32_15 rfl rfl
 (fun c101 => w_iconst (p' := 23) f_32_22 rfl
 (w_zret f_32_23 rk_32 (((h.2 c103).2 c102).1 c101).1 (((h.2 c103).2 c102).1 c101).2))
 (fun c101 => w_iconst (p' := 19) f_32_18 rfl
 (w_goto (p' := 23) f_32_19 rfl
 (w_zret f_32_23 rk_32 (((h.2 c103).2 c102).2 c101).1 (((h.2 c103).2 c102).2 c101).2))))))))))))
/-! ClosedRooms$Page.hasRoom()Z -/
theorem f_33_0 : fnd 33 0 = some (0, .aload_n 0, 1, 0, 0, 0, 0) := ceB_eq (by decide +kernel)
theorem f_33_1 : fnd 33 1 = some (1, .getfield 19, 3, 6, 0, 0, 0) := ceB_eq (by decide +kernel)
theorem f_33_4 : fnd 33 4 = some (4, .iconst 1, 1, 0, 0, 0, 0) := ceB_eq (by decide +kernel)
theorem f_33_5 : fnd 33 5 = some (5, .if_icmp .eq 19, 3, 0, 0, 0, 0) := ceB_eq (by decide +kernel)
theorem f_33_8 : fnd 33 8 = some (8, .aload_n 0, 1, 0, 0, 0, 0) := ceB_eq (by decide +kernel)
theorem f_33_9 : fnd 33 9 = some (9, .getfield 19, 3, 6, 0, 0, 0) := ceB_eq (by decide +kernel)
theorem f_33_12 : fnd 33 12 = some (12, .iconst 2, 1, 0, 0, 0, 0) := ceB_eq (by decide +kernel)
theorem f_33_13 : fnd 33 13 = some (13, .if_icmp .eq 11, 3, 0, 0, 0, 0) := ceB_eq (by decide +kernel)
theorem f_33_16 : fnd 33 16 = some (16, .aload_n 0, 1, 0, 0, 0, 0) := ceB_eq (by decide +kernel)
theorem f_33_17 : fnd 33 17 = some (17, .getfield 19, 3, 6, 0, 0, 0) := ceB_eq (by decide +kernel)
theorem f_33_20 : fnd 33 20 = some (20, .iconst 3, 1, 0, 0, 0, 0) := ceB_eq (by decide +kernel)
theorem f_33_21 : fnd 33 21 = some (21, .if_icmp .ne 7, 3, 0, 0, 0, 0) := ceB_eq (by decide +kernel)
theorem f_33_24 : fnd 33 24 = some (24, .iconst 1, 1, 0, 0, 0, 0) := ceB_eq (by decide +kernel)
theorem f_33_25 : fnd 33 25 = some (25, .goto 4, 3, 0, 0, 0, 0) := ceB_eq (by decide +kernel)
theorem f_33_28 : fnd 33 28 = some (28, .iconst 0, 1, 0, 0, 0, 0) := ceB_eq (by decide +kernel)
theorem f_33_29 : fnd 33 29 = some (29, .ireturn, 1, 0, 0, 0, 0) := ceB_eq (by decide +kernel)
theorem rk_33 : rkm 33 = 1 := by decide +kernel
theorem ml_33 : (mth 33).2.1 = 1 := by decide +kernel
set_option maxRecDepth 100000 in
theorem T_Page_hasRoom (k0 i0 : Int) (σ : ST) (Q : Option AV → ST → Prop) (h :
  ((((σ 14 k0 i0 0) = 1 : Prop) →
    ((1 : Int) = 0 ∨ (1 : Int) = 1) ∧ Q (some (.inl 1)) σ) ∧
  (¬ ((σ 14 k0 i0 0) = 1) →
    ((((σ 14 k0 i0 0) = 2 : Prop) →
      ((1 : Int) = 0 ∨ (1 : Int) = 1) ∧ Q (some (.inl 1)) σ) ∧
    (¬ ((σ 14 k0 i0 0) = 2) →
      ((((σ 14 k0 i0 0) ≠ 3 : Prop) →
        ((0 : Int) = 0 ∨ (0 : Int) = 1) ∧ Q (some (.inl 0)) σ) ∧
      (¬ ((σ 14 k0 i0 0) ≠ 3) →
        ((1 : Int) = 0 ∨ (1 : Int) = 1) ∧ Q (some (.inl 1)) σ))))))) :
  wpM m_Page_hasRoom [.inr (.inr (14, k0, i0))] σ Q :=
 wpM_of ml_33 (L := [some (.inr (.inr (14, k0, i0)))]) rfl
 (w_aload_n (p' := 1) f_33_0 rfl rfl
 (w_getfield (p' := 4) f_33_1 rfl (x := .inl (σ 14 k0 i0 0)) rfl rfl
 (w_iconst (p' := 5) f_33_4 rfl
 (w_icmp (p' := 24) (q' := 8) f_33_5 rfl rfl
 (fun c103 => w_iconst (p' := 25) f_33_24 rfl
 (w_goto (p' := 29) f_33_25 rfl
 (w_zret f_33_29 rk_33 (h.1 c103).1 (h.1 c103).2)))
 (fun c103 => w_aload_n (p' := 9) f_33_8 rfl rfl
 (w_getfield (p' := 12) f_33_9 rfl (x := .inl (σ 14 k0 i0 0)) rfl rfl
 (w_iconst (p' := 13) f_33_12 rfl
 (w_icmp (p' := 24) (q' := 16) f_33_13 rfl rfl
 (fun c102 => w_iconst (p' := 25) f_33_24 rfl
 (w_goto (p' := 29) f_33_25 rfl
 (w_zret f_33_29 rk_33 ((h.2 c103).1 c102).1 ((h.2 c103).1 c102).2)))
 (fun c102 => w_aload_n (p' := 17) f_33_16 rfl rfl
 (w_getfield (p' := 20) f_33_17 rfl (x := .inl (σ 14 k0 i0 0)) rfl rfl
 (w_iconst (p' := 21) f_33_20 rfl
 (w_icmp (p' := 28) (q' := 24) f_33_21 rfl rfl
 (fun c101 => w_iconst (p' := 29) f_33_28 rfl
 (w_zret f_33_29 rk_33 (((h.2 c103).2 c102).1 c101).1 (((h.2 c103).2 c102).1 c101).2))
 (fun c101 => w_iconst (p' := 25) f_33_24 rfl
 (w_goto (p' := 29) f_33_25 rfl
 (w_zret f_33_29 rk_33 (((h.2 c103).2 c102).2 c101).1 (((h.2 c103).2 c102).2 c101).2)))))))))))))))
/-! ClosedRooms.page(II)I -/
theorem f_34_0 : fnd 34 0 = some (0, .aload_n 0, 1, 0, 0, 0, 0) := ceB_eq (by decide +kernel)
theorem f_34_1 : fnd 34 1 = some (1, .getfield 45, 3, 0, 6, 6, 0) := ceB_eq (by decide +kernel)
theorem f_34_4 : fnd 34 4 = some (4, .iload_n 1, 1, 0, 0, 0, 0) := ceB_eq (by decide +kernel)
theorem f_34_5 : fnd 34 5 = some (5, .invokevirtual 112, 3, 32, 2, 4, 0) := ceB_eq (by decide +kernel)
theorem f_34_8 : fnd 34 8 = some (8, .ifCond .eq 12, 3, 0, 0, 0, 0) := ceB_eq (by decide +kernel)
theorem f_34_11 : fnd 34 11 = some (11, .iload_n 2, 1, 0, 0, 0, 0) := ceB_eq (by decide +kernel)
theorem f_34_12 : fnd 34 12 = some (12, .ifCond .lt 8, 3, 0, 0, 0, 0) := ceB_eq (by decide +kernel)
theorem f_34_15 : fnd 34 15 = some (15, .iload_n 2, 1, 0, 0, 0, 0) := ceB_eq (by decide +kernel)
theorem f_34_16 : fnd 34 16 = some (16, .iconst 5, 1, 0, 0, 0, 0) := ceB_eq (by decide +kernel)
theorem f_34_17 : fnd 34 17 = some (17, .if_icmp .le 6, 3, 0, 0, 0, 0) := ceB_eq (by decide +kernel)
theorem f_34_20 : fnd 34 20 = some (20, .ldc 116, 2, 0, 0, 0, (-1000000)) := ceB_eq (by decide +kernel)
theorem f_34_22 : fnd 34 22 = some (22, .ireturn, 1, 0, 0, 0, 0) := ceB_eq (by decide +kernel)
theorem f_34_23 : fnd 34 23 = some (23, .aload_n 0, 1, 0, 0, 0, 0) := ceB_eq (by decide +kernel)
theorem f_34_24 : fnd 34 24 = some (24, .getfield 45, 3, 0, 6, 6, 0) := ceB_eq (by decide +kernel)
theorem f_34_27 : fnd 34 27 = some (27, .getfield 117, 3, 4, 5, 5, 0) := ceB_eq (by decide +kernel)
theorem f_34_30 : fnd 34 30 = some (30, .iload_n 1, 1, 0, 0, 0, 0) := ceB_eq (by decide +kernel)
theorem f_34_31 : fnd 34 31 = some (31, .aaload, 1, 0, 0, 0, 0) := ceB_eq (by decide +kernel)
theorem f_34_32 : fnd 34 32 = some (32, .astore_n 3, 1, 0, 0, 0, 0) := ceB_eq (by decide +kernel)
theorem f_34_33 : fnd 34 33 = some (33, .iload_n 2, 1, 0, 0, 0, 0) := ceB_eq (by decide +kernel)
theorem f_34_34 : fnd 34 34 = some (34, .ifCond .ne 8, 3, 0, 0, 0, 0) := ceB_eq (by decide +kernel)
theorem f_34_37 : fnd 34 37 = some (37, .aload_n 3, 1, 0, 0, 0, 0) := ceB_eq (by decide +kernel)
theorem f_34_38 : fnd 34 38 = some (38, .getfield 121, 3, 6, 0, 0, 0) := ceB_eq (by decide +kernel)
theorem f_34_41 : fnd 34 41 = some (41, .ireturn, 1, 0, 0, 0, 0) := ceB_eq (by decide +kernel)
theorem f_34_42 : fnd 34 42 = some (42, .aload_n 3, 1, 0, 0, 0, 0) := ceB_eq (by decide +kernel)
theorem f_34_43 : fnd 34 43 = some (43, .invokevirtual 126, 3, 33, 1, 6, 0) := ceB_eq (by decide +kernel)
theorem f_34_46 : fnd 34 46 = some (46, .ifCond .ne 5, 3, 0, 0, 0, 0) := ceB_eq (by decide +kernel)
theorem f_34_49 : fnd 34 49 = some (49, .iconst (-1), 1, 0, 0, 0, 0) := ceB_eq (by decide +kernel)
theorem f_34_50 : fnd 34 50 = some (50, .ireturn, 1, 0, 0, 0, 0) := ceB_eq (by decide +kernel)
theorem f_34_51 : fnd 34 51 = some (51, .iload_n 2, 1, 0, 0, 0, 0) := ceB_eq (by decide +kernel)
theorem f_34_52 : fnd 34 52 = some (52, .tableswitch 60 1 4 #[32, 37, 42, 47], 32, 0, 0, 0, 0) := ceB_eq (by decide +kernel)
theorem f_34_84 : fnd 34 84 = some (84, .aload_n 3, 1, 0, 0, 0, 0) := ceB_eq (by decide +kernel)
theorem f_34_85 : fnd 34 85 = some (85, .getfield 130, 3, 6, 1, 1, 0) := ceB_eq (by decide +kernel)
theorem f_34_88 : fnd 34 88 = some (88, .ireturn, 1, 0, 0, 0, 0) := ceB_eq (by decide +kernel)
theorem f_34_89 : fnd 34 89 = some (89, .aload_n 3, 1, 0, 0, 0, 0) := ceB_eq (by decide +kernel)
theorem f_34_90 : fnd 34 90 = some (90, .getfield 133, 3, 6, 2, 2, 0) := ceB_eq (by decide +kernel)
theorem f_34_93 : fnd 34 93 = some (93, .ireturn, 1, 0, 0, 0, 0) := ceB_eq (by decide +kernel)
theorem f_34_94 : fnd 34 94 = some (94, .aload_n 3, 1, 0, 0, 0, 0) := ceB_eq (by decide +kernel)
theorem f_34_95 : fnd 34 95 = some (95, .getfield 136, 3, 6, 3, 3, 0) := ceB_eq (by decide +kernel)
theorem f_34_98 : fnd 34 98 = some (98, .ireturn, 1, 0, 0, 0, 0) := ceB_eq (by decide +kernel)
theorem f_34_99 : fnd 34 99 = some (99, .aload_n 3, 1, 0, 0, 0, 0) := ceB_eq (by decide +kernel)
theorem f_34_100 : fnd 34 100 = some (100, .getfield 139, 3, 6, 5, 5, 0) := ceB_eq (by decide +kernel)
theorem f_34_103 : fnd 34 103 = some (103, .ifCond .eq 7, 3, 0, 0, 0, 0) := ceB_eq (by decide +kernel)
theorem f_34_106 : fnd 34 106 = some (106, .iconst 1, 1, 0, 0, 0, 0) := ceB_eq (by decide +kernel)
theorem f_34_107 : fnd 34 107 = some (107, .goto 4, 3, 0, 0, 0, 0) := ceB_eq (by decide +kernel)
theorem f_34_110 : fnd 34 110 = some (110, .iconst 0, 1, 0, 0, 0, 0) := ceB_eq (by decide +kernel)
theorem f_34_111 : fnd 34 111 = some (111, .ireturn, 1, 0, 0, 0, 0) := ceB_eq (by decide +kernel)
theorem f_34_112 : fnd 34 112 = some (112, .aload_n 3, 1, 0, 0, 0, 0) := ceB_eq (by decide +kernel)
theorem f_34_113 : fnd 34 113 = some (113, .getfield 121, 3, 6, 0, 0, 0) := ceB_eq (by decide +kernel)
theorem f_34_116 : fnd 34 116 = some (116, .iconst 3, 1, 0, 0, 0, 0) := ceB_eq (by decide +kernel)
theorem f_34_117 : fnd 34 117 = some (117, .if_icmp .ne 10, 3, 0, 0, 0, 0) := ceB_eq (by decide +kernel)
theorem f_34_120 : fnd 34 120 = some (120, .aload_n 3, 1, 0, 0, 0, 0) := ceB_eq (by decide +kernel)
theorem f_34_121 : fnd 34 121 = some (121, .getfield 142, 3, 6, 7, 7, 0) := ceB_eq (by decide +kernel)
theorem f_34_124 : fnd 34 124 = some (124, .goto 4, 3, 0, 0, 0, 0) := ceB_eq (by decide +kernel)
theorem f_34_127 : fnd 34 127 = some (127, .iconst (-1), 1, 0, 0, 0, 0) := ceB_eq (by decide +kernel)
theorem f_34_128 : fnd 34 128 = some (128, .ireturn, 1, 0, 0, 0, 0) := ceB_eq (by decide +kernel)
theorem rk_34 : rkm 34 = 0 := by decide +kernel
theorem ml_34 : (mth 34).2.1 = 4 := by decide +kernel
set_option maxRecDepth 100000 in
theorem T_X_page (k0 i0 x1 x2 : Int) (σ : ST) (Q : Option AV → ST → Prop) (h :
  wpM m_World_isPage [.inr (.inr (12, 0, 0)), .inl x1] σ (asI fun r101 s101 =>
  (((r101 = 0 : Prop) →
    Q (some (.inl (-1000000))) s101) ∧
  (¬ (r101 = 0) →
    (((x2 < 0 : Prop) →
      Q (some (.inl (-1000000))) s101) ∧
    (¬ (x2 < 0) →
      (((x2 ≤ 5 : Prop) →
        ((0 : Int) ≤ x1 ∧ (x1 : Int) < 10) ∧
        (((x2 ≠ 0 : Prop) →
          wpM m_Page_hasRoom [.inr (.inr (14, 0, x1))] s101 (asI fun r102 s102 =>
          (((r102 ≠ 0 : Prop) →
            ((x2 = 1 →
              Q (some (.inl (s102 14 0 x1 1))) s102) ∧ (x2 ≠ 1 →
            ((x2 = 2 →
              Q (some (.inl (s102 14 0 x1 2))) s102) ∧ (x2 ≠ 2 →
            ((x2 = 3 →
              Q (some (.inl (s102 14 0 x1 3))) s102) ∧ (x2 ≠ 3 →
            ((x2 = 4 →
              ((((bz (s102 14 0 x1 5)) = 0 : Prop) →
                Q (some (.inl 0)) s102) ∧
              (¬ ((bz (s102 14 0 x1 5)) = 0) →
                Q (some (.inl 1)) s102))) ∧ (x2 ≠ 4 →
              ((((s102 14 0 x1 0) ≠ 3 : Prop) →
                Q (some (.inl (-1))) s102) ∧
              (¬ ((s102 14 0 x1 0) ≠ 3) →
                Q (some (.inl (s102 14 0 x1 7))) s102))))))))))) ∧
          (¬ (r102 ≠ 0) →
            Q (some (.inl (-1))) s102)))) ∧
        (¬ (x2 ≠ 0) →
          Q (some (.inl (s101 14 0 x1 0))) s101))) ∧
      (¬ (x2 ≤ 5) →
        Q (some (.inl (-1000000))) s101)))))))) :
  wpM m_X_page [.inr (.inr (0, k0, i0)), .inl x1, .inl x2] σ Q :=
 wpM_of ml_34 (L := [some (.inr (.inr (0, k0, i0))), some (.inl x1), some (.inl x2), none]) rfl
 (w_aload_n (p' := 1) f_34_0 rfl rfl
 (w_getfield (p' := 4) f_34_1 rfl (x := .inr (.inr (12, 0, 0))) rfl rfl
 (w_iload_n (p' := 5) f_34_4 rfl rfl
 (w_callV (p' := 8) f_34_5 rfl rfl rfl rfl rfl (r := []) rfl rfl (kI (.inr rk_32) fun r101 s101 h101 =>
 w_if (p' := 20) (q' := 11) f_34_8 rfl rfl
 (fun c110 => w_ldc (p' := 22) f_34_20 rfl
 (w_iret f_34_22 rk_34 (h101.1 c110)))
 (fun c110 => w_iload_n (p' := 12) f_34_11 rfl rfl
 (w_if (p' := 20) (q' := 15) f_34_12 rfl rfl
 (fun c109 => w_ldc (p' := 22) f_34_20 rfl
 (w_iret f_34_22 rk_34 ((h101.2 c110).1 c109)))
 (fun c109 => w_iload_n (p' := 16) f_34_15 rfl rfl
 (w_iconst (p' := 17) f_34_16 rfl
 (w_icmp (p' := 23) (q' := 20) f_34_17 rfl rfl
 (fun c108 => w_aload_n (p' := 24) f_34_23 rfl rfl
 (w_getfield (p' := 27) f_34_24 rfl (x := .inr (.inr (12, 0, 0))) rfl rfl
 (w_getfield (p' := 30) f_34_27 rfl (x := .inr (.inr (13, 0, 0))) rfl rfl
 (w_iload_n (p' := 31) f_34_30 rfl rfl
 (w_aaload (p' := 32) f_34_31 rfl (n := 10) rfl (x := (14, 0, x1)) rfl (((h101.2 c110).2 c109).1 c108).1 rfl
 (w_astore_n (p' := 33) f_34_32 (L' := [some (.inr (.inr (0, k0, i0))), some (.inl x1), some (.inl x2), some (.inr (.inr (14, 0, x1)))]) rfl rfl
 (w_iload_n (p' := 34) f_34_33 rfl rfl
 (w_if (p' := 42) (q' := 37) f_34_34 rfl rfl
 (fun c107 => w_aload_n (p' := 43) f_34_42 rfl rfl
 (w_callV (p' := 46) f_34_43 rfl rfl rfl rfl rfl (r := []) rfl rfl (kI (.inr rk_33) fun r102 s102 h102 =>
 w_if (p' := 51) (q' := 49) f_34_46 rfl rfl
 (fun c106 => w_iload_n (p' := 52) f_34_51 rfl rfl
 (w_switch f_34_52 (cs := [(1, 84), (2, 89), (3, 94), (4, 99)]) rfl (d' := 112) rfl
 (⟨fun c105 => w_aload_n (p' := 85) f_34_84 rfl rfl
 (w_getfield (p' := 88) f_34_85 rfl (x := .inl (s102 14 0 x1 1)) rfl rfl
 (w_iret f_34_88 rk_34 ((h102.1 c106).1 c105))), fun c105_0 =>
 ⟨fun c105 => w_aload_n (p' := 90) f_34_89 rfl rfl
 (w_getfield (p' := 93) f_34_90 rfl (x := .inl (s102 14 0 x1 2)) rfl rfl
 (w_iret f_34_93 rk_34 (((h102.1 c106).2 c105_0).1 c105))), fun c105_1 =>
 ⟨fun c105 => w_aload_n (p' := 95) f_34_94 rfl rfl
 (w_getfield (p' := 98) f_34_95 rfl (x := .inl (s102 14 0 x1 3)) rfl rfl
 (w_iret f_34_98 rk_34 ((((h102.1 c106).2 c105_0).2 c105_1).1 c105))), fun c105_2 =>
 ⟨fun c105 => w_aload_n (p' := 100) f_34_99 rfl rfl
 (w_getfield (p' := 103) f_34_100 rfl (x := .inl (bz (s102 14 0 x1 5))) rfl rfl
 (w_if (p' := 110) (q' := 106) f_34_103 rfl rfl
 (fun c103 => w_iconst (p' := 111) f_34_110 rfl
 (w_iret f_34_111 rk_34 ((((((h102.1 c106).2 c105_0).2 c105_1).2 c105_2).1 c105).1 c103)))
 (fun c103 => w_iconst (p' := 107) f_34_106 rfl
 (w_goto (p' := 111) f_34_107 rfl
 (w_iret f_34_111 rk_34 ((((((h102.1 c106).2 c105_0).2 c105_1).2 c105_2).1 c105).2 c103)))))), fun c105_3 =>
 w_aload_n (p' := 113) f_34_112 rfl rfl
 (w_getfield (p' := 116) f_34_113 rfl (x := .inl (s102 14 0 x1 0)) rfl rfl
 (w_iconst (p' := 117) f_34_116 rfl
 (w_icmp (p' := 127) (q' := 120) f_34_117 rfl rfl
 (fun c104 => w_iconst (p' := 128) f_34_127 rfl
 (w_iret f_34_128 rk_34 ((((((h102.1 c106).2 c105_0).2 c105_1).2 c105_2).2 c105_3).1 c104)))
 (fun c104 => w_aload_n (p' := 121) f_34_120 rfl rfl
 (w_getfield (p' := 124) f_34_121 rfl (x := .inl (s102 14 0 x1 7)) rfl rfl
 (w_goto (p' := 128) f_34_124 rfl
 (w_iret f_34_128 rk_34 ((((((h102.1 c106).2 c105_0).2 c105_1).2 c105_2).2 c105_3).2 c104))))))))⟩⟩⟩⟩)))
 (fun c106 => w_iconst (p' := 50) f_34_49 rfl
 (w_iret f_34_50 rk_34 (h102.2 c106)))) ((((h101.2 c110).2 c109).1 c108).2.1 c107)))
 (fun c107 => w_aload_n (p' := 38) f_34_37 rfl rfl
 (w_getfield (p' := 41) f_34_38 rfl (x := .inl (s101 14 0 x1 0)) rfl rfl
 (w_iret f_34_41 rk_34 ((((h101.2 c110).2 c109).1 c108).2.2 c107))))))))))))
 (fun c108 => w_ldc (p' := 22) f_34_20 rfl
 (w_iret f_34_22 rk_34 (((h101.2 c110).2 c109).2 c108))))))))) h))))
/-! ClosedRooms$World.isSlots(I)Z -/
theorem f_35_0 : fnd 35 0 = some (0, .aload_n 0, 1, 0, 0, 0, 0) := ceB_eq (by decide +kernel)
theorem f_35_1 : fnd 35 1 = some (1, .iload_n 1, 1, 0, 0, 0, 0) := ceB_eq (by decide +kernel)
theorem f_35_2 : fnd 35 2 = some (2, .invokevirtual 90, 3, 32, 2, 4, 0) := ceB_eq (by decide +kernel)
theorem f_35_5 : fnd 35 5 = some (5, .ifCond .eq 20, 3, 0, 0, 0, 0) := ceB_eq (by decide +kernel)
theorem f_35_8 : fnd 35 8 = some (8, .aload_n 0, 1, 0, 0, 0, 0) := ceB_eq (by decide +kernel)
theorem f_35_9 : fnd 35 9 = some (9, .getfield 29, 3, 4, 5, 5, 0) := ceB_eq (by decide +kernel)
theorem f_35_12 : fnd 35 12 = some (12, .iload_n 1, 1, 0, 0, 0, 0) := ceB_eq (by decide +kernel)
theorem f_35_13 : fnd 35 13 = some (13, .aaload, 1, 0, 0, 0, 0) := ceB_eq (by decide +kernel)
theorem f_35_14 : fnd 35 14 = some (14, .getfield 94, 3, 6, 0, 0, 0) := ceB_eq (by decide +kernel)
theorem f_35_17 : fnd 35 17 = some (17, .iconst 4, 1, 0, 0, 0, 0) := ceB_eq (by decide +kernel)
theorem f_35_18 : fnd 35 18 = some (18, .if_icmp .ne 7, 3, 0, 0, 0, 0) := ceB_eq (by decide +kernel)
theorem f_35_21 : fnd 35 21 = some (21, .iconst 1, 1, 0, 0, 0, 0) := ceB_eq (by decide +kernel)
theorem f_35_22 : fnd 35 22 = some (22, .goto 4, 3, 0, 0, 0, 0) := ceB_eq (by decide +kernel)
theorem f_35_25 : fnd 35 25 = some (25, .iconst 0, 1, 0, 0, 0, 0) := ceB_eq (by decide +kernel)
theorem f_35_26 : fnd 35 26 = some (26, .ireturn, 1, 0, 0, 0, 0) := ceB_eq (by decide +kernel)
theorem rk_35 : rkm 35 = 1 := by decide +kernel
theorem ml_35 : (mth 35).2.1 = 2 := by decide +kernel
set_option maxRecDepth 100000 in
theorem T_World_isSlots (k0 i0 x1 : Int) (σ : ST) (Q : Option AV → ST → Prop) (h :
  wpM m_World_isPage [.inr (.inr (12, k0, i0)), .inl x1] σ (asI fun r101 s101 =>
  (((r101 = 0 : Prop) →
    ((0 : Int) = 0 ∨ (0 : Int) = 1) ∧ Q (some (.inl 0)) s101) ∧
  (¬ (r101 = 0) →
    ((0 : Int) ≤ x1 ∧ (x1 : Int) < 10) ∧
    ((((s101 14 k0 x1 0) ≠ 4 : Prop) →
      ((0 : Int) = 0 ∨ (0 : Int) = 1) ∧ Q (some (.inl 0)) s101) ∧
    (¬ ((s101 14 k0 x1 0) ≠ 4) →
      ((1 : Int) = 0 ∨ (1 : Int) = 1) ∧ Q (some (.inl 1)) s101)))))) :
  wpM m_World_isSlots [.inr (.inr (12, k0, i0)), .inl x1] σ Q :=
 wpM_of ml_35 (L := [some (.inr (.inr (12, k0, i0))), some (.inl x1)]) rfl
 (w_aload_n (p' := 1) f_35_0 rfl rfl
 (w_iload_n (p' := 2) f_35_1 rfl rfl
 (w_callV (p' := 5) f_35_2 rfl rfl rfl rfl rfl (r := []) rfl rfl (kI (.inr rk_32) fun r101 s101 h101 =>
 w_if (p' := 25) (q' := 8) f_35_5 rfl rfl
 (fun c103 => w_iconst (p' := 26) f_35_25 rfl
 (w_zret f_35_26 rk_35 (h101.1 c103).1 (h101.1 c103).2))
 (fun c103 => w_aload_n (p' := 9) f_35_8 rfl rfl
 (w_getfield (p' := 12) f_35_9 rfl (x := .inr (.inr (13, k0, 0))) rfl rfl
 (w_iload_n (p' := 13) f_35_12 rfl rfl
 (w_aaload (p' := 14) f_35_13 rfl (n := 10) rfl (x := (14, k0, x1)) rfl (h101.2 c103).1 rfl
 (w_getfield (p' := 17) f_35_14 rfl (x := .inl (s101 14 k0 x1 0)) rfl rfl
 (w_iconst (p' := 18) f_35_17 rfl
 (w_icmp (p' := 25) (q' := 21) f_35_18 rfl rfl
 (fun c102 => w_iconst (p' := 26) f_35_25 rfl
 (w_zret f_35_26 rk_35 ((h101.2 c103).2.1 c102).1 ((h101.2 c103).2.1 c102).2))
 (fun c102 => w_iconst (p' := 22) f_35_21 rfl
 (w_goto (p' := 26) f_35_22 rfl
 (w_zret f_35_26 rk_35 ((h101.2 c103).2.2 c102).1 ((h101.2 c103).2.2 c102).2))))))))))) h)))
/-! ClosedRooms.version(II)I -/
theorem f_36_0 : fnd 36 0 = some (0, .aload_n 0, 1, 0, 0, 0, 0) := ceB_eq (by decide +kernel)
theorem f_36_1 : fnd 36 1 = some (1, .getfield 45, 3, 0, 6, 6, 0) := ceB_eq (by decide +kernel)
theorem f_36_4 : fnd 36 4 = some (4, .iload_n 1, 1, 0, 0, 0, 0) := ceB_eq (by decide +kernel)
theorem f_36_5 : fnd 36 5 = some (5, .invokevirtual 145, 3, 35, 2, 4, 0) := ceB_eq (by decide +kernel)
theorem f_36_8 : fnd 36 8 = some (8, .ifCond .eq 12, 3, 0, 0, 0, 0) := ceB_eq (by decide +kernel)
theorem f_36_11 : fnd 36 11 = some (11, .iload_n 2, 1, 0, 0, 0, 0) := ceB_eq (by decide +kernel)
theorem f_36_12 : fnd 36 12 = some (12, .ifCond .lt 8, 3, 0, 0, 0, 0) := ceB_eq (by decide +kernel)
theorem f_36_15 : fnd 36 15 = some (15, .iload_n 2, 1, 0, 0, 0, 0) := ceB_eq (by decide +kernel)
theorem f_36_16 : fnd 36 16 = some (16, .iconst 4, 1, 0, 0, 0, 0) := ceB_eq (by decide +kernel)
theorem f_36_17 : fnd 36 17 = some (17, .if_icmp .lt 5, 3, 0, 0, 0, 0) := ceB_eq (by decide +kernel)
theorem f_36_20 : fnd 36 20 = some (20, .iconst (-1), 1, 0, 0, 0, 0) := ceB_eq (by decide +kernel)
theorem f_36_21 : fnd 36 21 = some (21, .ireturn, 1, 0, 0, 0, 0) := ceB_eq (by decide +kernel)
theorem f_36_22 : fnd 36 22 = some (22, .aload_n 0, 1, 0, 0, 0, 0) := ceB_eq (by decide +kernel)
theorem f_36_23 : fnd 36 23 = some (23, .getfield 45, 3, 0, 6, 6, 0) := ceB_eq (by decide +kernel)
theorem f_36_26 : fnd 36 26 = some (26, .getfield 117, 3, 4, 5, 5, 0) := ceB_eq (by decide +kernel)
theorem f_36_29 : fnd 36 29 = some (29, .iload_n 1, 1, 0, 0, 0, 0) := ceB_eq (by decide +kernel)
theorem f_36_30 : fnd 36 30 = some (30, .aaload, 1, 0, 0, 0, 0) := ceB_eq (by decide +kernel)
theorem f_36_31 : fnd 36 31 = some (31, .getfield 148, 3, 6, 8, 8, 0) := ceB_eq (by decide +kernel)
theorem f_36_34 : fnd 36 34 = some (34, .iload_n 2, 1, 0, 0, 0, 0) := ceB_eq (by decide +kernel)
theorem f_36_35 : fnd 36 35 = some (35, .iaload, 1, 0, 0, 0, 0) := ceB_eq (by decide +kernel)
theorem f_36_36 : fnd 36 36 = some (36, .ireturn, 1, 0, 0, 0, 0) := ceB_eq (by decide +kernel)
theorem rk_36 : rkm 36 = 0 := by decide +kernel
theorem ml_36 : (mth 36).2.1 = 3 := by decide +kernel
set_option maxRecDepth 100000 in
theorem T_X_version (k0 i0 x1 x2 : Int) (σ : ST) (Q : Option AV → ST → Prop) (h :
  wpM m_World_isSlots [.inr (.inr (12, 0, 0)), .inl x1] σ (asI fun r101 s101 =>
  (((r101 = 0 : Prop) →
    Q (some (.inl (-1))) s101) ∧
  (¬ (r101 = 0) →
    (((x2 < 0 : Prop) →
      Q (some (.inl (-1))) s101) ∧
    (¬ (x2 < 0) →
      (((x2 < 4 : Prop) →
        ((0 : Int) ≤ x1 ∧ (x1 : Int) < 10) ∧
        ((0 : Int) ≤ x2 ∧ (x2 : Int) < 4) ∧
        Q (some (.inl (s101 15 0 x1 x2))) s101) ∧
      (¬ (x2 < 4) →
        Q (some (.inl (-1))) s101)))))))) :
  wpM m_X_version [.inr (.inr (0, k0, i0)), .inl x1, .inl x2] σ Q :=
 wpM_of ml_36 (L := [some (.inr (.inr (0, k0, i0))), some (.inl x1), some (.inl x2)]) rfl
 (w_aload_n (p' := 1) f_36_0 rfl rfl
 (w_getfield (p' := 4) f_36_1 rfl (x := .inr (.inr (12, 0, 0))) rfl rfl
 (w_iload_n (p' := 5) f_36_4 rfl rfl
 (w_callV (p' := 8) f_36_5 rfl rfl rfl rfl rfl (r := []) rfl rfl (kI (.inr rk_35) fun r101 s101 h101 =>
 w_if (p' := 20) (q' := 11) f_36_8 rfl rfl
 (fun c104 => w_iconst (p' := 21) f_36_20 rfl
 (w_iret f_36_21 rk_36 (h101.1 c104)))
 (fun c104 => w_iload_n (p' := 12) f_36_11 rfl rfl
 (w_if (p' := 20) (q' := 15) f_36_12 rfl rfl
 (fun c103 => w_iconst (p' := 21) f_36_20 rfl
 (w_iret f_36_21 rk_36 ((h101.2 c104).1 c103)))
 (fun c103 => w_iload_n (p' := 16) f_36_15 rfl rfl
 (w_iconst (p' := 17) f_36_16 rfl
 (w_icmp (p' := 22) (q' := 20) f_36_17 rfl rfl
 (fun c102 => w_aload_n (p' := 23) f_36_22 rfl rfl
 (w_getfield (p' := 26) f_36_23 rfl (x := .inr (.inr (12, 0, 0))) rfl rfl
 (w_getfield (p' := 29) f_36_26 rfl (x := .inr (.inr (13, 0, 0))) rfl rfl
 (w_iload_n (p' := 30) f_36_29 rfl rfl
 (w_aaload (p' := 31) f_36_30 rfl (n := 10) rfl (x := (14, 0, x1)) rfl (((h101.2 c104).2 c103).1 c102).1 rfl
 (w_getfield (p' := 34) f_36_31 rfl (x := .inr (.inr (15, 0, x1))) rfl rfl
 (w_iload_n (p' := 35) f_36_34 rfl rfl
 (w_iaload (p' := 36) f_36_35 rfl (n := 4) rfl (((h101.2 c104).2 c103).1 c102).2.1 rfl
 (w_iret f_36_36 rk_36 (((h101.2 c104).2 c103).1 c102).2.2)))))))))
 (fun c102 => w_iconst (p' := 21) f_36_20 rfl
 (w_iret f_36_21 rk_36 (((h101.2 c104).2 c103).2 c102))))))))) h))))
/-! ClosedRooms$World.isRoom(I)Z -/
theorem f_37_0 : fnd 37 0 = some (0, .iload_n 1, 1, 0, 0, 0, 0) := ceB_eq (by decide +kernel)
theorem f_37_1 : fnd 37 1 = some (1, .ifCond .lt 24, 3, 0, 0, 0, 0) := ceB_eq (by decide +kernel)
theorem f_37_4 : fnd 37 4 = some (4, .iload_n 1, 1, 0, 0, 0, 0) := ceB_eq (by decide +kernel)
theorem f_37_5 : fnd 37 5 = some (5, .iconst 4, 1, 0, 0, 0, 0) := ceB_eq (by decide +kernel)
theorem f_37_6 : fnd 37 6 = some (6, .if_icmp .ge 19, 3, 0, 0, 0, 0) := ceB_eq (by decide +kernel)
theorem f_37_9 : fnd 37 9 = some (9, .aload_n 0, 1, 0, 0, 0, 0) := ceB_eq (by decide +kernel)
theorem f_37_10 : fnd 37 10 = some (10, .getfield 35, 3, 4, 6, 6, 0) := ceB_eq (by decide +kernel)
theorem f_37_13 : fnd 37 13 = some (13, .iload_n 1, 1, 0, 0, 0, 0) := ceB_eq (by decide +kernel)
theorem f_37_14 : fnd 37 14 = some (14, .aaload, 1, 0, 0, 0, 0) := ceB_eq (by decide +kernel)
theorem f_37_15 : fnd 37 15 = some (15, .getfield 66, 3, 7, 0, 0, 0) := ceB_eq (by decide +kernel)
theorem f_37_18 : fnd 37 18 = some (18, .ifCond .eq 7, 3, 0, 0, 0, 0) := ceB_eq (by decide +kernel)
theorem f_37_21 : fnd 37 21 = some (21, .iconst 1, 1, 0, 0, 0, 0) := ceB_eq (by decide +kernel)
theorem f_37_22 : fnd 37 22 = some (22, .goto 4, 3, 0, 0, 0, 0) := ceB_eq (by decide +kernel)
theorem f_37_25 : fnd 37 25 = some (25, .iconst 0, 1, 0, 0, 0, 0) := ceB_eq (by decide +kernel)
theorem f_37_26 : fnd 37 26 = some (26, .ireturn, 1, 0, 0, 0, 0) := ceB_eq (by decide +kernel)
theorem rk_37 : rkm 37 = 1 := by decide +kernel
theorem ml_37 : (mth 37).2.1 = 2 := by decide +kernel
set_option maxRecDepth 100000 in
theorem T_World_isRoom (k0 i0 x1 : Int) (σ : ST) (Q : Option AV → ST → Prop) (h :
  (((x1 < 0 : Prop) →
    ((0 : Int) = 0 ∨ (0 : Int) = 1) ∧ Q (some (.inl 0)) σ) ∧
  (¬ (x1 < 0) →
    (((4 ≤ x1 : Prop) →
      ((0 : Int) = 0 ∨ (0 : Int) = 1) ∧ Q (some (.inl 0)) σ) ∧
    (¬ (4 ≤ x1) →
      ((0 : Int) ≤ x1 ∧ (x1 : Int) < 4) ∧
      ((((bz (σ 17 k0 x1 0)) = 0 : Prop) →
        ((0 : Int) = 0 ∨ (0 : Int) = 1) ∧ Q (some (.inl 0)) σ) ∧
      (¬ ((bz (σ 17 k0 x1 0)) = 0) →
        ((1 : Int) = 0 ∨ (1 : Int) = 1) ∧ Q (some (.inl 1)) σ))))))) :
  wpM m_World_isRoom [.inr (.inr (12, k0, i0)), .inl x1] σ Q :=
 wpM_of ml_37 (L := [some (.inr (.inr (12, k0, i0))), some (.inl x1)]) rfl
 (w_iload_n (p' := 1) f_37_0 rfl rfl
 (w_if (p' := 25) (q' := 4) f_37_1 rfl rfl
 (fun c103 => w_iconst (p' := 26) f_37_25 rfl
 (w_zret f_37_26 rk_37 (h.1 c103).1 (h.1 c103).2))
 (fun c103 => w_iload_n (p' := 5) f_37_4 rfl rfl
 (w_iconst (p' := 6) f_37_5 rfl
 (w_icmp (p' := 25) (q' := 9) f_37_6 rfl rfl
 (fun c102 => w_iconst (p' := 26) f_37_25 rfl
 (w_zret f_37_26 rk_37 ((h.2 c103).1 c102).1 ((h.2 c103).1 c102).2))
 (fun c102 => w_aload_n (p' := 10) f_37_9 rfl rfl
 (w_getfield (p' := 13) f_37_10 rfl (x := .inr (.inr (16, k0, 0))) rfl rfl
 (w_iload_n (p' := 14) f_37_13 rfl rfl
 (w_aaload (p' := 15) f_37_14 rfl (n := 4) rfl (x := (17, k0, x1)) rfl ((h.2 c103).2 c102).1 rfl
 (w_getfield (p' := 18) f_37_15 rfl (x := .inl (bz (σ 17 k0 x1 0))) rfl rfl
 (w_if (p' := 25) (q' := 21) f_37_18 rfl rfl
 (fun c101 => w_iconst (p' := 26) f_37_25 rfl
 (w_zret f_37_26 rk_37 (((h.2 c103).2 c102).2.1 c101).1 (((h.2 c103).2 c102).2.1 c101).2))
 (fun c101 => w_iconst (p' := 22) f_37_21 rfl
 (w_goto (p' := 26) f_37_22 rfl
 (w_zret f_37_26 rk_37 (((h.2 c103).2 c102).2.2 c101).1 (((h.2 c103).2 c102).2.2 c101).2))))))))))))))
/-! ClosedRooms$Room.hasAddress(I)Z -/
theorem f_38_0 : fnd 38 0 = some (0, .iload_n 1, 1, 0, 0, 0, 0) := ceB_eq (by decide +kernel)
theorem f_38_1 : fnd 38 1 = some (1, .ifCond .lt 21, 3, 0, 0, 0, 0) := ceB_eq (by decide +kernel)
theorem f_38_4 : fnd 38 4 = some (4, .iload_n 1, 1, 0, 0, 0, 0) := ceB_eq (by decide +kernel)
theorem f_38_5 : fnd 38 5 = some (5, .aload_n 0, 1, 0, 0, 0, 0) := ceB_eq (by decide +kernel)
theorem f_38_6 : fnd 38 6 = some (6, .getfield 19, 3, 7, 2, 2, 0) := ceB_eq (by decide +kernel)
theorem f_38_9 : fnd 38 9 = some (9, .if_icmp .ge 13, 3, 0, 0, 0, 0) := ceB_eq (by decide +kernel)
theorem f_38_12 : fnd 38 12 = some (12, .iload_n 1, 1, 0, 0, 0, 0) := ceB_eq (by decide +kernel)
theorem f_38_13 : fnd 38 13 = some (13, .bipush 8, 2, 0, 0, 0, 0) := ceB_eq (by decide +kernel)
theorem f_38_15 : fnd 38 15 = some (15, .if_icmp .ge 7, 3, 0, 0, 0, 0) := ceB_eq (by decide +kernel)
theorem f_38_18 : fnd 38 18 = some (18, .iconst 1, 1, 0, 0, 0, 0) := ceB_eq (by decide +kernel)
theorem f_38_19 : fnd 38 19 = some (19, .goto 4, 3, 0, 0, 0, 0) := ceB_eq (by decide +kernel)
theorem f_38_22 : fnd 38 22 = some (22, .iconst 0, 1, 0, 0, 0, 0) := ceB_eq (by decide +kernel)
theorem f_38_23 : fnd 38 23 = some (23, .ireturn, 1, 0, 0, 0, 0) := ceB_eq (by decide +kernel)
theorem rk_38 : rkm 38 = 1 := by decide +kernel
theorem ml_38 : (mth 38).2.1 = 2 := by decide +kernel
set_option maxRecDepth 100000 in
theorem T_Room_hasAddress (k0 i0 x1 : Int) (σ : ST) (Q : Option AV → ST → Prop) (h :
  (((x1 < 0 : Prop) →
    ((0 : Int) = 0 ∨ (0 : Int) = 1) ∧ Q (some (.inl 0)) σ) ∧
  (¬ (x1 < 0) →
    ((((σ 17 k0 i0 2) ≤ x1 : Prop) →
      ((0 : Int) = 0 ∨ (0 : Int) = 1) ∧ Q (some (.inl 0)) σ) ∧
    (¬ ((σ 17 k0 i0 2) ≤ x1) →
      (((8 ≤ x1 : Prop) →
        ((0 : Int) = 0 ∨ (0 : Int) = 1) ∧ Q (some (.inl 0)) σ) ∧
      (¬ (8 ≤ x1) →
        ((1 : Int) = 0 ∨ (1 : Int) = 1) ∧ Q (some (.inl 1)) σ))))))) :
  wpM m_Room_hasAddress [.inr (.inr (17, k0, i0)), .inl x1] σ Q :=
 wpM_of ml_38 (L := [some (.inr (.inr (17, k0, i0))), some (.inl x1)]) rfl
 (w_iload_n (p' := 1) f_38_0 rfl rfl
 (w_if (p' := 22) (q' := 4) f_38_1 rfl rfl
 (fun c103 => w_iconst (p' := 23) f_38_22 rfl
 (w_zret f_38_23 rk_38 (h.1 c103).1 (h.1 c103).2))
 (fun c103 => w_iload_n (p' := 5) f_38_4 rfl rfl
 (w_aload_n (p' := 6) f_38_5 rfl rfl
 (w_getfield (p' := 9) f_38_6 rfl (x := .inl (σ 17 k0 i0 2)) rfl rfl
 (w_icmp (p' := 22) (q' := 12) f_38_9 rfl rfl
 (fun c102 => w_iconst (p' := 23) f_38_22 rfl
 (w_zret f_38_23 rk_38 ((h.2 c103).1 c102).1 ((h.2 c103).1 c102).2))
 (fun c102 => w_iload_n (p' := 13) f_38_12 rfl rfl
 (w_bipush (p' := 15) f_38_13 rfl
 (w_icmp (p' := 22) (q' := 18) f_38_15 rfl rfl
 (fun c101 => w_iconst (p' := 23) f_38_22 rfl
 (w_zret f_38_23 rk_38 (((h.2 c103).2 c102).1 c101).1 (((h.2 c103).2 c102).1 c101).2))
 (fun c101 => w_iconst (p' := 19) f_38_18 rfl
 (w_goto (p' := 23) f_38_19 rfl
 (w_zret f_38_23 rk_38 (((h.2 c103).2 c102).2 c101).1 (((h.2 c103).2 c102).2 c101).2))))))))))))
/-! ClosedRooms.mapped(II)I -/
theorem f_39_0 : fnd 39 0 = some (0, .aload_n 0, 1, 0, 0, 0, 0) := ceB_eq (by decide +kernel)
theorem f_39_1 : fnd 39 1 = some (1, .getfield 45, 3, 0, 6, 6, 0) := ceB_eq (by decide +kernel)
theorem f_39_4 : fnd 39 4 = some (4, .iload_n 1, 1, 0, 0, 0, 0) := ceB_eq (by decide +kernel)
theorem f_39_5 : fnd 39 5 = some (5, .invokevirtual 151, 3, 37, 2, 4, 0) := ceB_eq (by decide +kernel)
theorem f_39_8 : fnd 39 8 = some (8, .ifCond .eq 19, 3, 0, 0, 0, 0) := ceB_eq (by decide +kernel)
theorem f_39_11 : fnd 39 11 = some (11, .aload_n 0, 1, 0, 0, 0, 0) := ceB_eq (by decide +kernel)
theorem f_39_12 : fnd 39 12 = some (12, .getfield 45, 3, 0, 6, 6, 0) := ceB_eq (by decide +kernel)
theorem f_39_15 : fnd 39 15 = some (15, .getfield 161, 3, 4, 6, 6, 0) := ceB_eq (by decide +kernel)
theorem f_39_18 : fnd 39 18 = some (18, .iload_n 1, 1, 0, 0, 0, 0) := ceB_eq (by decide +kernel)
theorem f_39_19 : fnd 39 19 = some (19, .aaload, 1, 0, 0, 0, 0) := ceB_eq (by decide +kernel)
theorem f_39_20 : fnd 39 20 = some (20, .iload_n 2, 1, 0, 0, 0, 0) := ceB_eq (by decide +kernel)
theorem f_39_21 : fnd 39 21 = some (21, .invokevirtual 193, 3, 38, 2, 7, 0) := ceB_eq (by decide +kernel)
theorem f_39_24 : fnd 39 24 = some (24, .ifCond .ne 5, 3, 0, 0, 0, 0) := ceB_eq (by decide +kernel)
theorem f_39_27 : fnd 39 27 = some (27, .iconst (-1), 1, 0, 0, 0, 0) := ceB_eq (by decide +kernel)
theorem f_39_28 : fnd 39 28 = some (28, .ireturn, 1, 0, 0, 0, 0) := ceB_eq (by decide +kernel)
theorem f_39_29 : fnd 39 29 = some (29, .aload_n 0, 1, 0, 0, 0, 0) := ceB_eq (by decide +kernel)
theorem f_39_30 : fnd 39 30 = some (30, .getfield 45, 3, 0, 6, 6, 0) := ceB_eq (by decide +kernel)
theorem f_39_33 : fnd 39 33 = some (33, .getfield 161, 3, 4, 6, 6, 0) := ceB_eq (by decide +kernel)
theorem f_39_36 : fnd 39 36 = some (36, .iload_n 1, 1, 0, 0, 0, 0) := ceB_eq (by decide +kernel)
theorem f_39_37 : fnd 39 37 = some (37, .aaload, 1, 0, 0, 0, 0) := ceB_eq (by decide +kernel)
theorem f_39_38 : fnd 39 38 = some (38, .getfield 196, 3, 7, 8, 8, 0) := ceB_eq (by decide +kernel)
theorem f_39_41 : fnd 39 41 = some (41, .iload_n 2, 1, 0, 0, 0, 0) := ceB_eq (by decide +kernel)
theorem f_39_42 : fnd 39 42 = some (42, .iaload, 1, 0, 0, 0, 0) := ceB_eq (by decide +kernel)
theorem f_39_43 : fnd 39 43 = some (43, .ireturn, 1, 0, 0, 0, 0) := ceB_eq (by decide +kernel)
theorem rk_39 : rkm 39 = 0 := by decide +kernel
theorem ml_39 : (mth 39).2.1 = 3 := by decide +kernel
set_option maxRecDepth 100000 in
theorem T_X_mapped (k0 i0 x1 x2 : Int) (σ : ST) (Q : Option AV → ST → Prop) (h :
  wpM m_World_isRoom [.inr (.inr (12, 0, 0)), .inl x1] σ (asI fun r101 s101 =>
  (((r101 = 0 : Prop) →
    Q (some (.inl (-1))) s101) ∧
  (¬ (r101 = 0) →
    ((0 : Int) ≤ x1 ∧ (x1 : Int) < 4) ∧
    wpM m_Room_hasAddress [.inr (.inr (17, 0, x1)), .inl x2] s101 (asI fun r102 s102 =>
    (((r102 ≠ 0 : Prop) →
      ((0 : Int) ≤ x1 ∧ (x1 : Int) < 4) ∧
      ((0 : Int) ≤ x2 ∧ (x2 : Int) < 8) ∧
      Q (some (.inl (s102 19 0 x1 x2))) s102) ∧
    (¬ (r102 ≠ 0) →
      Q (some (.inl (-1))) s102))))))) :
  wpM m_X_mapped [.inr (.inr (0, k0, i0)), .inl x1, .inl x2] σ Q :=
 wpM_of ml_39 (L := [some (.inr (.inr (0, k0, i0))), some (.inl x1), some (.inl x2)]) rfl
 (w_aload_n (p' := 1) f_39_0 rfl rfl
 (w_getfield (p' := 4) f_39_1 rfl (x := .inr (.inr (12, 0, 0))) rfl rfl
 (w_iload_n (p' := 5) f_39_4 rfl rfl
 (w_callV (p' := 8) f_39_5 rfl rfl rfl rfl rfl (r := []) rfl rfl (kI (.inr rk_37) fun r101 s101 h101 =>
 w_if (p' := 27) (q' := 11) f_39_8 rfl rfl
 (fun c104 => w_iconst (p' := 28) f_39_27 rfl
 (w_iret f_39_28 rk_39 (h101.1 c104)))
 (fun c104 => w_aload_n (p' := 12) f_39_11 rfl rfl
 (w_getfield (p' := 15) f_39_12 rfl (x := .inr (.inr (12, 0, 0))) rfl rfl
 (w_getfield (p' := 18) f_39_15 rfl (x := .inr (.inr (16, 0, 0))) rfl rfl
 (w_iload_n (p' := 19) f_39_18 rfl rfl
 (w_aaload (p' := 20) f_39_19 rfl (n := 4) rfl (x := (17, 0, x1)) rfl (h101.2 c104).1 rfl
 (w_iload_n (p' := 21) f_39_20 rfl rfl
 (w_callV (p' := 24) f_39_21 rfl rfl rfl rfl rfl (r := []) rfl rfl (kI (.inr rk_38) fun r102 s102 h102 =>
 w_if (p' := 29) (q' := 27) f_39_24 rfl rfl
 (fun c103 => w_aload_n (p' := 30) f_39_29 rfl rfl
 (w_getfield (p' := 33) f_39_30 rfl (x := .inr (.inr (12, 0, 0))) rfl rfl
 (w_getfield (p' := 36) f_39_33 rfl (x := .inr (.inr (16, 0, 0))) rfl rfl
 (w_iload_n (p' := 37) f_39_36 rfl rfl
 (w_aaload (p' := 38) f_39_37 rfl (n := 4) rfl (x := (17, 0, x1)) rfl (h102.1 c103).1 rfl
 (w_getfield (p' := 41) f_39_38 rfl (x := .inr (.inr (19, 0, x1))) rfl rfl
 (w_iload_n (p' := 42) f_39_41 rfl rfl
 (w_iaload (p' := 43) f_39_42 rfl (n := 8) rfl (h102.1 c103).2.1 rfl
 (w_iret f_39_43 rk_39 (h102.1 c103).2.2)))))))))
 (fun c103 => w_iconst (p' := 28) f_39_27 rfl
 (w_iret f_39_28 rk_39 (h102.2 c103)))) (h101.2 c104).2)))))))) h))))
/-! ClosedRooms$World.isCore(I)Z -/
theorem f_40_0 : fnd 40 0 = some (0, .iload_n 1, 1, 0, 0, 0, 0) := ceB_eq (by decide +kernel)
theorem f_40_1 : fnd 40 1 = some (1, .ifCond .lt 20, 3, 0, 0, 0, 0) := ceB_eq (by decide +kernel)
theorem f_40_4 : fnd 40 4 = some (4, .iload_n 1, 1, 0, 0, 0, 0) := ceB_eq (by decide +kernel)
theorem f_40_5 : fnd 40 5 = some (5, .aload_n 0, 1, 0, 0, 0, 0) := ceB_eq (by decide +kernel)
theorem f_40_6 : fnd 40 6 = some (6, .getfield 15, 3, 4, 1, 1, 0) := ceB_eq (by decide +kernel)
theorem f_40_9 : fnd 40 9 = some (9, .if_icmp .ge 12, 3, 0, 0, 0, 0) := ceB_eq (by decide +kernel)
theorem f_40_12 : fnd 40 12 = some (12, .iload_n 1, 1, 0, 0, 0, 0) := ceB_eq (by decide +kernel)
theorem f_40_13 : fnd 40 13 = some (13, .iconst 3, 1, 0, 0, 0, 0) := ceB_eq (by decide +kernel)
theorem f_40_14 : fnd 40 14 = some (14, .if_icmp .ge 7, 3, 0, 0, 0, 0) := ceB_eq (by decide +kernel)
theorem f_40_17 : fnd 40 17 = some (17, .iconst 1, 1, 0, 0, 0, 0) := ceB_eq (by decide +kernel)
theorem f_40_18 : fnd 40 18 = some (18, .goto 4, 3, 0, 0, 0, 0) := ceB_eq (by decide +kernel)
theorem f_40_21 : fnd 40 21 = some (21, .iconst 0, 1, 0, 0, 0, 0) := ceB_eq (by decide +kernel)
theorem f_40_22 : fnd 40 22 = some (22, .ireturn, 1, 0, 0, 0, 0) := ceB_eq (by decide +kernel)
theorem rk_40 : rkm 40 = 1 := by decide +kernel
theorem ml_40 : (mth 40).2.1 = 2 := by decide +kernel
set_option maxRecDepth 100000 in
theorem T_World_isCore (k0 i0 x1 : Int) (σ : ST) (Q : Option AV → ST → Prop) (h :
  (((x1 < 0 : Prop) →
    ((0 : Int) = 0 ∨ (0 : Int) = 1) ∧ Q (some (.inl 0)) σ) ∧
  (¬ (x1 < 0) →
    ((((σ 12 k0 i0 1) ≤ x1 : Prop) →
      ((0 : Int) = 0 ∨ (0 : Int) = 1) ∧ Q (some (.inl 0)) σ) ∧
    (¬ ((σ 12 k0 i0 1) ≤ x1) →
      (((3 ≤ x1 : Prop) →
        ((0 : Int) = 0 ∨ (0 : Int) = 1) ∧ Q (some (.inl 0)) σ) ∧
      (¬ (3 ≤ x1) →
        ((1 : Int) = 0 ∨ (1 : Int) = 1) ∧ Q (some (.inl 1)) σ))))))) :
  wpM m_World_isCore [.inr (.inr (12, k0, i0)), .inl x1] σ Q :=
 wpM_of ml_40 (L := [some (.inr (.inr (12, k0, i0))), some (.inl x1)]) rfl
 (w_iload_n (p' := 1) f_40_0 rfl rfl
 (w_if (p' := 21) (q' := 4) f_40_1 rfl rfl
 (fun c103 => w_iconst (p' := 22) f_40_21 rfl
 (w_zret f_40_22 rk_40 (h.1 c103).1 (h.1 c103).2))
 (fun c103 => w_iload_n (p' := 5) f_40_4 rfl rfl
 (w_aload_n (p' := 6) f_40_5 rfl rfl
 (w_getfield (p' := 9) f_40_6 rfl (x := .inl (σ 12 k0 i0 1)) rfl rfl
 (w_icmp (p' := 21) (q' := 12) f_40_9 rfl rfl
 (fun c102 => w_iconst (p' := 22) f_40_21 rfl
 (w_zret f_40_22 rk_40 ((h.2 c103).1 c102).1 ((h.2 c103).1 c102).2))
 (fun c102 => w_iload_n (p' := 13) f_40_12 rfl rfl
 (w_iconst (p' := 14) f_40_13 rfl
 (w_icmp (p' := 21) (q' := 17) f_40_14 rfl rfl
 (fun c101 => w_iconst (p' := 22) f_40_21 rfl
 (w_zret f_40_22 rk_40 (((h.2 c103).2 c102).1 c101).1 (((h.2 c103).2 c102).1 c101).2))
 (fun c101 => w_iconst (p' := 18) f_40_17 rfl
 (w_goto (p' := 22) f_40_18 rfl
 (w_zret f_40_22 rk_40 (((h.2 c103).2 c102).2 c101).1 (((h.2 c103).2 c102).2 c101).2))))))))))))
/-! ClosedRooms.core(II)I -/
theorem f_41_0 : fnd 41 0 = some (0, .aload_n 0, 1, 0, 0, 0, 0) := ceB_eq (by decide +kernel)
theorem f_41_1 : fnd 41 1 = some (1, .getfield 45, 3, 0, 6, 6, 0) := ceB_eq (by decide +kernel)
theorem f_41_4 : fnd 41 4 = some (4, .iload_n 1, 1, 0, 0, 0, 0) := ceB_eq (by decide +kernel)
theorem f_41_5 : fnd 41 5 = some (5, .invokevirtual 199, 3, 40, 2, 4, 0) := ceB_eq (by decide +kernel)
theorem f_41_8 : fnd 41 8 = some (8, .ifCond .eq 12, 3, 0, 0, 0, 0) := ceB_eq (by decide +kernel)
theorem f_41_11 : fnd 41 11 = some (11, .iload_n 2, 1, 0, 0, 0, 0) := ceB_eq (by decide +kernel)
theorem f_41_12 : fnd 41 12 = some (12, .ifCond .lt 8, 3, 0, 0, 0, 0) := ceB_eq (by decide +kernel)
theorem f_41_15 : fnd 41 15 = some (15, .iload_n 2, 1, 0, 0, 0, 0) := ceB_eq (by decide +kernel)
theorem f_41_16 : fnd 41 16 = some (16, .iconst 4, 1, 0, 0, 0, 0) := ceB_eq (by decide +kernel)
theorem f_41_17 : fnd 41 17 = some (17, .if_icmp .le 6, 3, 0, 0, 0, 0) := ceB_eq (by decide +kernel)
theorem f_41_20 : fnd 41 20 = some (20, .ldc 116, 2, 0, 0, 0, (-1000000)) := ceB_eq (by decide +kernel)
theorem f_41_22 : fnd 41 22 = some (22, .ireturn, 1, 0, 0, 0, 0) := ceB_eq (by decide +kernel)
theorem f_41_23 : fnd 41 23 = some (23, .aload_n 0, 1, 0, 0, 0, 0) := ceB_eq (by decide +kernel)
theorem f_41_24 : fnd 41 24 = some (24, .getfield 45, 3, 0, 6, 6, 0) := ceB_eq (by decide +kernel)
theorem f_41_27 : fnd 41 27 = some (27, .getfield 202, 3, 4, 7, 7, 0) := ceB_eq (by decide +kernel)
theorem f_41_30 : fnd 41 30 = some (30, .iload_n 1, 1, 0, 0, 0, 0) := ceB_eq (by decide +kernel)
theorem f_41_31 : fnd 41 31 = some (31, .aaload, 1, 0, 0, 0, 0) := ceB_eq (by decide +kernel)
theorem f_41_32 : fnd 41 32 = some (32, .astore_n 3, 1, 0, 0, 0, 0) := ceB_eq (by decide +kernel)
theorem f_41_33 : fnd 41 33 = some (33, .iload_n 2, 1, 0, 0, 0, 0) := ceB_eq (by decide +kernel)
theorem f_41_34 : fnd 41 34 = some (34, .tableswitch 50 0 3 #[30, 35, 40, 45], 30, 0, 0, 0, 0) := ceB_eq (by decide +kernel)
theorem f_41_64 : fnd 41 64 = some (64, .aload_n 3, 1, 0, 0, 0, 0) := ceB_eq (by decide +kernel)
theorem f_41_65 : fnd 41 65 = some (65, .getfield 206, 3, 8, 0, 0, 0) := ceB_eq (by decide +kernel)
theorem f_41_68 : fnd 41 68 = some (68, .ireturn, 1, 0, 0, 0, 0) := ceB_eq (by decide +kernel)
theorem f_41_69 : fnd 41 69 = some (69, .aload_n 3, 1, 0, 0, 0, 0) := ceB_eq (by decide +kernel)
theorem f_41_70 : fnd 41 70 = some (70, .getfield 211, 3, 8, 1, 1, 0) := ceB_eq (by decide +kernel)
theorem f_41_73 : fnd 41 73 = some (73, .ireturn, 1, 0, 0, 0, 0) := ceB_eq (by decide +kernel)
theorem f_41_74 : fnd 41 74 = some (74, .aload_n 3, 1, 0, 0, 0, 0) := ceB_eq (by decide +kernel)
theorem f_41_75 : fnd 41 75 = some (75, .getfield 212, 3, 8, 2, 2, 0) := ceB_eq (by decide +kernel)
theorem f_41_78 : fnd 41 78 = some (78, .ireturn, 1, 0, 0, 0, 0) := ceB_eq (by decide +kernel)
theorem f_41_79 : fnd 41 79 = some (79, .aload_n 3, 1, 0, 0, 0, 0) := ceB_eq (by decide +kernel)
theorem f_41_80 : fnd 41 80 = some (80, .getfield 213, 3, 8, 3, 3, 0) := ceB_eq (by decide +kernel)
theorem f_41_83 : fnd 41 83 = some (83, .ireturn, 1, 0, 0, 0, 0) := ceB_eq (by decide +kernel)
theorem f_41_84 : fnd 41 84 = some (84, .aload_n 3, 1, 0, 0, 0, 0) := ceB_eq (by decide +kernel)
theorem f_41_85 : fnd 41 85 = some (85, .getfield 216, 3, 8, 4, 4, 0) := ceB_eq (by decide +kernel)
theorem f_41_88 : fnd 41 88 = some (88, .ireturn, 1, 0, 0, 0, 0) := ceB_eq (by decide +kernel)
theorem rk_41 : rkm 41 = 0 := by decide +kernel
theorem ml_41 : (mth 41).2.1 = 4 := by decide +kernel
set_option maxRecDepth 100000 in
theorem T_X_core (k0 i0 x1 x2 : Int) (σ : ST) (Q : Option AV → ST → Prop) (h :
  wpM m_World_isCore [.inr (.inr (12, 0, 0)), .inl x1] σ (asI fun r101 s101 =>
  (((r101 = 0 : Prop) →
    Q (some (.inl (-1000000))) s101) ∧
  (¬ (r101 = 0) →
    (((x2 < 0 : Prop) →
      Q (some (.inl (-1000000))) s101) ∧
    (¬ (x2 < 0) →
      (((x2 ≤ 4 : Prop) →
        ((0 : Int) ≤ x1 ∧ (x1 : Int) < 3) ∧
        ((x2 = 0 →
          Q (some (.inl (s101 21 0 x1 0))) s101) ∧ (x2 ≠ 0 →
        ((x2 = 1 →
          Q (some (.inl (s101 21 0 x1 1))) s101) ∧ (x2 ≠ 1 →
        ((x2 = 2 →
          Q (some (.inl (s101 21 0 x1 2))) s101) ∧ (x2 ≠ 2 →
        ((x2 = 3 →
          Q (some (.inl (s101 21 0 x1 3))) s101) ∧ (x2 ≠ 3 →
          Q (some (.inl (s101 21 0 x1 4))) s101))))))))) ∧
      (¬ (x2 ≤ 4) →
        Q (some (.inl (-1000000))) s101)))))))) :
  wpM m_X_core [.inr (.inr (0, k0, i0)), .inl x1, .inl x2] σ Q :=
 wpM_of ml_41 (L := [some (.inr (.inr (0, k0, i0))), some (.inl x1), some (.inl x2), none]) rfl
 (w_aload_n (p' := 1) f_41_0 rfl rfl
 (w_getfield (p' := 4) f_41_1 rfl (x := .inr (.inr (12, 0, 0))) rfl rfl
 (w_iload_n (p' := 5) f_41_4 rfl rfl
 (w_callV (p' := 8) f_41_5 rfl rfl rfl rfl rfl (r := []) rfl rfl (kI (.inr rk_40) fun r101 s101 h101 =>
 w_if (p' := 20) (q' := 11) f_41_8 rfl rfl
 (fun c105 => w_ldc (p' := 22) f_41_20 rfl
 (w_iret f_41_22 rk_41 (h101.1 c105)))
 (fun c105 => w_iload_n (p' := 12) f_41_11 rfl rfl
 (w_if (p' := 20) (q' := 15) f_41_12 rfl rfl
 (fun c104 => w_ldc (p' := 22) f_41_20 rfl
 (w_iret f_41_22 rk_41 ((h101.2 c105).1 c104)))
 (fun c104 => w_iload_n (p' := 16) f_41_15 rfl rfl
 (w_iconst (p' := 17) f_41_16 rfl
 (w_icmp (p' := 23) (q' := 20) f_41_17 rfl rfl
 (fun c103 => w_aload_n (p' := 24) f_41_23 rfl rfl
 (w_getfield (p' := 27) f_41_24 rfl (x := .inr (.inr (12, 0, 0))) rfl rfl
 (w_getfield (p' := 30) f_41_27 rfl (x := .inr (.inr (20, 0, 0))) rfl rfl
 (w_iload_n (p' := 31) f_41_30 rfl rfl
 (w_aaload (p' := 32) f_41_31 rfl (n := 3) rfl (x := (21, 0, x1)) rfl (((h101.2 c105).2 c104).1 c103).1 rfl
 (w_astore_n (p' := 33) f_41_32 (L' := [some (.inr (.inr (0, k0, i0))), some (.inl x1), some (.inl x2), some (.inr (.inr (21, 0, x1)))]) rfl rfl
 (w_iload_n (p' := 34) f_41_33 rfl rfl
 (w_switch f_41_34 (cs := [(0, 64), (1, 69), (2, 74), (3, 79)]) rfl (d' := 84) rfl
 (⟨fun c102 => w_aload_n (p' := 65) f_41_64 rfl rfl
 (w_getfield (p' := 68) f_41_65 rfl (x := .inl (s101 21 0 x1 0)) rfl rfl
 (w_iret f_41_68 rk_41 ((((h101.2 c105).2 c104).1 c103).2.1 c102))), fun c102_0 =>
 ⟨fun c102 => w_aload_n (p' := 70) f_41_69 rfl rfl
 (w_getfield (p' := 73) f_41_70 rfl (x := .inl (s101 21 0 x1 1)) rfl rfl
 (w_iret f_41_73 rk_41 (((((h101.2 c105).2 c104).1 c103).2.2 c102_0).1 c102))), fun c102_1 =>
 ⟨fun c102 => w_aload_n (p' := 75) f_41_74 rfl rfl
 (w_getfield (p' := 78) f_41_75 rfl (x := .inl (s101 21 0 x1 2)) rfl rfl
 (w_iret f_41_78 rk_41 ((((((h101.2 c105).2 c104).1 c103).2.2 c102_0).2 c102_1).1 c102))), fun c102_2 =>
 ⟨fun c102 => w_aload_n (p' := 80) f_41_79 rfl rfl
 (w_getfield (p' := 83) f_41_80 rfl (x := .inl (s101 21 0 x1 3)) rfl rfl
 (w_iret f_41_83 rk_41 (((((((h101.2 c105).2 c104).1 c103).2.2 c102_0).2 c102_1).2 c102_2).1 c102))), fun c102_3 =>
 w_aload_n (p' := 85) f_41_84 rfl rfl
 (w_getfield (p' := 88) f_41_85 rfl (x := .inl (s101 21 0 x1 4)) rfl rfl
 (w_iret f_41_88 rk_41 (((((((h101.2 c105).2 c104).1 c103).2.2 c102_0).2 c102_1).2 c102_2).2 c102_3)))⟩⟩⟩⟩)))))))))
 (fun c103 => w_ldc (p' := 22) f_41_20 rfl
 (w_iret f_41_22 rk_41 (((h101.2 c105).2 c104).2 c103))))))))) h))))
/-! ClosedRooms.seen(III)I -/
theorem f_42_0 : fnd 42 0 = some (0, .aload_n 0, 1, 0, 0, 0, 0) := ceB_eq (by decide +kernel)
theorem f_42_1 : fnd 42 1 = some (1, .getfield 45, 3, 0, 6, 6, 0) := ceB_eq (by decide +kernel)
theorem f_42_4 : fnd 42 4 = some (4, .iload_n 1, 1, 0, 0, 0, 0) := ceB_eq (by decide +kernel)
theorem f_42_5 : fnd 42 5 = some (5, .invokevirtual 199, 3, 40, 2, 4, 0) := ceB_eq (by decide +kernel)
theorem f_42_8 : fnd 42 8 = some (8, .ifCond .eq 12, 3, 0, 0, 0, 0) := ceB_eq (by decide +kernel)
theorem f_42_11 : fnd 42 11 = some (11, .iload_n 3, 1, 0, 0, 0, 0) := ceB_eq (by decide +kernel)
theorem f_42_12 : fnd 42 12 = some (12, .ifCond .lt 8, 3, 0, 0, 0, 0) := ceB_eq (by decide +kernel)
theorem f_42_15 : fnd 42 15 = some (15, .iload_n 3, 1, 0, 0, 0, 0) := ceB_eq (by decide +kernel)
theorem f_42_16 : fnd 42 16 = some (16, .iconst 1, 1, 0, 0, 0, 0) := ceB_eq (by decide +kernel)
theorem f_42_17 : fnd 42 17 = some (17, .if_icmp .le 5, 3, 0, 0, 0, 0) := ceB_eq (by decide +kernel)
theorem f_42_20 : fnd 42 20 = some (20, .iconst (-1), 1, 0, 0, 0, 0) := ceB_eq (by decide +kernel)
theorem f_42_21 : fnd 42 21 = some (21, .ireturn, 1, 0, 0, 0, 0) := ceB_eq (by decide +kernel)
theorem f_42_22 : fnd 42 22 = some (22, .aload_n 0, 1, 0, 0, 0, 0) := ceB_eq (by decide +kernel)
theorem f_42_23 : fnd 42 23 = some (23, .getfield 45, 3, 0, 6, 6, 0) := ceB_eq (by decide +kernel)
theorem f_42_26 : fnd 42 26 = some (26, .getfield 202, 3, 4, 7, 7, 0) := ceB_eq (by decide +kernel)
theorem f_42_29 : fnd 42 29 = some (29, .iload_n 1, 1, 0, 0, 0, 0) := ceB_eq (by decide +kernel)
theorem f_42_30 : fnd 42 30 = some (30, .aaload, 1, 0, 0, 0, 0) := ceB_eq (by decide +kernel)
theorem f_42_31 : fnd 42 31 = some (31, .astore 4, 2, 0, 0, 0, 0) := ceB_eq (by decide +kernel)
theorem f_42_33 : fnd 42 33 = some (33, .iload_n 2, 1, 0, 0, 0, 0) := ceB_eq (by decide +kernel)
theorem f_42_34 : fnd 42 34 = some (34, .ifCond .lt 17, 3, 0, 0, 0, 0) := ceB_eq (by decide +kernel)
theorem f_42_37 : fnd 42 37 = some (37, .iload_n 2, 1, 0, 0, 0, 0) := ceB_eq (by decide +kernel)
theorem f_42_38 : fnd 42 38 = some (38, .aload 4, 2, 0, 0, 0, 0) := ceB_eq (by decide +kernel)
theorem f_42_40 : fnd 42 40 = some (40, .getfield 216, 3, 8, 4, 4, 0) := ceB_eq (by decide +kernel)
theorem f_42_43 : fnd 42 43 = some (43, .if_icmp .ge 8, 3, 0, 0, 0, 0) := ceB_eq (by decide +kernel)
theorem f_42_46 : fnd 42 46 = some (46, .iload_n 2, 1, 0, 0, 0, 0) := ceB_eq (by decide +kernel)
theorem f_42_47 : fnd 42 47 = some (47, .iconst 3, 1, 0, 0, 0, 0) := ceB_eq (by decide +kernel)
theorem f_42_48 : fnd 42 48 = some (48, .if_icmp .lt 5, 3, 0, 0, 0, 0) := ceB_eq (by decide +kernel)
theorem f_42_51 : fnd 42 51 = some (51, .iconst (-1), 1, 0, 0, 0, 0) := ceB_eq (by decide +kernel)
theorem f_42_52 : fnd 42 52 = some (52, .ireturn, 1, 0, 0, 0, 0) := ceB_eq (by decide +kernel)
theorem f_42_53 : fnd 42 53 = some (53, .iload_n 3, 1, 0, 0, 0, 0) := ceB_eq (by decide +kernel)
theorem f_42_54 : fnd 42 54 = some (54, .ifCond .ne 13, 3, 0, 0, 0, 0) := ceB_eq (by decide +kernel)
theorem f_42_57 : fnd 42 57 = some (57, .aload 4, 2, 0, 0, 0, 0) := ceB_eq (by decide +kernel)
theorem f_42_59 : fnd 42 59 = some (59, .getfield 219, 3, 8, 5, 5, 0) := ceB_eq (by decide +kernel)
theorem f_42_62 : fnd 42 62 = some (62, .iload_n 2, 1, 0, 0, 0, 0) := ceB_eq (by decide +kernel)
theorem f_42_63 : fnd 42 63 = some (63, .iaload, 1, 0, 0, 0, 0) := ceB_eq (by decide +kernel)
theorem f_42_64 : fnd 42 64 = some (64, .goto 10, 3, 0, 0, 0, 0) := ceB_eq (by decide +kernel)
theorem f_42_67 : fnd 42 67 = some (67, .aload 4, 2, 0, 0, 0, 0) := ceB_eq (by decide +kernel)
theorem f_42_69 : fnd 42 69 = some (69, .getfield 222, 3, 8, 6, 6, 0) := ceB_eq (by decide +kernel)
theorem f_42_72 : fnd 42 72 = some (72, .iload_n 2, 1, 0, 0, 0, 0) := ceB_eq (by decide +kernel)
theorem f_42_73 : fnd 42 73 = some (73, .iaload, 1, 0, 0, 0, 0) := ceB_eq (by decide +kernel)
theorem f_42_74 : fnd 42 74 = some (74, .ireturn, 1, 0, 0, 0, 0) := ceB_eq (by decide +kernel)
theorem rk_42 : rkm 42 = 0 := by decide +kernel
theorem ml_42 : (mth 42).2.1 = 5 := by decide +kernel
set_option maxRecDepth 100000 in
theorem T_X_seen (k0 i0 x1 x2 x3 : Int) (σ : ST) (Q : Option AV → ST → Prop) (h :
  wpM m_World_isCore [.inr (.inr (12, 0, 0)), .inl x1] σ (asI fun r101 s101 =>
  (((r101 = 0 : Prop) →
    Q (some (.inl (-1))) s101) ∧
  (¬ (r101 = 0) →
    (((x3 < 0 : Prop) →
      Q (some (.inl (-1))) s101) ∧
    (¬ (x3 < 0) →
      (((x3 ≤ 1 : Prop) →
        ((0 : Int) ≤ x1 ∧ (x1 : Int) < 3) ∧
        (((x2 < 0 : Prop) →
          Q (some (.inl (-1))) s101) ∧
        (¬ (x2 < 0) →
          ((((s101 21 0 x1 4) ≤ x2 : Prop) →
            Q (some (.inl (-1))) s101) ∧
          (¬ ((s101 21 0 x1 4) ≤ x2) →
            (((x2 < 3 : Prop) →
              (((x3 ≠ 0 : Prop) →
                ((0 : Int) ≤ x2 ∧ (x2 : Int) < 3) ∧
                Q (some (.inl (s101 23 0 x1 x2))) s101) ∧
              (¬ (x3 ≠ 0) →
                ((0 : Int) ≤ x2 ∧ (x2 : Int) < 3) ∧
                Q (some (.inl (s101 22 0 x1 x2))) s101))) ∧
            (¬ (x2 < 3) →
              Q (some (.inl (-1))) s101))))))) ∧
      (¬ (x3 ≤ 1) →
        Q (some (.inl (-1))) s101)))))))) :
  wpM m_X_seen [.inr (.inr (0, k0, i0)), .inl x1, .inl x2, .inl x3] σ Q :=
 wpM_of ml_42 (L := [some (.inr (.inr (0, k0, i0))), some (.inl x1), some (.inl x2), some (.inl x3), none]) rfl
 (w_aload_n (p' := 1) f_42_0 rfl rfl
 (w_getfield (p' := 4) f_42_1 rfl (x := .inr (.inr (12, 0, 0))) rfl rfl
 (w_iload_n (p' := 5) f_42_4 rfl rfl
 (w_callV (p' := 8) f_42_5 rfl rfl rfl rfl rfl (r := []) rfl rfl (kI (.inr rk_40) fun r101 s101 h101 =>
 w_if (p' := 20) (q' := 11) f_42_8 rfl rfl
 (fun c108 => w_iconst (p' := 21) f_42_20 rfl
 (w_iret f_42_21 rk_42 (h101.1 c108)))
 (fun c108 => w_iload_n (p' := 12) f_42_11 rfl rfl
 (w_if (p' := 20) (q' := 15) f_42_12 rfl rfl
 (fun c107 => w_iconst (p' := 21) f_42_20 rfl
 (w_iret f_42_21 rk_42 ((h101.2 c108).1 c107)))
 (fun c107 => w_iload_n (p' := 16) f_42_15 rfl rfl
 (w_iconst (p' := 17) f_42_16 rfl
 (w_icmp (p' := 22) (q' := 20) f_42_17 rfl rfl
 (fun c106 => w_aload_n (p' := 23) f_42_22 rfl rfl
 (w_getfield (p' := 26) f_42_23 rfl (x := .inr (.inr (12, 0, 0))) rfl rfl
 (w_getfield (p' := 29) f_42_26 rfl (x := .inr (.inr (20, 0, 0))) rfl rfl
 (w_iload_n (p' := 30) f_42_29 rfl rfl
 (w_aaload (p' := 31) f_42_30 rfl (n := 3) rfl (x := (21, 0, x1)) rfl (((h101.2 c108).2 c107).1 c106).1 rfl
 (w_astore (p' := 33) f_42_31 (L' := [some (.inr (.inr (0, k0, i0))), some (.inl x1), some (.inl x2), some (.inl x3), some (.inr (.inr (21, 0, x1)))]) rfl rfl
 (w_iload_n (p' := 34) f_42_33 rfl rfl
 (w_if (p' := 51) (q' := 37) f_42_34 rfl rfl
 (fun c105 => w_iconst (p' := 52) f_42_51 rfl
 (w_iret f_42_52 rk_42 ((((h101.2 c108).2 c107).1 c106).2.1 c105)))
 (fun c105 => w_iload_n (p' := 38) f_42_37 rfl rfl
 (w_aload (p' := 40) f_42_38 rfl rfl
 (w_getfield (p' := 43) f_42_40 rfl (x := .inl (s101 21 0 x1 4)) rfl rfl
 (w_icmp (p' := 51) (q' := 46) f_42_43 rfl rfl
 (fun c104 => w_iconst (p' := 52) f_42_51 rfl
 (w_iret f_42_52 rk_42 (((((h101.2 c108).2 c107).1 c106).2.2 c105).1 c104)))
 (fun c104 => w_iload_n (p' := 47) f_42_46 rfl rfl
 (w_iconst (p' := 48) f_42_47 rfl
 (w_icmp (p' := 53) (q' := 51) f_42_48 rfl rfl
 (fun c103 => w_iload_n (p' := 54) f_42_53 rfl rfl
 (w_if (p' := 67) (q' := 57) f_42_54 rfl rfl
 (fun c102 => w_aload (p' := 69) f_42_67 rfl rfl
 (w_getfield (p' := 72) f_42_69 rfl (x := .inr (.inr (23, 0, x1))) rfl rfl
 (w_iload_n (p' := 73) f_42_72 rfl rfl
 (w_iaload (p' := 74) f_42_73 rfl (n := 3) rfl (((((((h101.2 c108).2 c107).1 c106).2.2 c105).2 c104).1 c103).1 c102).1 rfl
 (w_iret f_42_74 rk_42 (((((((h101.2 c108).2 c107).1 c106).2.2 c105).2 c104).1 c103).1 c102).2)))))
 (fun c102 => w_aload (p' := 59) f_42_57 rfl rfl
 (w_getfield (p' := 62) f_42_59 rfl (x := .inr (.inr (22, 0, x1))) rfl rfl
 (w_iload_n (p' := 63) f_42_62 rfl rfl
 (w_iaload (p' := 64) f_42_63 rfl (n := 3) rfl (((((((h101.2 c108).2 c107).1 c106).2.2 c105).2 c104).1 c103).2 c102).1 rfl
 (w_goto (p' := 74) f_42_64 rfl
 (w_iret f_42_74 rk_42 (((((((h101.2 c108).2 c107).1 c106).2.2 c105).2 c104).1 c103).2 c102).2))))))))
 (fun c103 => w_iconst (p' := 52) f_42_51 rfl
 (w_iret f_42_52 rk_42 ((((((h101.2 c108).2 c107).1 c106).2.2 c105).2 c104).2 c103))))))))))))))))))
 (fun c106 => w_iconst (p' := 21) f_42_20 rfl
 (w_iret f_42_21 rk_42 (((h101.2 c108).2 c107).2 c106))))))))) h))))
/-! ClosedRooms$World.isCopy(I)Z -/
theorem f_43_0 : fnd 43 0 = some (0, .iload_n 1, 1, 0, 0, 0, 0) := ceB_eq (by decide +kernel)
theorem f_43_1 : fnd 43 1 = some (1, .ifCond .lt 25, 3, 0, 0, 0, 0) := ceB_eq (by decide +kernel)
theorem f_43_4 : fnd 43 4 = some (4, .iload_n 1, 1, 0, 0, 0, 0) := ceB_eq (by decide +kernel)
theorem f_43_5 : fnd 43 5 = some (5, .bipush 12, 2, 0, 0, 0, 0) := ceB_eq (by decide +kernel)
theorem f_43_7 : fnd 43 7 = some (7, .if_icmp .ge 19, 3, 0, 0, 0, 0) := ceB_eq (by decide +kernel)
theorem f_43_10 : fnd 43 10 = some (10, .aload_n 0, 1, 0, 0, 0, 0) := ceB_eq (by decide +kernel)
theorem f_43_11 : fnd 43 11 = some (11, .getfield 47, 3, 4, 8, 8, 0) := ceB_eq (by decide +kernel)
theorem f_43_14 : fnd 43 14 = some (14, .iload_n 1, 1, 0, 0, 0, 0) := ceB_eq (by decide +kernel)
theorem f_43_15 : fnd 43 15 = some (15, .aaload, 1, 0, 0, 0, 0) := ceB_eq (by decide +kernel)
theorem f_43_16 : fnd 43 16 = some (16, .getfield 72, 3, 9, 0, 0, 0) := ceB_eq (by decide +kernel)
theorem f_43_19 : fnd 43 19 = some (19, .ifCond .eq 7, 3, 0, 0, 0, 0) := ceB_eq (by decide +kernel)
theorem f_43_22 : fnd 43 22 = some (22, .iconst 1, 1, 0, 0, 0, 0) := ceB_eq (by decide +kernel)
theorem f_43_23 : fnd 43 23 = some (23, .goto 4, 3, 0, 0, 0, 0) := ceB_eq (by decide +kernel)
theorem f_43_26 : fnd 43 26 = some (26, .iconst 0, 1, 0, 0, 0, 0) := ceB_eq (by decide +kernel)
theorem f_43_27 : fnd 43 27 = some (27, .ireturn, 1, 0, 0, 0, 0) := ceB_eq (by decide +kernel)
theorem rk_43 : rkm 43 = 1 := by decide +kernel
theorem ml_43 : (mth 43).2.1 = 2 := by decide +kernel
set_option maxRecDepth 100000 in
theorem T_World_isCopy (k0 i0 x1 : Int) (σ : ST) (Q : Option AV → ST → Prop) (h :
  (((x1 < 0 : Prop) →
    ((0 : Int) = 0 ∨ (0 : Int) = 1) ∧ Q (some (.inl 0)) σ) ∧
  (¬ (x1 < 0) →
    (((12 ≤ x1 : Prop) →
      ((0 : Int) = 0 ∨ (0 : Int) = 1) ∧ Q (some (.inl 0)) σ) ∧
    (¬ (12 ≤ x1) →
      ((0 : Int) ≤ x1 ∧ (x1 : Int) < 12) ∧
      ((((bz (σ 25 k0 x1 0)) = 0 : Prop) →
        ((0 : Int) = 0 ∨ (0 : Int) = 1) ∧ Q (some (.inl 0)) σ) ∧
      (¬ ((bz (σ 25 k0 x1 0)) = 0) →
        ((1 : Int) = 0 ∨ (1 : Int) = 1) ∧ Q (some (.inl 1)) σ))))))) :
  wpM m_World_isCopy [.inr (.inr (12, k0, i0)), .inl x1] σ Q :=
 wpM_of ml_43 (L := [some (.inr (.inr (12, k0, i0))), some (.inl x1)]) rfl
 (w_iload_n (p' := 1) f_43_0 rfl rfl
 (w_if (p' := 26) (q' := 4) f_43_1 rfl rfl
 (fun c103 => w_iconst (p' := 27) f_43_26 rfl
 (w_zret f_43_27 rk_43 (h.1 c103).1 (h.1 c103).2))
 (fun c103 => w_iload_n (p' := 5) f_43_4 rfl rfl
 (w_bipush (p' := 7) f_43_5 rfl
 (w_icmp (p' := 26) (q' := 10) f_43_7 rfl rfl
 (fun c102 => w_iconst (p' := 27) f_43_26 rfl
 (w_zret f_43_27 rk_43 ((h.2 c103).1 c102).1 ((h.2 c103).1 c102).2))
 (fun c102 => w_aload_n (p' := 11) f_43_10 rfl rfl
 (w_getfield (p' := 14) f_43_11 rfl (x := .inr (.inr (24, k0, 0))) rfl rfl
 (w_iload_n (p' := 15) f_43_14 rfl rfl
 (w_aaload (p' := 16) f_43_15 rfl (n := 12) rfl (x := (25, k0, x1)) rfl ((h.2 c103).2 c102).1 rfl
 (w_getfield (p' := 19) f_43_16 rfl (x := .inl (bz (σ 25 k0 x1 0))) rfl rfl
 (w_if (p' := 26) (q' := 22) f_43_19 rfl rfl
 (fun c101 => w_iconst (p' := 27) f_43_26 rfl
 (w_zret f_43_27 rk_43 (((h.2 c103).2 c102).2.1 c101).1 (((h.2 c103).2 c102).2.1 c101).2))
 (fun c101 => w_iconst (p' := 23) f_43_22 rfl
 (w_goto (p' := 27) f_43_23 rfl
 (w_zret f_43_27 rk_43 (((h.2 c103).2 c102).2.2 c101).1 (((h.2 c103).2 c102).2.2 c101).2))))))))))))))
/-! ClosedRooms.copyOf(II)I -/
theorem f_44_0 : fnd 44 0 = some (0, .aload_n 0, 1, 0, 0, 0, 0) := ceB_eq (by decide +kernel)
theorem f_44_1 : fnd 44 1 = some (1, .getfield 45, 3, 0, 6, 6, 0) := ceB_eq (by decide +kernel)
theorem f_44_4 : fnd 44 4 = some (4, .iload_n 1, 1, 0, 0, 0, 0) := ceB_eq (by decide +kernel)
theorem f_44_5 : fnd 44 5 = some (5, .invokevirtual 225, 3, 43, 2, 4, 0) := ceB_eq (by decide +kernel)
theorem f_44_8 : fnd 44 8 = some (8, .ifCond .eq 12, 3, 0, 0, 0, 0) := ceB_eq (by decide +kernel)
theorem f_44_11 : fnd 44 11 = some (11, .iload_n 2, 1, 0, 0, 0, 0) := ceB_eq (by decide +kernel)
theorem f_44_12 : fnd 44 12 = some (12, .ifCond .lt 8, 3, 0, 0, 0, 0) := ceB_eq (by decide +kernel)
theorem f_44_15 : fnd 44 15 = some (15, .iload_n 2, 1, 0, 0, 0, 0) := ceB_eq (by decide +kernel)
theorem f_44_16 : fnd 44 16 = some (16, .iconst 5, 1, 0, 0, 0, 0) := ceB_eq (by decide +kernel)
theorem f_44_17 : fnd 44 17 = some (17, .if_icmp .le 6, 3, 0, 0, 0, 0) := ceB_eq (by decide +kernel)
theorem f_44_20 : fnd 44 20 = some (20, .ldc 116, 2, 0, 0, 0, (-1000000)) := ceB_eq (by decide +kernel)
theorem f_44_22 : fnd 44 22 = some (22, .ireturn, 1, 0, 0, 0, 0) := ceB_eq (by decide +kernel)
theorem f_44_23 : fnd 44 23 = some (23, .aload_n 0, 1, 0, 0, 0, 0) := ceB_eq (by decide +kernel)
theorem f_44_24 : fnd 44 24 = some (24, .getfield 45, 3, 0, 6, 6, 0) := ceB_eq (by decide +kernel)
theorem f_44_27 : fnd 44 27 = some (27, .getfield 228, 3, 4, 8, 8, 0) := ceB_eq (by decide +kernel)
theorem f_44_30 : fnd 44 30 = some (30, .iload_n 1, 1, 0, 0, 0, 0) := ceB_eq (by decide +kernel)
theorem f_44_31 : fnd 44 31 = some (31, .aaload, 1, 0, 0, 0, 0) := ceB_eq (by decide +kernel)
theorem f_44_32 : fnd 44 32 = some (32, .astore_n 3, 1, 0, 0, 0, 0) := ceB_eq (by decide +kernel)
theorem f_44_33 : fnd 44 33 = some (33, .iload_n 2, 1, 0, 0, 0, 0) := ceB_eq (by decide +kernel)
theorem f_44_34 : fnd 44 34 = some (34, .tableswitch 59 0 4 #[34, 39, 44, 49, 54], 34, 0, 0, 0, 0) := ceB_eq (by decide +kernel)
theorem f_44_68 : fnd 44 68 = some (68, .aload_n 3, 1, 0, 0, 0, 0) := ceB_eq (by decide +kernel)
theorem f_44_69 : fnd 44 69 = some (69, .getfield 232, 3, 9, 1, 1, 0) := ceB_eq (by decide +kernel)
theorem f_44_72 : fnd 44 72 = some (72, .ireturn, 1, 0, 0, 0, 0) := ceB_eq (by decide +kernel)
theorem f_44_73 : fnd 44 73 = some (73, .aload_n 3, 1, 0, 0, 0, 0) := ceB_eq (by decide +kernel)
theorem f_44_74 : fnd 44 74 = some (74, .getfield 235, 3, 9, 2, 2, 0) := ceB_eq (by decide +kernel)
theorem f_44_77 : fnd 44 77 = some (77, .ireturn, 1, 0, 0, 0, 0) := ceB_eq (by decide +kernel)
theorem f_44_78 : fnd 44 78 = some (78, .aload_n 3, 1, 0, 0, 0, 0) := ceB_eq (by decide +kernel)
theorem f_44_79 : fnd 44 79 = some (79, .getfield 236, 3, 9, 3, 3, 0) := ceB_eq (by decide +kernel)
theorem f_44_82 : fnd 44 82 = some (82, .ireturn, 1, 0, 0, 0, 0) := ceB_eq (by decide +kernel)
theorem f_44_83 : fnd 44 83 = some (83, .aload_n 3, 1, 0, 0, 0, 0) := ceB_eq (by decide +kernel)
theorem f_44_84 : fnd 44 84 = some (84, .getfield 237, 3, 9, 4, 4, 0) := ceB_eq (by decide +kernel)
theorem f_44_87 : fnd 44 87 = some (87, .ireturn, 1, 0, 0, 0, 0) := ceB_eq (by decide +kernel)
theorem f_44_88 : fnd 44 88 = some (88, .aload_n 3, 1, 0, 0, 0, 0) := ceB_eq (by decide +kernel)
theorem f_44_89 : fnd 44 89 = some (89, .getfield 238, 3, 9, 7, 7, 0) := ceB_eq (by decide +kernel)
theorem f_44_92 : fnd 44 92 = some (92, .ireturn, 1, 0, 0, 0, 0) := ceB_eq (by decide +kernel)
theorem f_44_93 : fnd 44 93 = some (93, .aload_n 3, 1, 0, 0, 0, 0) := ceB_eq (by decide +kernel)
theorem f_44_94 : fnd 44 94 = some (94, .getfield 241, 3, 9, 8, 8, 0) := ceB_eq (by decide +kernel)
theorem f_44_97 : fnd 44 97 = some (97, .ifCond .eq 7, 3, 0, 0, 0, 0) := ceB_eq (by decide +kernel)
theorem f_44_100 : fnd 44 100 = some (100, .iconst 1, 1, 0, 0, 0, 0) := ceB_eq (by decide +kernel)
theorem f_44_101 : fnd 44 101 = some (101, .goto 4, 3, 0, 0, 0, 0) := ceB_eq (by decide +kernel)
theorem f_44_104 : fnd 44 104 = some (104, .iconst 0, 1, 0, 0, 0, 0) := ceB_eq (by decide +kernel)
theorem f_44_105 : fnd 44 105 = some (105, .ireturn, 1, 0, 0, 0, 0) := ceB_eq (by decide +kernel)
theorem rk_44 : rkm 44 = 0 := by decide +kernel
theorem ml_44 : (mth 44).2.1 = 4 := by decide +kernel
set_option maxRecDepth 100000 in
theorem T_X_copyOf (k0 i0 x1 x2 : Int) (σ : ST) (Q : Option AV → ST → Prop) (h :
  wpM m_World_isCopy [.inr (.inr (12, 0, 0)), .inl x1] σ (asI fun r101 s101 =>
  (((r101 = 0 : Prop) →
    Q (some (.inl (-1000000))) s101) ∧
  (¬ (r101 = 0) →
    (((x2 < 0 : Prop) →
      Q (some (.inl (-1000000))) s101) ∧
    (¬ (x2 < 0) →
      (((x2 ≤ 5 : Prop) →
        ((0 : Int) ≤ x1 ∧ (x1 : Int) < 12) ∧
        ((x2 = 0 →
          Q (some (.inl (s101 25 0 x1 1))) s101) ∧ (x2 ≠ 0 →
        ((x2 = 1 →
          Q (some (.inl (s101 25 0 x1 2))) s101) ∧ (x2 ≠ 1 →
        ((x2 = 2 →
          Q (some (.inl (s101 25 0 x1 3))) s101) ∧ (x2 ≠ 2 →
        ((x2 = 3 →
          Q (some (.inl (s101 25 0 x1 4))) s101) ∧ (x2 ≠ 3 →
        ((x2 = 4 →
          Q (some (.inl (s101 25 0 x1 7))) s101) ∧ (x2 ≠ 4 →
          ((((bz (s101 25 0 x1 8)) = 0 : Prop) →
            Q (some (.inl 0)) s101) ∧
          (¬ ((bz (s101 25 0 x1 8)) = 0) →
            Q (some (.inl 1)) s101))))))))))))) ∧
      (¬ (x2 ≤ 5) →
        Q (some (.inl (-1000000))) s101)))))))) :
  wpM m_X_copyOf [.inr (.inr (0, k0, i0)), .inl x1, .inl x2] σ Q :=
 wpM_of ml_44 (L := [some (.inr (.inr (0, k0, i0))), some (.inl x1), some (.inl x2), none]) rfl
 (w_aload_n (p' := 1) f_44_0 rfl rfl
 (w_getfield (p' := 4) f_44_1 rfl (x := .inr (.inr (12, 0, 0))) rfl rfl
 (w_iload_n (p' := 5) f_44_4 rfl rfl
 (w_callV (p' := 8) f_44_5 rfl rfl rfl rfl rfl (r := []) rfl rfl (kI (.inr rk_43) fun r101 s101 h101 =>
 w_if (p' := 20) (q' := 11) f_44_8 rfl rfl
 (fun c106 => w_ldc (p' := 22) f_44_20 rfl
 (w_iret f_44_22 rk_44 (h101.1 c106)))
 (fun c106 => w_iload_n (p' := 12) f_44_11 rfl rfl
 (w_if (p' := 20) (q' := 15) f_44_12 rfl rfl
 (fun c105 => w_ldc (p' := 22) f_44_20 rfl
 (w_iret f_44_22 rk_44 ((h101.2 c106).1 c105)))
 (fun c105 => w_iload_n (p' := 16) f_44_15 rfl rfl
 (w_iconst (p' := 17) f_44_16 rfl
 (w_icmp (p' := 23) (q' := 20) f_44_17 rfl rfl
 (fun c104 => w_aload_n (p' := 24) f_44_23 rfl rfl
 (w_getfield (p' := 27) f_44_24 rfl (x := .inr (.inr (12, 0, 0))) rfl rfl
 (w_getfield (p' := 30) f_44_27 rfl (x := .inr (.inr (24, 0, 0))) rfl rfl
 (w_iload_n (p' := 31) f_44_30 rfl rfl
 (w_aaload (p' := 32) f_44_31 rfl (n := 12) rfl (x := (25, 0, x1)) rfl (((h101.2 c106).2 c105).1 c104).1 rfl
 (w_astore_n (p' := 33) f_44_32 (L' := [some (.inr (.inr (0, k0, i0))), some (.inl x1), some (.inl x2), some (.inr (.inr (25, 0, x1)))]) rfl rfl
 (w_iload_n (p' := 34) f_44_33 rfl rfl
 (w_switch f_44_34 (cs := [(0, 68), (1, 73), (2, 78), (3, 83), (4, 88)]) rfl (d' := 93) rfl
 (⟨fun c103 => w_aload_n (p' := 69) f_44_68 rfl rfl
 (w_getfield (p' := 72) f_44_69 rfl (x := .inl (s101 25 0 x1 1)) rfl rfl
 (w_iret f_44_72 rk_44 ((((h101.2 c106).2 c105).1 c104).2.1 c103))), fun c103_0 =>
 ⟨fun c103 => w_aload_n (p' := 74) f_44_73 rfl rfl
 (w_getfield (p' := 77) f_44_74 rfl (x := .inl (s101 25 0 x1 2)) rfl rfl
 (w_iret f_44_77 rk_44 (((((h101.2 c106).2 c105).1 c104).2.2 c103_0).1 c103))), fun c103_1 =>
 ⟨fun c103 => w_aload_n (p' := 79) f_44_78 rfl rfl
 (w_getfield (p' := 82) f_44_79 rfl (x := .inl (s101 25 0 x1 3)) rfl rfl
 (w_iret f_44_82 rk_44 ((((((h101.2 c106).2 c105).1 c104).2.2 c103_0).2 c103_1).1 c103))), fun c103_2 =>
 ⟨fun c103 => w_aload_n (p' := 84) f_44_83 rfl rfl
 (w_getfield (p' := 87) f_44_84 rfl (x := .inl (s101 25 0 x1 4)) rfl rfl
 (w_iret f_44_87 rk_44 (((((((h101.2 c106).2 c105).1 c104).2.2 c103_0).2 c103_1).2 c103_2).1 c103))), fun c103_3 =>
 ⟨fun c103 => w_aload_n (p' := 89) f_44_88 rfl rfl
 (w_getfield (p' := 92) f_44_89 rfl (x := .inl (s101 25 0 x1 7)) rfl rfl
 (w_iret f_44_92 rk_44 ((((((((h101.2 c106).2 c105).1 c104).2.2 c103_0).2 c103_1).2 c103_2).2 c103_3).1 c103))), fun c103_4 =>
 w_aload_n (p' := 94) f_44_93 rfl rfl
 (w_getfield (p' := 97) f_44_94 rfl (x := .inl (bz (s101 25 0 x1 8))) rfl rfl
 (w_if (p' := 104) (q' := 100) f_44_97 rfl rfl
 (fun c102 => w_iconst (p' := 105) f_44_104 rfl
 (w_iret f_44_105 rk_44 (((((((((h101.2 c106).2 c105).1 c104).2.2 c103_0).2 c103_1).2 c103_2).2 c103_3).2 c103_4).1 c102)))
 (fun c102 => w_iconst (p' := 101) f_44_100 rfl
 (w_goto (p' := 105) f_44_101 rfl
 (w_iret f_44_105 rk_44 (((((((((h101.2 c106).2 c105).1 c104).2.2 c103_0).2 c103_1).2 c103_2).2 c103_3).2 c103_4).2 c102))))))⟩⟩⟩⟩⟩)))))))))
 (fun c104 => w_ldc (p' := 22) f_44_20 rfl
 (w_iret f_44_22 rk_44 (((h101.2 c106).2 c105).2 c104))))))))) h))))
/-! java/lang/Math.floorMod(II)I -/
theorem f_45_0 : fnd 45 0 = some (0, .iload_n 0, 1, 0, 0, 0, 0) := ceB_eq (by decide +kernel)
theorem f_45_1 : fnd 45 1 = some (1, .iload_n 1, 1, 0, 0, 0, 0) := ceB_eq (by decide +kernel)
theorem f_45_2 : fnd 45 2 = some (2, .irem, 1, 0, 0, 0, 0) := ceB_eq (by decide +kernel)
theorem f_45_3 : fnd 45 3 = some (3, .istore_n 2, 1, 0, 0, 0, 0) := ceB_eq (by decide +kernel)
theorem f_45_4 : fnd 45 4 = some (4, .iload_n 0, 1, 0, 0, 0, 0) := ceB_eq (by decide +kernel)
theorem f_45_5 : fnd 45 5 = some (5, .iload_n 1, 1, 0, 0, 0, 0) := ceB_eq (by decide +kernel)
theorem f_45_6 : fnd 45 6 = some (6, .ixor, 1, 0, 0, 0, 0) := ceB_eq (by decide +kernel)
theorem f_45_7 : fnd 45 7 = some (7, .ifCond .ge 11, 3, 0, 0, 0, 0) := ceB_eq (by decide +kernel)
theorem f_45_10 : fnd 45 10 = some (10, .iload_n 2, 1, 0, 0, 0, 0) := ceB_eq (by decide +kernel)
theorem f_45_11 : fnd 45 11 = some (11, .ifCond .eq 7, 3, 0, 0, 0, 0) := ceB_eq (by decide +kernel)
theorem f_45_14 : fnd 45 14 = some (14, .iload_n 2, 1, 0, 0, 0, 0) := ceB_eq (by decide +kernel)
theorem f_45_15 : fnd 45 15 = some (15, .iload_n 1, 1, 0, 0, 0, 0) := ceB_eq (by decide +kernel)
theorem f_45_16 : fnd 45 16 = some (16, .iadd, 1, 0, 0, 0, 0) := ceB_eq (by decide +kernel)
theorem f_45_17 : fnd 45 17 = some (17, .ireturn, 1, 0, 0, 0, 0) := ceB_eq (by decide +kernel)
theorem f_45_18 : fnd 45 18 = some (18, .iload_n 2, 1, 0, 0, 0, 0) := ceB_eq (by decide +kernel)
theorem f_45_19 : fnd 45 19 = some (19, .ireturn, 1, 0, 0, 0, 0) := ceB_eq (by decide +kernel)
theorem rk_45 : rkm 45 = 0 := by decide +kernel
theorem ml_45 : (mth 45).2.1 = 3 := by decide +kernel
set_option maxRecDepth 100000 in
theorem T_JMath_floorMod (x1 x2 : Int) (σ : ST) (Q : Option AV → ST → Prop) (h :
  (x2 : Int) ≠ 0 ∧
  (((0 ≤ (i_xor x1 x2) : Prop) →
    Q (some (.inl (i_rem x1 x2))) σ) ∧
  (¬ (0 ≤ (i_xor x1 x2)) →
    ((((i_rem x1 x2) = 0 : Prop) →
      Q (some (.inl (i_rem x1 x2))) σ) ∧
    (¬ ((i_rem x1 x2) = 0) →
      Q (some (.inl (wr ((i_rem x1 x2) + x2)))) σ))))) :
  wpM m_JMath_floorMod [.inl x1, .inl x2] σ Q :=
 wpM_of ml_45 (L := [some (.inl x1), some (.inl x2), none]) rfl
 (w_iload_n (p' := 1) f_45_0 rfl rfl
 (w_iload_n (p' := 2) f_45_1 rfl rfl
 (w_irem (p' := 3) f_45_2 h.1 rfl
 (w_istore_n (p' := 4) f_45_3 (L' := [some (.inl x1), some (.inl x2), some (.inl (i_rem x1 x2))]) rfl rfl
 (w_iload_n (p' := 5) f_45_4 rfl rfl
 (w_iload_n (p' := 6) f_45_5 rfl rfl
 (w_ixor (p' := 7) f_45_6 rfl
 (w_if (p' := 18) (q' := 10) f_45_7 rfl rfl
 (fun c102 => w_iload_n (p' := 19) f_45_18 rfl rfl
 (w_iret f_45_19 rk_45 (h.2.1 c102)))
 (fun c102 => w_iload_n (p' := 11) f_45_10 rfl rfl
 (w_if (p' := 18) (q' := 14) f_45_11 rfl rfl
 (fun c101 => w_iload_n (p' := 19) f_45_18 rfl rfl
 (w_iret f_45_19 rk_45 ((h.2.2 c102).1 c101)))
 (fun c101 => w_iload_n (p' := 15) f_45_14 rfl rfl
 (w_iload_n (p' := 16) f_45_15 rfl rfl
 (w_iadd (p' := 17) f_45_16 rfl
 (w_iret f_45_17 rk_45 ((h.2.2 c102).2 c101)))))))))))))))
/-! ClosedRooms.pastRow()LClosedRooms$World; -/
theorem f_46_0 : fnd 46 0 = some (0, .aload_n 0, 1, 0, 0, 0, 0) := ceB_eq (by decide +kernel)
theorem f_46_1 : fnd 46 1 = some (1, .getfield 58, 3, 0, 10, 10, 0) := ceB_eq (by decide +kernel)
theorem f_46_4 : fnd 46 4 = some (4, .aload_n 0, 1, 0, 0, 0, 0) := ceB_eq (by decide +kernel)
theorem f_46_5 : fnd 46 5 = some (5, .getfield 62, 3, 0, 11, 11, 0) := ceB_eq (by decide +kernel)
theorem f_46_8 : fnd 46 8 = some (8, .bipush 41, 2, 0, 0, 0, 0) := ceB_eq (by decide +kernel)
theorem f_46_10 : fnd 46 10 = some (10, .invokestatic 266, 3, 45, 2, 11, 0) := ceB_eq (by decide +kernel)
theorem f_46_13 : fnd 46 13 = some (13, .aaload, 1, 0, 0, 0, 0) := ceB_eq (by decide +kernel)
theorem f_46_14 : fnd 46 14 = some (14, .areturn, 1, 0, 0, 0, 0) := ceB_eq (by decide +kernel)
theorem rk_46 : rkm 46 = 3 := by decide +kernel
theorem ml_46 : (mth 46).2.1 = 1 := by decide +kernel
set_option maxRecDepth 100000 in
theorem T_X_pastRow (k0 i0 : Int) (σ : ST) (Q : Option AV → ST → Prop) (h :
  wpM m_JMath_floorMod [.inl (σ 0 k0 i0 11), .inl 41] σ (asI fun r101 s101 =>
  ((0 : Int) ≤ r101 ∧ (r101 : Int) < 41) ∧
  Q (some (.inr (.inr (12, (3 + r101), 0)))) s101)) :
  wpM m_X_pastRow [.inr (.inr (0, k0, i0))] σ Q :=
 wpM_of ml_46 (L := [some (.inr (.inr (0, k0, i0)))]) rfl
 (w_aload_n (p' := 1) f_46_0 rfl rfl
 (w_getfield (p' := 4) f_46_1 rfl (x := .inr (.inr (9, 0, 0))) rfl rfl
 (w_aload_n (p' := 5) f_46_4 rfl rfl
 (w_getfield (p' := 8) f_46_5 rfl (x := .inl (σ 0 k0 i0 11)) rfl rfl
 (w_bipush (p' := 10) f_46_8 rfl
 (w_callS (p' := 13) f_46_10 rfl rfl rfl (r := [.inr (.inr (9, 0, 0))]) rfl rfl (kI (.inl rk_45) fun r101 s101 h101 =>
 w_aaload (p' := 14) f_46_13 rfl (n := 41) rfl (x := (12, (3 + r101), 0)) rfl h101.1 rfl
 (w_aret f_46_14 rk_46 h101.2)) h))))))
/-! ClosedRooms$Page.take(LClosedRooms$Page;)V -/
theorem f_47_0 : fnd 47 0 = some (0, .aload_n 0, 1, 0, 0, 0, 0) := ceB_eq (by decide +kernel)
theorem f_47_1 : fnd 47 1 = some (1, .aload_n 1, 1, 0, 0, 0, 0) := ceB_eq (by decide +kernel)
theorem f_47_2 : fnd 47 2 = some (2, .getfield 19, 3, 6, 0, 0, 0) := ceB_eq (by decide +kernel)
theorem f_47_5 : fnd 47 5 = some (5, .putfield 19, 3, 6, 0, 0, 0) := ceB_eq (by decide +kernel)
theorem f_47_8 : fnd 47 8 = some (8, .aload_n 0, 1, 0, 0, 0, 0) := ceB_eq (by decide +kernel)
theorem f_47_9 : fnd 47 9 = some (9, .aload_n 1, 1, 0, 0, 0, 0) := ceB_eq (by decide +kernel)
theorem f_47_10 : fnd 47 10 = some (10, .getfield 23, 3, 6, 1, 1, 0) := ceB_eq (by decide +kernel)
theorem f_47_13 : fnd 47 13 = some (13, .putfield 23, 3, 6, 1, 1, 0) := ceB_eq (by decide +kernel)
theorem f_47_16 : fnd 47 16 = some (16, .aload_n 0, 1, 0, 0, 0, 0) := ceB_eq (by decide +kernel)
theorem f_47_17 : fnd 47 17 = some (17, .aload_n 1, 1, 0, 0, 0, 0) := ceB_eq (by decide +kernel)
theorem f_47_18 : fnd 47 18 = some (18, .getfield 26, 3, 6, 2, 2, 0) := ceB_eq (by decide +kernel)
theorem f_47_21 : fnd 47 21 = some (21, .putfield 26, 3, 6, 2, 2, 0) := ceB_eq (by decide +kernel)
theorem f_47_24 : fnd 47 24 = some (24, .aload_n 0, 1, 0, 0, 0, 0) := ceB_eq (by decide +kernel)
theorem f_47_25 : fnd 47 25 = some (25, .aload_n 1, 1, 0, 0, 0, 0) := ceB_eq (by decide +kernel)
theorem f_47_26 : fnd 47 26 = some (26, .getfield 29, 3, 6, 3, 3, 0) := ceB_eq (by decide +kernel)
theorem f_47_29 : fnd 47 29 = some (29, .putfield 29, 3, 6, 3, 3, 0) := ceB_eq (by decide +kernel)
theorem f_47_32 : fnd 47 32 = some (32, .aload_n 0, 1, 0, 0, 0, 0) := ceB_eq (by decide +kernel)
theorem f_47_33 : fnd 47 33 = some (33, .aload_n 1, 1, 0, 0, 0, 0) := ceB_eq (by decide +kernel)
theorem f_47_34 : fnd 47 34 = some (34, .getfield 32, 3, 6, 4, 4, 0) := ceB_eq (by decide +kernel)
theorem f_47_37 : fnd 47 37 = some (37, .putfield 32, 3, 6, 4, 4, 0) := ceB_eq (by decide +kernel)
theorem f_47_40 : fnd 47 40 = some (40, .aload_n 0, 1, 0, 0, 0, 0) := ceB_eq (by decide +kernel)
theorem f_47_41 : fnd 47 41 = some (41, .aload_n 1, 1, 0, 0, 0, 0) := ceB_eq (by decide +kernel)
theorem f_47_42 : fnd 47 42 = some (42, .getfield 35, 3, 6, 5, 5, 0) := ceB_eq (by decide +kernel)
theorem f_47_45 : fnd 47 45 = some (45, .putfield 35, 3, 6, 5, 5, 0) := ceB_eq (by decide +kernel)
theorem f_47_48 : fnd 47 48 = some (48, .aload_n 0, 1, 0, 0, 0, 0) := ceB_eq (by decide +kernel)
theorem f_47_49 : fnd 47 49 = some (49, .aload_n 1, 1, 0, 0, 0, 0) := ceB_eq (by decide +kernel)
theorem f_47_50 : fnd 47 50 = some (50, .getfield 39, 3, 6, 6, 6, 0) := ceB_eq (by decide +kernel)
theorem f_47_53 : fnd 47 53 = some (53, .putfield 39, 3, 6, 6, 6, 0) := ceB_eq (by decide +kernel)
theorem f_47_56 : fnd 47 56 = some (56, .aload_n 0, 1, 0, 0, 0, 0) := ceB_eq (by decide +kernel)
theorem f_47_57 : fnd 47 57 = some (57, .aload_n 1, 1, 0, 0, 0, 0) := ceB_eq (by decide +kernel)
theorem f_47_58 : fnd 47 58 = some (58, .getfield 42, 3, 6, 7, 7, 0) := ceB_eq (by decide +kernel)
theorem f_47_61 : fnd 47 61 = some (61, .putfield 42, 3, 6, 7, 7, 0) := ceB_eq (by decide +kernel)
theorem f_47_64 : fnd 47 64 = some (64, .aload_n 1, 1, 0, 0, 0, 0) := ceB_eq (by decide +kernel)
theorem f_47_65 : fnd 47 65 = some (65, .getfield 9, 3, 6, 8, 8, 0) := ceB_eq (by decide +kernel)
theorem f_47_68 : fnd 47 68 = some (68, .iconst 0, 1, 0, 0, 0, 0) := ceB_eq (by decide +kernel)
theorem f_47_69 : fnd 47 69 = some (69, .aload_n 0, 1, 0, 0, 0, 0) := ceB_eq (by decide +kernel)
theorem f_47_70 : fnd 47 70 = some (70, .getfield 9, 3, 6, 8, 8, 0) := ceB_eq (by decide +kernel)
theorem f_47_73 : fnd 47 73 = some (73, .iconst 0, 1, 0, 0, 0, 0) := ceB_eq (by decide +kernel)
theorem f_47_74 : fnd 47 74 = some (74, .iconst 4, 1, 0, 0, 0, 0) := ceB_eq (by decide +kernel)
theorem f_47_75 : fnd 47 75 = some (75, .invokestatic 45, 3, 900, 5, 0, 0) := ceB_eq (by decide +kernel)
theorem f_47_78 : fnd 47 78 = some (78, .return_, 1, 0, 0, 0, 0) := ceB_eq (by decide +kernel)
theorem rk_47 : rkm 47 = 4 := by decide +kernel
theorem ml_47 : (mth 47).2.1 = 2 := by decide +kernel
set_option maxRecDepth 100000 in
theorem T_Page_take (k0 i0 k1 i1 : Int) (σ : ST) (Q : Option AV → ST → Prop) (h :
  (((bz ((up (up (up (up (up σ 14 k0 i0 0 (σ 14 k1 i1 0)) 14 k0 i0 1 ((up σ 14 k0 i0 0 (σ 14 k1 i1 0)) 14 k1 i1 1)) 14 k0 i0 2 ((up (up σ 14 k0 i0 0 (σ 14 k1 i1 0)) 14 k0 i0 1 ((up σ 14 k0 i0 0 (σ 14 k1 i1 0)) 14 k1 i1 1)) 14 k1 i1 2)) 14 k0 i0 3 ((up (up (up σ 14 k0 i0 0 (σ 14 k1 i1 0)) 14 k0 i0 1 ((up σ 14 k0 i0 0 (σ 14 k1 i1 0)) 14 k1 i1 1)) 14 k0 i0 2 ((up (up σ 14 k0 i0 0 (σ 14 k1 i1 0)) 14 k0 i0 1 ((up σ 14 k0 i0 0 (σ 14 k1 i1 0)) 14 k1 i1 1)) 14 k1 i1 2)) 14 k1 i1 3)) 14 k0 i0 4 ((up (up (up (up σ 14 k0 i0 0 (σ 14 k1 i1 0)) 14 k0 i0 1 ((up σ 14 k0 i0 0 (σ 14 k1 i1 0)) 14 k1 i1 1)) 14 k0 i0 2 ((up (up σ 14 k0 i0 0 (σ 14 k1 i1 0)) 14 k0 i0 1 ((up σ 14 k0 i0 0 (σ 14 k1 i1 0)) 14 k1 i1 1)) 14 k1 i1 2)) 14 k0 i0 3 ((up (up (up σ 14 k0 i0 0 (σ 14 k1 i1 0)) 14 k0 i0 1 ((up σ 14 k0 i0 0 (σ 14 k1 i1 0)) 14 k1 i1 1)) 14 k0 i0 2 ((up (up σ 14 k0 i0 0 (σ 14 k1 i1 0)) 14 k0 i0 1 ((up σ 14 k0 i0 0 (σ 14 k1 i1 0)) 14 k1 i1 1)) 14 k1 i1 2)) 14 k1 i1 3)) 14 k1 i1 4)) 14 k1 i1 5)) : Int) = 0 ∨ ((bz ((up (up (up (up (up σ 14 k0 i0 0 (σ 14 k1 i1 0)) 14 k0 i0 1 ((up σ 14 k0 i0 0 (σ 14 k1 i1 0)) 14 k1 i1 1)) 14 k0 i0 2 ((up (up σ 14 k0 i0 0 (σ 14 k1 i1 0)) 14 k0 i0 1 ((up σ 14 k0 i0 0 (σ 14 k1 i1 0)) 14 k1 i1 1)) 14 k1 i1 2)) 14 k0 i0 3 ((up (up (up σ 14 k0 i0 0 (σ 14 k1 i1 0)) 14 k0 i0 1 ((up σ 14 k0 i0 0 (σ 14 k1 i1 0)) 14 k1 i1 1)) 14 k0 i0 2 ((up (up σ 14 k0 i0 0 (σ 14 k1 i1 0)) 14 k0 i0 1 ((up σ 14 k0 i0 0 (σ 14 k1 i1 0)) 14 k1 i1 1)) 14 k1 i1 2)) 14 k1 i1 3)) 14 k0 i0 4 ((up (up (up (up σ 14 k0 i0 0 (σ 14 k1 i1 0)) 14 k0 i0 1 ((up σ 14 k0 i0 0 (σ 14 k1 i1 0)) 14 k1 i1 1)) 14 k0 i0 2 ((up (up σ 14 k0 i0 0 (σ 14 k1 i1 0)) 14 k0 i0 1 ((up σ 14 k0 i0 0 (σ 14 k1 i1 0)) 14 k1 i1 1)) 14 k1 i1 2)) 14 k0 i0 3 ((up (up (up σ 14 k0 i0 0 (σ 14 k1 i1 0)) 14 k0 i0 1 ((up σ 14 k0 i0 0 (σ 14 k1 i1 0)) 14 k1 i1 1)) 14 k0 i0 2 ((up (up σ 14 k0 i0 0 (σ 14 k1 i1 0)) 14 k0 i0 1 ((up σ 14 k0 i0 0 (σ 14 k1 i1 0)) 14 k1 i1 1)) 14 k1 i1 2)) 14 k1 i1 3)) 14 k1 i1 4)) 14 k1 i1 5)) : Int) = 1) ∧
  ((0 : Int) ≤ 0 ∧ (0 : Int) ≤ 0 ∧ (0 : Int) ≤ 4 ∧ (0 : Int) + 4 ≤ 4 ∧ (0 : Int) + 4 ≤ 4) ∧
  Q none (cpy (up (up (up (up (up (up (up (up σ 14 k0 i0 0 (σ 14 k1 i1 0)) 14 k0 i0 1 ((up σ 14 k0 i0 0 (σ 14 k1 i1 0)) 14 k1 i1 1)) 14 k0 i0 2 ((up (up σ 14 k0 i0 0 (σ 14 k1 i1 0)) 14 k0 i0 1 ((up σ 14 k0 i0 0 (σ 14 k1 i1 0)) 14 k1 i1 1)) 14 k1 i1 2)) 14 k0 i0 3 ((up (up (up σ 14 k0 i0 0 (σ 14 k1 i1 0)) 14 k0 i0 1 ((up σ 14 k0 i0 0 (σ 14 k1 i1 0)) 14 k1 i1 1)) 14 k0 i0 2 ((up (up σ 14 k0 i0 0 (σ 14 k1 i1 0)) 14 k0 i0 1 ((up σ 14 k0 i0 0 (σ 14 k1 i1 0)) 14 k1 i1 1)) 14 k1 i1 2)) 14 k1 i1 3)) 14 k0 i0 4 ((up (up (up (up σ 14 k0 i0 0 (σ 14 k1 i1 0)) 14 k0 i0 1 ((up σ 14 k0 i0 0 (σ 14 k1 i1 0)) 14 k1 i1 1)) 14 k0 i0 2 ((up (up σ 14 k0 i0 0 (σ 14 k1 i1 0)) 14 k0 i0 1 ((up σ 14 k0 i0 0 (σ 14 k1 i1 0)) 14 k1 i1 1)) 14 k1 i1 2)) 14 k0 i0 3 ((up (up (up σ 14 k0 i0 0 (σ 14 k1 i1 0)) 14 k0 i0 1 ((up σ 14 k0 i0 0 (σ 14 k1 i1 0)) 14 k1 i1 1)) 14 k0 i0 2 ((up (up σ 14 k0 i0 0 (σ 14 k1 i1 0)) 14 k0 i0 1 ((up σ 14 k0 i0 0 (σ 14 k1 i1 0)) 14 k1 i1 1)) 14 k1 i1 2)) 14 k1 i1 3)) 14 k1 i1 4)) 14 k0 i0 5 (bz ((up (up (up (up (up σ 14 k0 i0 0 (σ 14 k1 i1 0)) 14 k0 i0 1 ((up σ 14 k0 i0 0 (σ 14 k1 i1 0)) 14 k1 i1 1)) 14 k0 i0 2 ((up (up σ 14 k0 i0 0 (σ 14 k1 i1 0)) 14 k0 i0 1 ((up σ 14 k0 i0 0 (σ 14 k1 i1 0)) 14 k1 i1 1)) 14 k1 i1 2)) 14 k0 i0 3 ((up (up (up σ 14 k0 i0 0 (σ 14 k1 i1 0)) 14 k0 i0 1 ((up σ 14 k0 i0 0 (σ 14 k1 i1 0)) 14 k1 i1 1)) 14 k0 i0 2 ((up (up σ 14 k0 i0 0 (σ 14 k1 i1 0)) 14 k0 i0 1 ((up σ 14 k0 i0 0 (σ 14 k1 i1 0)) 14 k1 i1 1)) 14 k1 i1 2)) 14 k1 i1 3)) 14 k0 i0 4 ((up (up (up (up σ 14 k0 i0 0 (σ 14 k1 i1 0)) 14 k0 i0 1 ((up σ 14 k0 i0 0 (σ 14 k1 i1 0)) 14 k1 i1 1)) 14 k0 i0 2 ((up (up σ 14 k0 i0 0 (σ 14 k1 i1 0)) 14 k0 i0 1 ((up σ 14 k0 i0 0 (σ 14 k1 i1 0)) 14 k1 i1 1)) 14 k1 i1 2)) 14 k0 i0 3 ((up (up (up σ 14 k0 i0 0 (σ 14 k1 i1 0)) 14 k0 i0 1 ((up σ 14 k0 i0 0 (σ 14 k1 i1 0)) 14 k1 i1 1)) 14 k0 i0 2 ((up (up σ 14 k0 i0 0 (σ 14 k1 i1 0)) 14 k0 i0 1 ((up σ 14 k0 i0 0 (σ 14 k1 i1 0)) 14 k1 i1 1)) 14 k1 i1 2)) 14 k1 i1 3)) 14 k1 i1 4)) 14 k1 i1 5))) 14 k0 i0 6 ((up (up (up (up (up (up σ 14 k0 i0 0 (σ 14 k1 i1 0)) 14 k0 i0 1 ((up σ 14 k0 i0 0 (σ 14 k1 i1 0)) 14 k1 i1 1)) 14 k0 i0 2 ((up (up σ 14 k0 i0 0 (σ 14 k1 i1 0)) 14 k0 i0 1 ((up σ 14 k0 i0 0 (σ 14 k1 i1 0)) 14 k1 i1 1)) 14 k1 i1 2)) 14 k0 i0 3 ((up (up (up σ 14 k0 i0 0 (σ 14 k1 i1 0)) 14 k0 i0 1 ((up σ 14 k0 i0 0 (σ 14 k1 i1 0)) 14 k1 i1 1)) 14 k0 i0 2 ((up (up σ 14 k0 i0 0 (σ 14 k1 i1 0)) 14 k0 i0 1 ((up σ 14 k0 i0 0 (σ 14 k1 i1 0)) 14 k1 i1 1)) 14 k1 i1 2)) 14 k1 i1 3)) 14 k0 i0 4 ((up (up (up (up σ 14 k0 i0 0 (σ 14 k1 i1 0)) 14 k0 i0 1 ((up σ 14 k0 i0 0 (σ 14 k1 i1 0)) 14 k1 i1 1)) 14 k0 i0 2 ((up (up σ 14 k0 i0 0 (σ 14 k1 i1 0)) 14 k0 i0 1 ((up σ 14 k0 i0 0 (σ 14 k1 i1 0)) 14 k1 i1 1)) 14 k1 i1 2)) 14 k0 i0 3 ((up (up (up σ 14 k0 i0 0 (σ 14 k1 i1 0)) 14 k0 i0 1 ((up σ 14 k0 i0 0 (σ 14 k1 i1 0)) 14 k1 i1 1)) 14 k0 i0 2 ((up (up σ 14 k0 i0 0 (σ 14 k1 i1 0)) 14 k0 i0 1 ((up σ 14 k0 i0 0 (σ 14 k1 i1 0)) 14 k1 i1 1)) 14 k1 i1 2)) 14 k1 i1 3)) 14 k1 i1 4)) 14 k0 i0 5 (bz ((up (up (up (up (up σ 14 k0 i0 0 (σ 14 k1 i1 0)) 14 k0 i0 1 ((up σ 14 k0 i0 0 (σ 14 k1 i1 0)) 14 k1 i1 1)) 14 k0 i0 2 ((up (up σ 14 k0 i0 0 (σ 14 k1 i1 0)) 14 k0 i0 1 ((up σ 14 k0 i0 0 (σ 14 k1 i1 0)) 14 k1 i1 1)) 14 k1 i1 2)) 14 k0 i0 3 ((up (up (up σ 14 k0 i0 0 (σ 14 k1 i1 0)) 14 k0 i0 1 ((up σ 14 k0 i0 0 (σ 14 k1 i1 0)) 14 k1 i1 1)) 14 k0 i0 2 ((up (up σ 14 k0 i0 0 (σ 14 k1 i1 0)) 14 k0 i0 1 ((up σ 14 k0 i0 0 (σ 14 k1 i1 0)) 14 k1 i1 1)) 14 k1 i1 2)) 14 k1 i1 3)) 14 k0 i0 4 ((up (up (up (up σ 14 k0 i0 0 (σ 14 k1 i1 0)) 14 k0 i0 1 ((up σ 14 k0 i0 0 (σ 14 k1 i1 0)) 14 k1 i1 1)) 14 k0 i0 2 ((up (up σ 14 k0 i0 0 (σ 14 k1 i1 0)) 14 k0 i0 1 ((up σ 14 k0 i0 0 (σ 14 k1 i1 0)) 14 k1 i1 1)) 14 k1 i1 2)) 14 k0 i0 3 ((up (up (up σ 14 k0 i0 0 (σ 14 k1 i1 0)) 14 k0 i0 1 ((up σ 14 k0 i0 0 (σ 14 k1 i1 0)) 14 k1 i1 1)) 14 k0 i0 2 ((up (up σ 14 k0 i0 0 (σ 14 k1 i1 0)) 14 k0 i0 1 ((up σ 14 k0 i0 0 (σ 14 k1 i1 0)) 14 k1 i1 1)) 14 k1 i1 2)) 14 k1 i1 3)) 14 k1 i1 4)) 14 k1 i1 5))) 14 k1 i1 6)) 14 k0 i0 7 ((up (up (up (up (up (up (up σ 14 k0 i0 0 (σ 14 k1 i1 0)) 14 k0 i0 1 ((up σ 14 k0 i0 0 (σ 14 k1 i1 0)) 14 k1 i1 1)) 14 k0 i0 2 ((up (up σ 14 k0 i0 0 (σ 14 k1 i1 0)) 14 k0 i0 1 ((up σ 14 k0 i0 0 (σ 14 k1 i1 0)) 14 k1 i1 1)) 14 k1 i1 2)) 14 k0 i0 3 ((up (up (up σ 14 k0 i0 0 (σ 14 k1 i1 0)) 14 k0 i0 1 ((up σ 14 k0 i0 0 (σ 14 k1 i1 0)) 14 k1 i1 1)) 14 k0 i0 2 ((up (up σ 14 k0 i0 0 (σ 14 k1 i1 0)) 14 k0 i0 1 ((up σ 14 k0 i0 0 (σ 14 k1 i1 0)) 14 k1 i1 1)) 14 k1 i1 2)) 14 k1 i1 3)) 14 k0 i0 4 ((up (up (up (up σ 14 k0 i0 0 (σ 14 k1 i1 0)) 14 k0 i0 1 ((up σ 14 k0 i0 0 (σ 14 k1 i1 0)) 14 k1 i1 1)) 14 k0 i0 2 ((up (up σ 14 k0 i0 0 (σ 14 k1 i1 0)) 14 k0 i0 1 ((up σ 14 k0 i0 0 (σ 14 k1 i1 0)) 14 k1 i1 1)) 14 k1 i1 2)) 14 k0 i0 3 ((up (up (up σ 14 k0 i0 0 (σ 14 k1 i1 0)) 14 k0 i0 1 ((up σ 14 k0 i0 0 (σ 14 k1 i1 0)) 14 k1 i1 1)) 14 k0 i0 2 ((up (up σ 14 k0 i0 0 (σ 14 k1 i1 0)) 14 k0 i0 1 ((up σ 14 k0 i0 0 (σ 14 k1 i1 0)) 14 k1 i1 1)) 14 k1 i1 2)) 14 k1 i1 3)) 14 k1 i1 4)) 14 k0 i0 5 (bz ((up (up (up (up (up σ 14 k0 i0 0 (σ 14 k1 i1 0)) 14 k0 i0 1 ((up σ 14 k0 i0 0 (σ 14 k1 i1 0)) 14 k1 i1 1)) 14 k0 i0 2 ((up (up σ 14 k0 i0 0 (σ 14 k1 i1 0)) 14 k0 i0 1 ((up σ 14 k0 i0 0 (σ 14 k1 i1 0)) 14 k1 i1 1)) 14 k1 i1 2)) 14 k0 i0 3 ((up (up (up σ 14 k0 i0 0 (σ 14 k1 i1 0)) 14 k0 i0 1 ((up σ 14 k0 i0 0 (σ 14 k1 i1 0)) 14 k1 i1 1)) 14 k0 i0 2 ((up (up σ 14 k0 i0 0 (σ 14 k1 i1 0)) 14 k0 i0 1 ((up σ 14 k0 i0 0 (σ 14 k1 i1 0)) 14 k1 i1 1)) 14 k1 i1 2)) 14 k1 i1 3)) 14 k0 i0 4 ((up (up (up (up σ 14 k0 i0 0 (σ 14 k1 i1 0)) 14 k0 i0 1 ((up σ 14 k0 i0 0 (σ 14 k1 i1 0)) 14 k1 i1 1)) 14 k0 i0 2 ((up (up σ 14 k0 i0 0 (σ 14 k1 i1 0)) 14 k0 i0 1 ((up σ 14 k0 i0 0 (σ 14 k1 i1 0)) 14 k1 i1 1)) 14 k1 i1 2)) 14 k0 i0 3 ((up (up (up σ 14 k0 i0 0 (σ 14 k1 i1 0)) 14 k0 i0 1 ((up σ 14 k0 i0 0 (σ 14 k1 i1 0)) 14 k1 i1 1)) 14 k0 i0 2 ((up (up σ 14 k0 i0 0 (σ 14 k1 i1 0)) 14 k0 i0 1 ((up σ 14 k0 i0 0 (σ 14 k1 i1 0)) 14 k1 i1 1)) 14 k1 i1 2)) 14 k1 i1 3)) 14 k1 i1 4)) 14 k1 i1 5))) 14 k0 i0 6 ((up (up (up (up (up (up σ 14 k0 i0 0 (σ 14 k1 i1 0)) 14 k0 i0 1 ((up σ 14 k0 i0 0 (σ 14 k1 i1 0)) 14 k1 i1 1)) 14 k0 i0 2 ((up (up σ 14 k0 i0 0 (σ 14 k1 i1 0)) 14 k0 i0 1 ((up σ 14 k0 i0 0 (σ 14 k1 i1 0)) 14 k1 i1 1)) 14 k1 i1 2)) 14 k0 i0 3 ((up (up (up σ 14 k0 i0 0 (σ 14 k1 i1 0)) 14 k0 i0 1 ((up σ 14 k0 i0 0 (σ 14 k1 i1 0)) 14 k1 i1 1)) 14 k0 i0 2 ((up (up σ 14 k0 i0 0 (σ 14 k1 i1 0)) 14 k0 i0 1 ((up σ 14 k0 i0 0 (σ 14 k1 i1 0)) 14 k1 i1 1)) 14 k1 i1 2)) 14 k1 i1 3)) 14 k0 i0 4 ((up (up (up (up σ 14 k0 i0 0 (σ 14 k1 i1 0)) 14 k0 i0 1 ((up σ 14 k0 i0 0 (σ 14 k1 i1 0)) 14 k1 i1 1)) 14 k0 i0 2 ((up (up σ 14 k0 i0 0 (σ 14 k1 i1 0)) 14 k0 i0 1 ((up σ 14 k0 i0 0 (σ 14 k1 i1 0)) 14 k1 i1 1)) 14 k1 i1 2)) 14 k0 i0 3 ((up (up (up σ 14 k0 i0 0 (σ 14 k1 i1 0)) 14 k0 i0 1 ((up σ 14 k0 i0 0 (σ 14 k1 i1 0)) 14 k1 i1 1)) 14 k0 i0 2 ((up (up σ 14 k0 i0 0 (σ 14 k1 i1 0)) 14 k0 i0 1 ((up σ 14 k0 i0 0 (σ 14 k1 i1 0)) 14 k1 i1 1)) 14 k1 i1 2)) 14 k1 i1 3)) 14 k1 i1 4)) 14 k0 i0 5 (bz ((up (up (up (up (up σ 14 k0 i0 0 (σ 14 k1 i1 0)) 14 k0 i0 1 ((up σ 14 k0 i0 0 (σ 14 k1 i1 0)) 14 k1 i1 1)) 14 k0 i0 2 ((up (up σ 14 k0 i0 0 (σ 14 k1 i1 0)) 14 k0 i0 1 ((up σ 14 k0 i0 0 (σ 14 k1 i1 0)) 14 k1 i1 1)) 14 k1 i1 2)) 14 k0 i0 3 ((up (up (up σ 14 k0 i0 0 (σ 14 k1 i1 0)) 14 k0 i0 1 ((up σ 14 k0 i0 0 (σ 14 k1 i1 0)) 14 k1 i1 1)) 14 k0 i0 2 ((up (up σ 14 k0 i0 0 (σ 14 k1 i1 0)) 14 k0 i0 1 ((up σ 14 k0 i0 0 (σ 14 k1 i1 0)) 14 k1 i1 1)) 14 k1 i1 2)) 14 k1 i1 3)) 14 k0 i0 4 ((up (up (up (up σ 14 k0 i0 0 (σ 14 k1 i1 0)) 14 k0 i0 1 ((up σ 14 k0 i0 0 (σ 14 k1 i1 0)) 14 k1 i1 1)) 14 k0 i0 2 ((up (up σ 14 k0 i0 0 (σ 14 k1 i1 0)) 14 k0 i0 1 ((up σ 14 k0 i0 0 (σ 14 k1 i1 0)) 14 k1 i1 1)) 14 k1 i1 2)) 14 k0 i0 3 ((up (up (up σ 14 k0 i0 0 (σ 14 k1 i1 0)) 14 k0 i0 1 ((up σ 14 k0 i0 0 (σ 14 k1 i1 0)) 14 k1 i1 1)) 14 k0 i0 2 ((up (up σ 14 k0 i0 0 (σ 14 k1 i1 0)) 14 k0 i0 1 ((up σ 14 k0 i0 0 (σ 14 k1 i1 0)) 14 k1 i1 1)) 14 k1 i1 2)) 14 k1 i1 3)) 14 k1 i1 4)) 14 k1 i1 5))) 14 k1 i1 6)) 14 k1 i1 7)) 15 k1 i1 0 15 k0 i0 0 4)) :
  wpM m_Page_take [.inr (.inr (14, k0, i0)), .inr (.inr (14, k1, i1))] σ Q :=
 wpM_of ml_47 (L := [some (.inr (.inr (14, k0, i0))), some (.inr (.inr (14, k1, i1)))]) rfl
 (w_aload_n (p' := 1) f_47_0 rfl rfl
 (w_aload_n (p' := 2) f_47_1 rfl rfl
 (w_getfield (p' := 5) f_47_2 rfl (x := .inl (σ 14 k1 i1 0)) rfl rfl
 (w_putI (p' := 8) f_47_5 rfl rfl (c' := 0) rfl rfl
 (w_aload_n (p' := 9) f_47_8 rfl rfl
 (w_aload_n (p' := 10) f_47_9 rfl rfl
 (w_getfield (p' := 13) f_47_10 rfl (x := .inl ((up σ 14 k0 i0 0 (σ 14 k1 i1 0)) 14 k1 i1 1)) rfl rfl
 (w_putI (p' := 16) f_47_13 rfl rfl (c' := 1) rfl rfl
 (w_aload_n (p' := 17) f_47_16 rfl rfl
 (w_aload_n (p' := 18) f_47_17 rfl rfl
 (w_getfield (p' := 21) f_47_18 rfl (x := .inl ((up (up σ 14 k0 i0 0 (σ 14 k1 i1 0)) 14 k0 i0 1 ((up σ 14 k0 i0 0 (σ 14 k1 i1 0)) 14 k1 i1 1)) 14 k1 i1 2)) rfl rfl
 (w_putI (p' := 24) f_47_21 rfl rfl (c' := 2) rfl rfl
 (w_aload_n (p' := 25) f_47_24 rfl rfl
 (w_aload_n (p' := 26) f_47_25 rfl rfl
 (w_getfield (p' := 29) f_47_26 rfl (x := .inl ((up (up (up σ 14 k0 i0 0 (σ 14 k1 i1 0)) 14 k0 i0 1 ((up σ 14 k0 i0 0 (σ 14 k1 i1 0)) 14 k1 i1 1)) 14 k0 i0 2 ((up (up σ 14 k0 i0 0 (σ 14 k1 i1 0)) 14 k0 i0 1 ((up σ 14 k0 i0 0 (σ 14 k1 i1 0)) 14 k1 i1 1)) 14 k1 i1 2)) 14 k1 i1 3)) rfl rfl
 (w_putI (p' := 32) f_47_29 rfl rfl (c' := 3) rfl rfl
 (w_aload_n (p' := 33) f_47_32 rfl rfl
 (w_aload_n (p' := 34) f_47_33 rfl rfl
 (w_getfield (p' := 37) f_47_34 rfl (x := .inl ((up (up (up (up σ 14 k0 i0 0 (σ 14 k1 i1 0)) 14 k0 i0 1 ((up σ 14 k0 i0 0 (σ 14 k1 i1 0)) 14 k1 i1 1)) 14 k0 i0 2 ((up (up σ 14 k0 i0 0 (σ 14 k1 i1 0)) 14 k0 i0 1 ((up σ 14 k0 i0 0 (σ 14 k1 i1 0)) 14 k1 i1 1)) 14 k1 i1 2)) 14 k0 i0 3 ((up (up (up σ 14 k0 i0 0 (σ 14 k1 i1 0)) 14 k0 i0 1 ((up σ 14 k0 i0 0 (σ 14 k1 i1 0)) 14 k1 i1 1)) 14 k0 i0 2 ((up (up σ 14 k0 i0 0 (σ 14 k1 i1 0)) 14 k0 i0 1 ((up σ 14 k0 i0 0 (σ 14 k1 i1 0)) 14 k1 i1 1)) 14 k1 i1 2)) 14 k1 i1 3)) 14 k1 i1 4)) rfl rfl
 (w_putI (p' := 40) f_47_37 rfl rfl (c' := 4) rfl rfl
 (w_aload_n (p' := 41) f_47_40 rfl rfl
 (w_aload_n (p' := 42) f_47_41 rfl rfl
 (w_getfield (p' := 45) f_47_42 rfl (x := .inl (bz ((up (up (up (up (up σ 14 k0 i0 0 (σ 14 k1 i1 0)) 14 k0 i0 1 ((up σ 14 k0 i0 0 (σ 14 k1 i1 0)) 14 k1 i1 1)) 14 k0 i0 2 ((up (up σ 14 k0 i0 0 (σ 14 k1 i1 0)) 14 k0 i0 1 ((up σ 14 k0 i0 0 (σ 14 k1 i1 0)) 14 k1 i1 1)) 14 k1 i1 2)) 14 k0 i0 3 ((up (up (up σ 14 k0 i0 0 (σ 14 k1 i1 0)) 14 k0 i0 1 ((up σ 14 k0 i0 0 (σ 14 k1 i1 0)) 14 k1 i1 1)) 14 k0 i0 2 ((up (up σ 14 k0 i0 0 (σ 14 k1 i1 0)) 14 k0 i0 1 ((up σ 14 k0 i0 0 (σ 14 k1 i1 0)) 14 k1 i1 1)) 14 k1 i1 2)) 14 k1 i1 3)) 14 k0 i0 4 ((up (up (up (up σ 14 k0 i0 0 (σ 14 k1 i1 0)) 14 k0 i0 1 ((up σ 14 k0 i0 0 (σ 14 k1 i1 0)) 14 k1 i1 1)) 14 k0 i0 2 ((up (up σ 14 k0 i0 0 (σ 14 k1 i1 0)) 14 k0 i0 1 ((up σ 14 k0 i0 0 (σ 14 k1 i1 0)) 14 k1 i1 1)) 14 k1 i1 2)) 14 k0 i0 3 ((up (up (up σ 14 k0 i0 0 (σ 14 k1 i1 0)) 14 k0 i0 1 ((up σ 14 k0 i0 0 (σ 14 k1 i1 0)) 14 k1 i1 1)) 14 k0 i0 2 ((up (up σ 14 k0 i0 0 (σ 14 k1 i1 0)) 14 k0 i0 1 ((up σ 14 k0 i0 0 (σ 14 k1 i1 0)) 14 k1 i1 1)) 14 k1 i1 2)) 14 k1 i1 3)) 14 k1 i1 4)) 14 k1 i1 5))) rfl rfl
 (w_putZ (p' := 48) f_47_45 rfl rfl (c' := 5) rfl h.1 rfl
 (w_aload_n (p' := 49) f_47_48 rfl rfl
 (w_aload_n (p' := 50) f_47_49 rfl rfl
 (w_getfield (p' := 53) f_47_50 rfl (x := .inl ((up (up (up (up (up (up σ 14 k0 i0 0 (σ 14 k1 i1 0)) 14 k0 i0 1 ((up σ 14 k0 i0 0 (σ 14 k1 i1 0)) 14 k1 i1 1)) 14 k0 i0 2 ((up (up σ 14 k0 i0 0 (σ 14 k1 i1 0)) 14 k0 i0 1 ((up σ 14 k0 i0 0 (σ 14 k1 i1 0)) 14 k1 i1 1)) 14 k1 i1 2)) 14 k0 i0 3 ((up (up (up σ 14 k0 i0 0 (σ 14 k1 i1 0)) 14 k0 i0 1 ((up σ 14 k0 i0 0 (σ 14 k1 i1 0)) 14 k1 i1 1)) 14 k0 i0 2 ((up (up σ 14 k0 i0 0 (σ 14 k1 i1 0)) 14 k0 i0 1 ((up σ 14 k0 i0 0 (σ 14 k1 i1 0)) 14 k1 i1 1)) 14 k1 i1 2)) 14 k1 i1 3)) 14 k0 i0 4 ((up (up (up (up σ 14 k0 i0 0 (σ 14 k1 i1 0)) 14 k0 i0 1 ((up σ 14 k0 i0 0 (σ 14 k1 i1 0)) 14 k1 i1 1)) 14 k0 i0 2 ((up (up σ 14 k0 i0 0 (σ 14 k1 i1 0)) 14 k0 i0 1 ((up σ 14 k0 i0 0 (σ 14 k1 i1 0)) 14 k1 i1 1)) 14 k1 i1 2)) 14 k0 i0 3 ((up (up (up σ 14 k0 i0 0 (σ 14 k1 i1 0)) 14 k0 i0 1 ((up σ 14 k0 i0 0 (σ 14 k1 i1 0)) 14 k1 i1 1)) 14 k0 i0 2 ((up (up σ 14 k0 i0 0 (σ 14 k1 i1 0)) 14 k0 i0 1 ((up σ 14 k0 i0 0 (σ 14 k1 i1 0)) 14 k1 i1 1)) 14 k1 i1 2)) 14 k1 i1 3)) 14 k1 i1 4)) 14 k0 i0 5 (bz ((up (up (up (up (up σ 14 k0 i0 0 (σ 14 k1 i1 0)) 14 k0 i0 1 ((up σ 14 k0 i0 0 (σ 14 k1 i1 0)) 14 k1 i1 1)) 14 k0 i0 2 ((up (up σ 14 k0 i0 0 (σ 14 k1 i1 0)) 14 k0 i0 1 ((up σ 14 k0 i0 0 (σ 14 k1 i1 0)) 14 k1 i1 1)) 14 k1 i1 2)) 14 k0 i0 3 ((up (up (up σ 14 k0 i0 0 (σ 14 k1 i1 0)) 14 k0 i0 1 ((up σ 14 k0 i0 0 (σ 14 k1 i1 0)) 14 k1 i1 1)) 14 k0 i0 2 ((up (up σ 14 k0 i0 0 (σ 14 k1 i1 0)) 14 k0 i0 1 ((up σ 14 k0 i0 0 (σ 14 k1 i1 0)) 14 k1 i1 1)) 14 k1 i1 2)) 14 k1 i1 3)) 14 k0 i0 4 ((up (up (up (up σ 14 k0 i0 0 (σ 14 k1 i1 0)) 14 k0 i0 1 ((up σ 14 k0 i0 0 (σ 14 k1 i1 0)) 14 k1 i1 1)) 14 k0 i0 2 ((up (up σ 14 k0 i0 0 (σ 14 k1 i1 0)) 14 k0 i0 1 ((up σ 14 k0 i0 0 (σ 14 k1 i1 0)) 14 k1 i1 1)) 14 k1 i1 2)) 14 k0 i0 3 ((up (up (up σ 14 k0 i0 0 (σ 14 k1 i1 0)) 14 k0 i0 1 ((up σ 14 k0 i0 0 (σ 14 k1 i1 0)) 14 k1 i1 1)) 14 k0 i0 2 ((up (up σ 14 k0 i0 0 (σ 14 k1 i1 0)) 14 k0 i0 1 ((up σ 14 k0 i0 0 (σ 14 k1 i1 0)) 14 k1 i1 1)) 14 k1 i1 2)) 14 k1 i1 3)) 14 k1 i1 4)) 14 k1 i1 5))) 14 k1 i1 6)) rfl rfl
 (w_putI (p' := 56) f_47_53 rfl rfl (c' := 6) rfl rfl
 (w_aload_n (p' := 57) f_47_56 rfl rfl
 (w_aload_n (p' := 58) f_47_57 rfl rfl
 (w_getfield (p' := 61) f_47_58 rfl (x := .inl ((up (up (up (up (up (up (up σ 14 k0 i0 0 (σ 14 k1 i1 0)) 14 k0 i0 1 ((up σ 14 k0 i0 0 (σ 14 k1 i1 0)) 14 k1 i1 1)) 14 k0 i0 2 ((up (up σ 14 k0 i0 0 (σ 14 k1 i1 0)) 14 k0 i0 1 ((up σ 14 k0 i0 0 (σ 14 k1 i1 0)) 14 k1 i1 1)) 14 k1 i1 2)) 14 k0 i0 3 ((up (up (up σ 14 k0 i0 0 (σ 14 k1 i1 0)) 14 k0 i0 1 ((up σ 14 k0 i0 0 (σ 14 k1 i1 0)) 14 k1 i1 1)) 14 k0 i0 2 ((up (up σ 14 k0 i0 0 (σ 14 k1 i1 0)) 14 k0 i0 1 ((up σ 14 k0 i0 0 (σ 14 k1 i1 0)) 14 k1 i1 1)) 14 k1 i1 2)) 14 k1 i1 3)) 14 k0 i0 4 ((up (up (up (up σ 14 k0 i0 0 (σ 14 k1 i1 0)) 14 k0 i0 1 ((up σ 14 k0 i0 0 (σ 14 k1 i1 0)) 14 k1 i1 1)) 14 k0 i0 2 ((up (up σ 14 k0 i0 0 (σ 14 k1 i1 0)) 14 k0 i0 1 ((up σ 14 k0 i0 0 (σ 14 k1 i1 0)) 14 k1 i1 1)) 14 k1 i1 2)) 14 k0 i0 3 ((up (up (up σ 14 k0 i0 0 (σ 14 k1 i1 0)) 14 k0 i0 1 ((up σ 14 k0 i0 0 (σ 14 k1 i1 0)) 14 k1 i1 1)) 14 k0 i0 2 ((up (up σ 14 k0 i0 0 (σ 14 k1 i1 0)) 14 k0 i0 1 ((up σ 14 k0 i0 0 (σ 14 k1 i1 0)) 14 k1 i1 1)) 14 k1 i1 2)) 14 k1 i1 3)) 14 k1 i1 4)) 14 k0 i0 5 (bz ((up (up (up (up (up σ 14 k0 i0 0 (σ 14 k1 i1 0)) 14 k0 i0 1 ((up σ 14 k0 i0 0 (σ 14 k1 i1 0)) 14 k1 i1 1)) 14 k0 i0 2 ((up (up σ 14 k0 i0 0 (σ 14 k1 i1 0)) 14 k0 i0 1 ((up σ 14 k0 i0 0 (σ 14 k1 i1 0)) 14 k1 i1 1)) 14 k1 i1 2)) 14 k0 i0 3 ((up (up (up σ 14 k0 i0 0 (σ 14 k1 i1 0)) 14 k0 i0 1 ((up σ 14 k0 i0 0 (σ 14 k1 i1 0)) 14 k1 i1 1)) 14 k0 i0 2 ((up (up σ 14 k0 i0 0 (σ 14 k1 i1 0)) 14 k0 i0 1 ((up σ 14 k0 i0 0 (σ 14 k1 i1 0)) 14 k1 i1 1)) 14 k1 i1 2)) 14 k1 i1 3)) 14 k0 i0 4 ((up (up (up (up σ 14 k0 i0 0 (σ 14 k1 i1 0)) 14 k0 i0 1 ((up σ 14 k0 i0 0 (σ 14 k1 i1 0)) 14 k1 i1 1)) 14 k0 i0 2 ((up (up σ 14 k0 i0 0 (σ 14 k1 i1 0)) 14 k0 i0 1 ((up σ 14 k0 i0 0 (σ 14 k1 i1 0)) 14 k1 i1 1)) 14 k1 i1 2)) 14 k0 i0 3 ((up (up (up σ 14 k0 i0 0 (σ 14 k1 i1 0)) 14 k0 i0 1 ((up σ 14 k0 i0 0 (σ 14 k1 i1 0)) 14 k1 i1 1)) 14 k0 i0 2 ((up (up σ 14 k0 i0 0 (σ 14 k1 i1 0)) 14 k0 i0 1 ((up σ 14 k0 i0 0 (σ 14 k1 i1 0)) 14 k1 i1 1)) 14 k1 i1 2)) 14 k1 i1 3)) 14 k1 i1 4)) 14 k1 i1 5))) 14 k0 i0 6 ((up (up (up (up (up (up σ 14 k0 i0 0 (σ 14 k1 i1 0)) 14 k0 i0 1 ((up σ 14 k0 i0 0 (σ 14 k1 i1 0)) 14 k1 i1 1)) 14 k0 i0 2 ((up (up σ 14 k0 i0 0 (σ 14 k1 i1 0)) 14 k0 i0 1 ((up σ 14 k0 i0 0 (σ 14 k1 i1 0)) 14 k1 i1 1)) 14 k1 i1 2)) 14 k0 i0 3 ((up (up (up σ 14 k0 i0 0 (σ 14 k1 i1 0)) 14 k0 i0 1 ((up σ 14 k0 i0 0 (σ 14 k1 i1 0)) 14 k1 i1 1)) 14 k0 i0 2 ((up (up σ 14 k0 i0 0 (σ 14 k1 i1 0)) 14 k0 i0 1 ((up σ 14 k0 i0 0 (σ 14 k1 i1 0)) 14 k1 i1 1)) 14 k1 i1 2)) 14 k1 i1 3)) 14 k0 i0 4 ((up (up (up (up σ 14 k0 i0 0 (σ 14 k1 i1 0)) 14 k0 i0 1 ((up σ 14 k0 i0 0 (σ 14 k1 i1 0)) 14 k1 i1 1)) 14 k0 i0 2 ((up (up σ 14 k0 i0 0 (σ 14 k1 i1 0)) 14 k0 i0 1 ((up σ 14 k0 i0 0 (σ 14 k1 i1 0)) 14 k1 i1 1)) 14 k1 i1 2)) 14 k0 i0 3 ((up (up (up σ 14 k0 i0 0 (σ 14 k1 i1 0)) 14 k0 i0 1 ((up σ 14 k0 i0 0 (σ 14 k1 i1 0)) 14 k1 i1 1)) 14 k0 i0 2 ((up (up σ 14 k0 i0 0 (σ 14 k1 i1 0)) 14 k0 i0 1 ((up σ 14 k0 i0 0 (σ 14 k1 i1 0)) 14 k1 i1 1)) 14 k1 i1 2)) 14 k1 i1 3)) 14 k1 i1 4)) 14 k0 i0 5 (bz ((up (up (up (up (up σ 14 k0 i0 0 (σ 14 k1 i1 0)) 14 k0 i0 1 ((up σ 14 k0 i0 0 (σ 14 k1 i1 0)) 14 k1 i1 1)) 14 k0 i0 2 ((up (up σ 14 k0 i0 0 (σ 14 k1 i1 0)) 14 k0 i0 1 ((up σ 14 k0 i0 0 (σ 14 k1 i1 0)) 14 k1 i1 1)) 14 k1 i1 2)) 14 k0 i0 3 ((up (up (up σ 14 k0 i0 0 (σ 14 k1 i1 0)) 14 k0 i0 1 ((up σ 14 k0 i0 0 (σ 14 k1 i1 0)) 14 k1 i1 1)) 14 k0 i0 2 ((up (up σ 14 k0 i0 0 (σ 14 k1 i1 0)) 14 k0 i0 1 ((up σ 14 k0 i0 0 (σ 14 k1 i1 0)) 14 k1 i1 1)) 14 k1 i1 2)) 14 k1 i1 3)) 14 k0 i0 4 ((up (up (up (up σ 14 k0 i0 0 (σ 14 k1 i1 0)) 14 k0 i0 1 ((up σ 14 k0 i0 0 (σ 14 k1 i1 0)) 14 k1 i1 1)) 14 k0 i0 2 ((up (up σ 14 k0 i0 0 (σ 14 k1 i1 0)) 14 k0 i0 1 ((up σ 14 k0 i0 0 (σ 14 k1 i1 0)) 14 k1 i1 1)) 14 k1 i1 2)) 14 k0 i0 3 ((up (up (up σ 14 k0 i0 0 (σ 14 k1 i1 0)) 14 k0 i0 1 ((up σ 14 k0 i0 0 (σ 14 k1 i1 0)) 14 k1 i1 1)) 14 k0 i0 2 ((up (up σ 14 k0 i0 0 (σ 14 k1 i1 0)) 14 k0 i0 1 ((up σ 14 k0 i0 0 (σ 14 k1 i1 0)) 14 k1 i1 1)) 14 k1 i1 2)) 14 k1 i1 3)) 14 k1 i1 4)) 14 k1 i1 5))) 14 k1 i1 6)) 14 k1 i1 7)) rfl rfl
 (w_putI (p' := 64) f_47_61 rfl rfl (c' := 7) rfl rfl
 (w_aload_n (p' := 65) f_47_64 rfl rfl
 (w_getfield (p' := 68) f_47_65 rfl (x := .inr (.inr (15, k1, i1))) rfl rfl
 (w_iconst (p' := 69) f_47_68 rfl
 (w_aload_n (p' := 70) f_47_69 rfl rfl
 (w_getfield (p' := 73) f_47_70 rfl (x := .inr (.inr (15, k0, i0))) rfl rfl
 (w_iconst (p' := 74) f_47_73 rfl
 (w_iconst (p' := 75) f_47_74 rfl
 (w_copy (p' := 78) f_47_75 rfl rfl (N := 4) rfl (N1 := 4) rfl rfl h.2.1 rfl
 (w_vret f_47_78 rk_47 h.2.2)))))))))))))))))))))))))))))))))))))))))
/-! ClosedRooms$Room.take(LClosedRooms$Room;)V -/
theorem f_48_0 : fnd 48 0 = some (0, .aload_n 0, 1, 0, 0, 0, 0) := ceB_eq (by decide +kernel)
theorem f_48_1 : fnd 48 1 = some (1, .aload_n 1, 1, 0, 0, 0, 0) := ceB_eq (by decide +kernel)
theorem f_48_2 : fnd 48 2 = some (2, .getfield 9, 3, 7, 0, 0, 0) := ceB_eq (by decide +kernel)
theorem f_48_5 : fnd 48 5 = some (5, .putfield 9, 3, 7, 0, 0, 0) := ceB_eq (by decide +kernel)
theorem f_48_8 : fnd 48 8 = some (8, .aload_n 0, 1, 0, 0, 0, 0) := ceB_eq (by decide +kernel)
theorem f_48_9 : fnd 48 9 = some (9, .aload_n 1, 1, 0, 0, 0, 0) := ceB_eq (by decide +kernel)
theorem f_48_10 : fnd 48 10 = some (10, .getfield 15, 3, 7, 1, 1, 0) := ceB_eq (by decide +kernel)
theorem f_48_13 : fnd 48 13 = some (13, .putfield 15, 3, 7, 1, 1, 0) := ceB_eq (by decide +kernel)
theorem f_48_16 : fnd 48 16 = some (16, .aload_n 0, 1, 0, 0, 0, 0) := ceB_eq (by decide +kernel)
theorem f_48_17 : fnd 48 17 = some (17, .aload_n 1, 1, 0, 0, 0, 0) := ceB_eq (by decide +kernel)
theorem f_48_18 : fnd 48 18 = some (18, .getfield 19, 3, 7, 2, 2, 0) := ceB_eq (by decide +kernel)
theorem f_48_21 : fnd 48 21 = some (21, .putfield 19, 3, 7, 2, 2, 0) := ceB_eq (by decide +kernel)
theorem f_48_24 : fnd 48 24 = some (24, .aload_n 0, 1, 0, 0, 0, 0) := ceB_eq (by decide +kernel)
theorem f_48_25 : fnd 48 25 = some (25, .aload_n 1, 1, 0, 0, 0, 0) := ceB_eq (by decide +kernel)
theorem f_48_26 : fnd 48 26 = some (26, .getfield 22, 3, 7, 3, 3, 0) := ceB_eq (by decide +kernel)
theorem f_48_29 : fnd 48 29 = some (29, .putfield 22, 3, 7, 3, 3, 0) := ceB_eq (by decide +kernel)
theorem f_48_32 : fnd 48 32 = some (32, .aload_n 0, 1, 0, 0, 0, 0) := ceB_eq (by decide +kernel)
theorem f_48_33 : fnd 48 33 = some (33, .aload_n 1, 1, 0, 0, 0, 0) := ceB_eq (by decide +kernel)
theorem f_48_34 : fnd 48 34 = some (34, .getfield 25, 3, 7, 4, 4, 0) := ceB_eq (by decide +kernel)
theorem f_48_37 : fnd 48 37 = some (37, .putfield 25, 3, 7, 4, 4, 0) := ceB_eq (by decide +kernel)
theorem f_48_40 : fnd 48 40 = some (40, .aload_n 0, 1, 0, 0, 0, 0) := ceB_eq (by decide +kernel)
theorem f_48_41 : fnd 48 41 = some (41, .aload_n 1, 1, 0, 0, 0, 0) := ceB_eq (by decide +kernel)
theorem f_48_42 : fnd 48 42 = some (42, .getfield 28, 3, 7, 5, 5, 0) := ceB_eq (by decide +kernel)
theorem f_48_45 : fnd 48 45 = some (45, .putfield 28, 3, 7, 5, 5, 0) := ceB_eq (by decide +kernel)
theorem f_48_48 : fnd 48 48 = some (48, .aload_n 0, 1, 0, 0, 0, 0) := ceB_eq (by decide +kernel)
theorem f_48_49 : fnd 48 49 = some (49, .aload_n 1, 1, 0, 0, 0, 0) := ceB_eq (by decide +kernel)
theorem f_48_50 : fnd 48 50 = some (50, .getfield 31, 3, 7, 6, 6, 0) := ceB_eq (by decide +kernel)
theorem f_48_53 : fnd 48 53 = some (53, .putfield 31, 3, 7, 6, 6, 0) := ceB_eq (by decide +kernel)
theorem f_48_56 : fnd 48 56 = some (56, .aload_n 1, 1, 0, 0, 0, 0) := ceB_eq (by decide +kernel)
theorem f_48_57 : fnd 48 57 = some (57, .getfield 34, 3, 7, 7, 7, 0) := ceB_eq (by decide +kernel)
theorem f_48_60 : fnd 48 60 = some (60, .iconst 0, 1, 0, 0, 0, 0) := ceB_eq (by decide +kernel)
theorem f_48_61 : fnd 48 61 = some (61, .aload_n 0, 1, 0, 0, 0, 0) := ceB_eq (by decide +kernel)
theorem f_48_62 : fnd 48 62 = some (62, .getfield 34, 3, 7, 7, 7, 0) := ceB_eq (by decide +kernel)
theorem f_48_65 : fnd 48 65 = some (65, .iconst 0, 1, 0, 0, 0, 0) := ceB_eq (by decide +kernel)
theorem f_48_66 : fnd 48 66 = some (66, .bipush 8, 2, 0, 0, 0, 0) := ceB_eq (by decide +kernel)
theorem f_48_68 : fnd 48 68 = some (68, .invokestatic 41, 3, 900, 5, 0, 0) := ceB_eq (by decide +kernel)
theorem f_48_71 : fnd 48 71 = some (71, .aload_n 1, 1, 0, 0, 0, 0) := ceB_eq (by decide +kernel)
theorem f_48_72 : fnd 48 72 = some (72, .getfield 38, 3, 7, 8, 8, 0) := ceB_eq (by decide +kernel)
theorem f_48_75 : fnd 48 75 = some (75, .iconst 0, 1, 0, 0, 0, 0) := ceB_eq (by decide +kernel)
theorem f_48_76 : fnd 48 76 = some (76, .aload_n 0, 1, 0, 0, 0, 0) := ceB_eq (by decide +kernel)
theorem f_48_77 : fnd 48 77 = some (77, .getfield 38, 3, 7, 8, 8, 0) := ceB_eq (by decide +kernel)
theorem f_48_80 : fnd 48 80 = some (80, .iconst 0, 1, 0, 0, 0, 0) := ceB_eq (by decide +kernel)
theorem f_48_81 : fnd 48 81 = some (81, .bipush 8, 2, 0, 0, 0, 0) := ceB_eq (by decide +kernel)
theorem f_48_83 : fnd 48 83 = some (83, .invokestatic 41, 3, 900, 5, 0, 0) := ceB_eq (by decide +kernel)
theorem f_48_86 : fnd 48 86 = some (86, .return_, 1, 0, 0, 0, 0) := ceB_eq (by decide +kernel)
theorem rk_48 : rkm 48 = 4 := by decide +kernel
theorem ml_48 : (mth 48).2.1 = 2 := by decide +kernel
set_option maxRecDepth 100000 in
theorem T_Room_take (k0 i0 k1 i1 : Int) (σ : ST) (Q : Option AV → ST → Prop) (h :
  (((bz (σ 17 k1 i1 0)) : Int) = 0 ∨ ((bz (σ 17 k1 i1 0)) : Int) = 1) ∧
  (((bz ((up (up (up σ 17 k0 i0 0 (bz (σ 17 k1 i1 0))) 17 k0 i0 1 ((up σ 17 k0 i0 0 (bz (σ 17 k1 i1 0))) 17 k1 i1 1)) 17 k0 i0 2 ((up (up σ 17 k0 i0 0 (bz (σ 17 k1 i1 0))) 17 k0 i0 1 ((up σ 17 k0 i0 0 (bz (σ 17 k1 i1 0))) 17 k1 i1 1)) 17 k1 i1 2)) 17 k1 i1 3)) : Int) = 0 ∨ ((bz ((up (up (up σ 17 k0 i0 0 (bz (σ 17 k1 i1 0))) 17 k0 i0 1 ((up σ 17 k0 i0 0 (bz (σ 17 k1 i1 0))) 17 k1 i1 1)) 17 k0 i0 2 ((up (up σ 17 k0 i0 0 (bz (σ 17 k1 i1 0))) 17 k0 i0 1 ((up σ 17 k0 i0 0 (bz (σ 17 k1 i1 0))) 17 k1 i1 1)) 17 k1 i1 2)) 17 k1 i1 3)) : Int) = 1) ∧
  (((bz ((up (up (up (up (up (up σ 17 k0 i0 0 (bz (σ 17 k1 i1 0))) 17 k0 i0 1 ((up σ 17 k0 i0 0 (bz (σ 17 k1 i1 0))) 17 k1 i1 1)) 17 k0 i0 2 ((up (up σ 17 k0 i0 0 (bz (σ 17 k1 i1 0))) 17 k0 i0 1 ((up σ 17 k0 i0 0 (bz (σ 17 k1 i1 0))) 17 k1 i1 1)) 17 k1 i1 2)) 17 k0 i0 3 (bz ((up (up (up σ 17 k0 i0 0 (bz (σ 17 k1 i1 0))) 17 k0 i0 1 ((up σ 17 k0 i0 0 (bz (σ 17 k1 i1 0))) 17 k1 i1 1)) 17 k0 i0 2 ((up (up σ 17 k0 i0 0 (bz (σ 17 k1 i1 0))) 17 k0 i0 1 ((up σ 17 k0 i0 0 (bz (σ 17 k1 i1 0))) 17 k1 i1 1)) 17 k1 i1 2)) 17 k1 i1 3))) 17 k0 i0 4 ((up (up (up (up σ 17 k0 i0 0 (bz (σ 17 k1 i1 0))) 17 k0 i0 1 ((up σ 17 k0 i0 0 (bz (σ 17 k1 i1 0))) 17 k1 i1 1)) 17 k0 i0 2 ((up (up σ 17 k0 i0 0 (bz (σ 17 k1 i1 0))) 17 k0 i0 1 ((up σ 17 k0 i0 0 (bz (σ 17 k1 i1 0))) 17 k1 i1 1)) 17 k1 i1 2)) 17 k0 i0 3 (bz ((up (up (up σ 17 k0 i0 0 (bz (σ 17 k1 i1 0))) 17 k0 i0 1 ((up σ 17 k0 i0 0 (bz (σ 17 k1 i1 0))) 17 k1 i1 1)) 17 k0 i0 2 ((up (up σ 17 k0 i0 0 (bz (σ 17 k1 i1 0))) 17 k0 i0 1 ((up σ 17 k0 i0 0 (bz (σ 17 k1 i1 0))) 17 k1 i1 1)) 17 k1 i1 2)) 17 k1 i1 3))) 17 k1 i1 4)) 17 k0 i0 5 ((up (up (up (up (up σ 17 k0 i0 0 (bz (σ 17 k1 i1 0))) 17 k0 i0 1 ((up σ 17 k0 i0 0 (bz (σ 17 k1 i1 0))) 17 k1 i1 1)) 17 k0 i0 2 ((up (up σ 17 k0 i0 0 (bz (σ 17 k1 i1 0))) 17 k0 i0 1 ((up σ 17 k0 i0 0 (bz (σ 17 k1 i1 0))) 17 k1 i1 1)) 17 k1 i1 2)) 17 k0 i0 3 (bz ((up (up (up σ 17 k0 i0 0 (bz (σ 17 k1 i1 0))) 17 k0 i0 1 ((up σ 17 k0 i0 0 (bz (σ 17 k1 i1 0))) 17 k1 i1 1)) 17 k0 i0 2 ((up (up σ 17 k0 i0 0 (bz (σ 17 k1 i1 0))) 17 k0 i0 1 ((up σ 17 k0 i0 0 (bz (σ 17 k1 i1 0))) 17 k1 i1 1)) 17 k1 i1 2)) 17 k1 i1 3))) 17 k0 i0 4 ((up (up (up (up σ 17 k0 i0 0 (bz (σ 17 k1 i1 0))) 17 k0 i0 1 ((up σ 17 k0 i0 0 (bz (σ 17 k1 i1 0))) 17 k1 i1 1)) 17 k0 i0 2 ((up (up σ 17 k0 i0 0 (bz (σ 17 k1 i1 0))) 17 k0 i0 1 ((up σ 17 k0 i0 0 (bz (σ 17 k1 i1 0))) 17 k1 i1 1)) 17 k1 i1 2)) 17 k0 i0 3 (bz ((up (up (up σ 17 k0 i0 0 (bz (σ 17 k1 i1 0))) 17 k0 i0 1 ((up σ 17 k0 i0 0 (bz (σ 17 k1 i1 0))) 17 k1 i1 1)) 17 k0 i0 2 ((up (up σ 17 k0 i0 0 (bz (σ 17 k1 i1 0))) 17 k0 i0 1 ((up σ 17 k0 i0 0 (bz (σ 17 k1 i1 0))) 17 k1 i1 1)) 17 k1 i1 2)) 17 k1 i1 3))) 17 k1 i1 4)) 17 k1 i1 5)) 17 k1 i1 6)) : Int) = 0 ∨ ((bz ((up (up (up (up (up (up σ 17 k0 i0 0 (bz (σ 17 k1 i1 0))) 17 k0 i0 1 ((up σ 17 k0 i0 0 (bz (σ 17 k1 i1 0))) 17 k1 i1 1)) 17 k0 i0 2 ((up (up σ 17 k0 i0 0 (bz (σ 17 k1 i1 0))) 17 k0 i0 1 ((up σ 17 k0 i0 0 (bz (σ 17 k1 i1 0))) 17 k1 i1 1)) 17 k1 i1 2)) 17 k0 i0 3 (bz ((up (up (up σ 17 k0 i0 0 (bz (σ 17 k1 i1 0))) 17 k0 i0 1 ((up σ 17 k0 i0 0 (bz (σ 17 k1 i1 0))) 17 k1 i1 1)) 17 k0 i0 2 ((up (up σ 17 k0 i0 0 (bz (σ 17 k1 i1 0))) 17 k0 i0 1 ((up σ 17 k0 i0 0 (bz (σ 17 k1 i1 0))) 17 k1 i1 1)) 17 k1 i1 2)) 17 k1 i1 3))) 17 k0 i0 4 ((up (up (up (up σ 17 k0 i0 0 (bz (σ 17 k1 i1 0))) 17 k0 i0 1 ((up σ 17 k0 i0 0 (bz (σ 17 k1 i1 0))) 17 k1 i1 1)) 17 k0 i0 2 ((up (up σ 17 k0 i0 0 (bz (σ 17 k1 i1 0))) 17 k0 i0 1 ((up σ 17 k0 i0 0 (bz (σ 17 k1 i1 0))) 17 k1 i1 1)) 17 k1 i1 2)) 17 k0 i0 3 (bz ((up (up (up σ 17 k0 i0 0 (bz (σ 17 k1 i1 0))) 17 k0 i0 1 ((up σ 17 k0 i0 0 (bz (σ 17 k1 i1 0))) 17 k1 i1 1)) 17 k0 i0 2 ((up (up σ 17 k0 i0 0 (bz (σ 17 k1 i1 0))) 17 k0 i0 1 ((up σ 17 k0 i0 0 (bz (σ 17 k1 i1 0))) 17 k1 i1 1)) 17 k1 i1 2)) 17 k1 i1 3))) 17 k1 i1 4)) 17 k0 i0 5 ((up (up (up (up (up σ 17 k0 i0 0 (bz (σ 17 k1 i1 0))) 17 k0 i0 1 ((up σ 17 k0 i0 0 (bz (σ 17 k1 i1 0))) 17 k1 i1 1)) 17 k0 i0 2 ((up (up σ 17 k0 i0 0 (bz (σ 17 k1 i1 0))) 17 k0 i0 1 ((up σ 17 k0 i0 0 (bz (σ 17 k1 i1 0))) 17 k1 i1 1)) 17 k1 i1 2)) 17 k0 i0 3 (bz ((up (up (up σ 17 k0 i0 0 (bz (σ 17 k1 i1 0))) 17 k0 i0 1 ((up σ 17 k0 i0 0 (bz (σ 17 k1 i1 0))) 17 k1 i1 1)) 17 k0 i0 2 ((up (up σ 17 k0 i0 0 (bz (σ 17 k1 i1 0))) 17 k0 i0 1 ((up σ 17 k0 i0 0 (bz (σ 17 k1 i1 0))) 17 k1 i1 1)) 17 k1 i1 2)) 17 k1 i1 3))) 17 k0 i0 4 ((up (up (up (up σ 17 k0 i0 0 (bz (σ 17 k1 i1 0))) 17 k0 i0 1 ((up σ 17 k0 i0 0 (bz (σ 17 k1 i1 0))) 17 k1 i1 1)) 17 k0 i0 2 ((up (up σ 17 k0 i0 0 (bz (σ 17 k1 i1 0))) 17 k0 i0 1 ((up σ 17 k0 i0 0 (bz (σ 17 k1 i1 0))) 17 k1 i1 1)) 17 k1 i1 2)) 17 k0 i0 3 (bz ((up (up (up σ 17 k0 i0 0 (bz (σ 17 k1 i1 0))) 17 k0 i0 1 ((up σ 17 k0 i0 0 (bz (σ 17 k1 i1 0))) 17 k1 i1 1)) 17 k0 i0 2 ((up (up σ 17 k0 i0 0 (bz (σ 17 k1 i1 0))) 17 k0 i0 1 ((up σ 17 k0 i0 0 (bz (σ 17 k1 i1 0))) 17 k1 i1 1)) 17 k1 i1 2)) 17 k1 i1 3))) 17 k1 i1 4)) 17 k1 i1 5)) 17 k1 i1 6)) : Int) = 1) ∧
  ((0 : Int) ≤ 0 ∧ (0 : Int) ≤ 0 ∧ (0 : Int) ≤ 8 ∧ (0 : Int) + 8 ≤ 8 ∧ (0 : Int) + 8 ≤ 8) ∧
  ((0 : Int) ≤ 0 ∧ (0 : Int) ≤ 0 ∧ (0 : Int) ≤ 8 ∧ (0 : Int) + 8 ≤ 8 ∧ (0 : Int) + 8 ≤ 8) ∧
  Q none (cpy (cpy (up (up (up (up (up (up (up σ 17 k0 i0 0 (bz (σ 17 k1 i1 0))) 17 k0 i0 1 ((up σ 17 k0 i0 0 (bz (σ 17 k1 i1 0))) 17 k1 i1 1)) 17 k0 i0 2 ((up (up σ 17 k0 i0 0 (bz (σ 17 k1 i1 0))) 17 k0 i0 1 ((up σ 17 k0 i0 0 (bz (σ 17 k1 i1 0))) 17 k1 i1 1)) 17 k1 i1 2)) 17 k0 i0 3 (bz ((up (up (up σ 17 k0 i0 0 (bz (σ 17 k1 i1 0))) 17 k0 i0 1 ((up σ 17 k0 i0 0 (bz (σ 17 k1 i1 0))) 17 k1 i1 1)) 17 k0 i0 2 ((up (up σ 17 k0 i0 0 (bz (σ 17 k1 i1 0))) 17 k0 i0 1 ((up σ 17 k0 i0 0 (bz (σ 17 k1 i1 0))) 17 k1 i1 1)) 17 k1 i1 2)) 17 k1 i1 3))) 17 k0 i0 4 ((up (up (up (up σ 17 k0 i0 0 (bz (σ 17 k1 i1 0))) 17 k0 i0 1 ((up σ 17 k0 i0 0 (bz (σ 17 k1 i1 0))) 17 k1 i1 1)) 17 k0 i0 2 ((up (up σ 17 k0 i0 0 (bz (σ 17 k1 i1 0))) 17 k0 i0 1 ((up σ 17 k0 i0 0 (bz (σ 17 k1 i1 0))) 17 k1 i1 1)) 17 k1 i1 2)) 17 k0 i0 3 (bz ((up (up (up σ 17 k0 i0 0 (bz (σ 17 k1 i1 0))) 17 k0 i0 1 ((up σ 17 k0 i0 0 (bz (σ 17 k1 i1 0))) 17 k1 i1 1)) 17 k0 i0 2 ((up (up σ 17 k0 i0 0 (bz (σ 17 k1 i1 0))) 17 k0 i0 1 ((up σ 17 k0 i0 0 (bz (σ 17 k1 i1 0))) 17 k1 i1 1)) 17 k1 i1 2)) 17 k1 i1 3))) 17 k1 i1 4)) 17 k0 i0 5 ((up (up (up (up (up σ 17 k0 i0 0 (bz (σ 17 k1 i1 0))) 17 k0 i0 1 ((up σ 17 k0 i0 0 (bz (σ 17 k1 i1 0))) 17 k1 i1 1)) 17 k0 i0 2 ((up (up σ 17 k0 i0 0 (bz (σ 17 k1 i1 0))) 17 k0 i0 1 ((up σ 17 k0 i0 0 (bz (σ 17 k1 i1 0))) 17 k1 i1 1)) 17 k1 i1 2)) 17 k0 i0 3 (bz ((up (up (up σ 17 k0 i0 0 (bz (σ 17 k1 i1 0))) 17 k0 i0 1 ((up σ 17 k0 i0 0 (bz (σ 17 k1 i1 0))) 17 k1 i1 1)) 17 k0 i0 2 ((up (up σ 17 k0 i0 0 (bz (σ 17 k1 i1 0))) 17 k0 i0 1 ((up σ 17 k0 i0 0 (bz (σ 17 k1 i1 0))) 17 k1 i1 1)) 17 k1 i1 2)) 17 k1 i1 3))) 17 k0 i0 4 ((up (up (up (up σ 17 k0 i0 0 (bz (σ 17 k1 i1 0))) 17 k0 i0 1 ((up σ 17 k0 i0 0 (bz (σ 17 k1 i1 0))) 17 k1 i1 1)) 17 k0 i0 2 ((up (up σ 17 k0 i0 0 (bz (σ 17 k1 i1 0))) 17 k0 i0 1 ((up σ 17 k0 i0 0 (bz (σ 17 k1 i1 0))) 17 k1 i1 1)) 17 k1 i1 2)) 17 k0 i0 3 (bz ((up (up (up σ 17 k0 i0 0 (bz (σ 17 k1 i1 0))) 17 k0 i0 1 ((up σ 17 k0 i0 0 (bz (σ 17 k1 i1 0))) 17 k1 i1 1)) 17 k0 i0 2 ((up (up σ 17 k0 i0 0 (bz (σ 17 k1 i1 0))) 17 k0 i0 1 ((up σ 17 k0 i0 0 (bz (σ 17 k1 i1 0))) 17 k1 i1 1)) 17 k1 i1 2)) 17 k1 i1 3))) 17 k1 i1 4)) 17 k1 i1 5)) 17 k0 i0 6 (bz ((up (up (up (up (up (up σ 17 k0 i0 0 (bz (σ 17 k1 i1 0))) 17 k0 i0 1 ((up σ 17 k0 i0 0 (bz (σ 17 k1 i1 0))) 17 k1 i1 1)) 17 k0 i0 2 ((up (up σ 17 k0 i0 0 (bz (σ 17 k1 i1 0))) 17 k0 i0 1 ((up σ 17 k0 i0 0 (bz (σ 17 k1 i1 0))) 17 k1 i1 1)) 17 k1 i1 2)) 17 k0 i0 3 (bz ((up (up (up σ 17 k0 i0 0 (bz (σ 17 k1 i1 0))) 17 k0 i0 1 ((up σ 17 k0 i0 0 (bz (σ 17 k1 i1 0))) 17 k1 i1 1)) 17 k0 i0 2 ((up (up σ 17 k0 i0 0 (bz (σ 17 k1 i1 0))) 17 k0 i0 1 ((up σ 17 k0 i0 0 (bz (σ 17 k1 i1 0))) 17 k1 i1 1)) 17 k1 i1 2)) 17 k1 i1 3))) 17 k0 i0 4 ((up (up (up (up σ 17 k0 i0 0 (bz (σ 17 k1 i1 0))) 17 k0 i0 1 ((up σ 17 k0 i0 0 (bz (σ 17 k1 i1 0))) 17 k1 i1 1)) 17 k0 i0 2 ((up (up σ 17 k0 i0 0 (bz (σ 17 k1 i1 0))) 17 k0 i0 1 ((up σ 17 k0 i0 0 (bz (σ 17 k1 i1 0))) 17 k1 i1 1)) 17 k1 i1 2)) 17 k0 i0 3 (bz ((up (up (up σ 17 k0 i0 0 (bz (σ 17 k1 i1 0))) 17 k0 i0 1 ((up σ 17 k0 i0 0 (bz (σ 17 k1 i1 0))) 17 k1 i1 1)) 17 k0 i0 2 ((up (up σ 17 k0 i0 0 (bz (σ 17 k1 i1 0))) 17 k0 i0 1 ((up σ 17 k0 i0 0 (bz (σ 17 k1 i1 0))) 17 k1 i1 1)) 17 k1 i1 2)) 17 k1 i1 3))) 17 k1 i1 4)) 17 k0 i0 5 ((up (up (up (up (up σ 17 k0 i0 0 (bz (σ 17 k1 i1 0))) 17 k0 i0 1 ((up σ 17 k0 i0 0 (bz (σ 17 k1 i1 0))) 17 k1 i1 1)) 17 k0 i0 2 ((up (up σ 17 k0 i0 0 (bz (σ 17 k1 i1 0))) 17 k0 i0 1 ((up σ 17 k0 i0 0 (bz (σ 17 k1 i1 0))) 17 k1 i1 1)) 17 k1 i1 2)) 17 k0 i0 3 (bz ((up (up (up σ 17 k0 i0 0 (bz (σ 17 k1 i1 0))) 17 k0 i0 1 ((up σ 17 k0 i0 0 (bz (σ 17 k1 i1 0))) 17 k1 i1 1)) 17 k0 i0 2 ((up (up σ 17 k0 i0 0 (bz (σ 17 k1 i1 0))) 17 k0 i0 1 ((up σ 17 k0 i0 0 (bz (σ 17 k1 i1 0))) 17 k1 i1 1)) 17 k1 i1 2)) 17 k1 i1 3))) 17 k0 i0 4 ((up (up (up (up σ 17 k0 i0 0 (bz (σ 17 k1 i1 0))) 17 k0 i0 1 ((up σ 17 k0 i0 0 (bz (σ 17 k1 i1 0))) 17 k1 i1 1)) 17 k0 i0 2 ((up (up σ 17 k0 i0 0 (bz (σ 17 k1 i1 0))) 17 k0 i0 1 ((up σ 17 k0 i0 0 (bz (σ 17 k1 i1 0))) 17 k1 i1 1)) 17 k1 i1 2)) 17 k0 i0 3 (bz ((up (up (up σ 17 k0 i0 0 (bz (σ 17 k1 i1 0))) 17 k0 i0 1 ((up σ 17 k0 i0 0 (bz (σ 17 k1 i1 0))) 17 k1 i1 1)) 17 k0 i0 2 ((up (up σ 17 k0 i0 0 (bz (σ 17 k1 i1 0))) 17 k0 i0 1 ((up σ 17 k0 i0 0 (bz (σ 17 k1 i1 0))) 17 k1 i1 1)) 17 k1 i1 2)) 17 k1 i1 3))) 17 k1 i1 4)) 17 k1 i1 5)) 17 k1 i1 6))) 18 k1 i1 0 18 k0 i0 0 8) 19 k1 i1 0 19 k0 i0 0 8)) :
  wpM m_Room_take [.inr (.inr (17, k0, i0)), .inr (.inr (17, k1, i1))] σ Q :=
 wpM_of ml_48 (L := [some (.inr (.inr (17, k0, i0))), some (.inr (.inr (17, k1, i1)))]) rfl
 (w_aload_n (p' := 1) f_48_0 rfl rfl
 (w_aload_n (p' := 2) f_48_1 rfl rfl
 (w_getfield (p' := 5) f_48_2 rfl (x := .inl (bz (σ 17 k1 i1 0))) rfl rfl
 (w_putZ (p' := 8) f_48_5 rfl rfl (c' := 0) rfl h.1 rfl
 (w_aload_n (p' := 9) f_48_8 rfl rfl
 (w_aload_n (p' := 10) f_48_9 rfl rfl
 (w_getfield (p' := 13) f_48_10 rfl (x := .inl ((up σ 17 k0 i0 0 (bz (σ 17 k1 i1 0))) 17 k1 i1 1)) rfl rfl
 (w_putI (p' := 16) f_48_13 rfl rfl (c' := 1) rfl rfl
 (w_aload_n (p' := 17) f_48_16 rfl rfl
 (w_aload_n (p' := 18) f_48_17 rfl rfl
 (w_getfield (p' := 21) f_48_18 rfl (x := .inl ((up (up σ 17 k0 i0 0 (bz (σ 17 k1 i1 0))) 17 k0 i0 1 ((up σ 17 k0 i0 0 (bz (σ 17 k1 i1 0))) 17 k1 i1 1)) 17 k1 i1 2)) rfl rfl
 (w_putI (p' := 24) f_48_21 rfl rfl (c' := 2) rfl rfl
 (w_aload_n (p' := 25) f_48_24 rfl rfl
 (w_aload_n (p' := 26) f_48_25 rfl rfl
 (w_getfield (p' := 29) f_48_26 rfl (x := .inl (bz ((up (up (up σ 17 k0 i0 0 (bz (σ 17 k1 i1 0))) 17 k0 i0 1 ((up σ 17 k0 i0 0 (bz (σ 17 k1 i1 0))) 17 k1 i1 1)) 17 k0 i0 2 ((up (up σ 17 k0 i0 0 (bz (σ 17 k1 i1 0))) 17 k0 i0 1 ((up σ 17 k0 i0 0 (bz (σ 17 k1 i1 0))) 17 k1 i1 1)) 17 k1 i1 2)) 17 k1 i1 3))) rfl rfl
 (w_putZ (p' := 32) f_48_29 rfl rfl (c' := 3) rfl h.2.1 rfl
 (w_aload_n (p' := 33) f_48_32 rfl rfl
 (w_aload_n (p' := 34) f_48_33 rfl rfl
 (w_getfield (p' := 37) f_48_34 rfl (x := .inl ((up (up (up (up σ 17 k0 i0 0 (bz (σ 17 k1 i1 0))) 17 k0 i0 1 ((up σ 17 k0 i0 0 (bz (σ 17 k1 i1 0))) 17 k1 i1 1)) 17 k0 i0 2 ((up (up σ 17 k0 i0 0 (bz (σ 17 k1 i1 0))) 17 k0 i0 1 ((up σ 17 k0 i0 0 (bz (σ 17 k1 i1 0))) 17 k1 i1 1)) 17 k1 i1 2)) 17 k0 i0 3 (bz ((up (up (up σ 17 k0 i0 0 (bz (σ 17 k1 i1 0))) 17 k0 i0 1 ((up σ 17 k0 i0 0 (bz (σ 17 k1 i1 0))) 17 k1 i1 1)) 17 k0 i0 2 ((up (up σ 17 k0 i0 0 (bz (σ 17 k1 i1 0))) 17 k0 i0 1 ((up σ 17 k0 i0 0 (bz (σ 17 k1 i1 0))) 17 k1 i1 1)) 17 k1 i1 2)) 17 k1 i1 3))) 17 k1 i1 4)) rfl rfl
 (w_putI (p' := 40) f_48_37 rfl rfl (c' := 4) rfl rfl
 (w_aload_n (p' := 41) f_48_40 rfl rfl
 (w_aload_n (p' := 42) f_48_41 rfl rfl
 (w_getfield (p' := 45) f_48_42 rfl (x := .inl ((up (up (up (up (up σ 17 k0 i0 0 (bz (σ 17 k1 i1 0))) 17 k0 i0 1 ((up σ 17 k0 i0 0 (bz (σ 17 k1 i1 0))) 17 k1 i1 1)) 17 k0 i0 2 ((up (up σ 17 k0 i0 0 (bz (σ 17 k1 i1 0))) 17 k0 i0 1 ((up σ 17 k0 i0 0 (bz (σ 17 k1 i1 0))) 17 k1 i1 1)) 17 k1 i1 2)) 17 k0 i0 3 (bz ((up (up (up σ 17 k0 i0 0 (bz (σ 17 k1 i1 0))) 17 k0 i0 1 ((up σ 17 k0 i0 0 (bz (σ 17 k1 i1 0))) 17 k1 i1 1)) 17 k0 i0 2 ((up (up σ 17 k0 i0 0 (bz (σ 17 k1 i1 0))) 17 k0 i0 1 ((up σ 17 k0 i0 0 (bz (σ 17 k1 i1 0))) 17 k1 i1 1)) 17 k1 i1 2)) 17 k1 i1 3))) 17 k0 i0 4 ((up (up (up (up σ 17 k0 i0 0 (bz (σ 17 k1 i1 0))) 17 k0 i0 1 ((up σ 17 k0 i0 0 (bz (σ 17 k1 i1 0))) 17 k1 i1 1)) 17 k0 i0 2 ((up (up σ 17 k0 i0 0 (bz (σ 17 k1 i1 0))) 17 k0 i0 1 ((up σ 17 k0 i0 0 (bz (σ 17 k1 i1 0))) 17 k1 i1 1)) 17 k1 i1 2)) 17 k0 i0 3 (bz ((up (up (up σ 17 k0 i0 0 (bz (σ 17 k1 i1 0))) 17 k0 i0 1 ((up σ 17 k0 i0 0 (bz (σ 17 k1 i1 0))) 17 k1 i1 1)) 17 k0 i0 2 ((up (up σ 17 k0 i0 0 (bz (σ 17 k1 i1 0))) 17 k0 i0 1 ((up σ 17 k0 i0 0 (bz (σ 17 k1 i1 0))) 17 k1 i1 1)) 17 k1 i1 2)) 17 k1 i1 3))) 17 k1 i1 4)) 17 k1 i1 5)) rfl rfl
 (w_putI (p' := 48) f_48_45 rfl rfl (c' := 5) rfl rfl
 (w_aload_n (p' := 49) f_48_48 rfl rfl
 (w_aload_n (p' := 50) f_48_49 rfl rfl
 (w_getfield (p' := 53) f_48_50 rfl (x := .inl (bz ((up (up (up (up (up (up σ 17 k0 i0 0 (bz (σ 17 k1 i1 0))) 17 k0 i0 1 ((up σ 17 k0 i0 0 (bz (σ 17 k1 i1 0))) 17 k1 i1 1)) 17 k0 i0 2 ((up (up σ 17 k0 i0 0 (bz (σ 17 k1 i1 0))) 17 k0 i0 1 ((up σ 17 k0 i0 0 (bz (σ 17 k1 i1 0))) 17 k1 i1 1)) 17 k1 i1 2)) 17 k0 i0 3 (bz ((up (up (up σ 17 k0 i0 0 (bz (σ 17 k1 i1 0))) 17 k0 i0 1 ((up σ 17 k0 i0 0 (bz (σ 17 k1 i1 0))) 17 k1 i1 1)) 17 k0 i0 2 ((up (up σ 17 k0 i0 0 (bz (σ 17 k1 i1 0))) 17 k0 i0 1 ((up σ 17 k0 i0 0 (bz (σ 17 k1 i1 0))) 17 k1 i1 1)) 17 k1 i1 2)) 17 k1 i1 3))) 17 k0 i0 4 ((up (up (up (up σ 17 k0 i0 0 (bz (σ 17 k1 i1 0))) 17 k0 i0 1 ((up σ 17 k0 i0 0 (bz (σ 17 k1 i1 0))) 17 k1 i1 1)) 17 k0 i0 2 ((up (up σ 17 k0 i0 0 (bz (σ 17 k1 i1 0))) 17 k0 i0 1 ((up σ 17 k0 i0 0 (bz (σ 17 k1 i1 0))) 17 k1 i1 1)) 17 k1 i1 2)) 17 k0 i0 3 (bz ((up (up (up σ 17 k0 i0 0 (bz (σ 17 k1 i1 0))) 17 k0 i0 1 ((up σ 17 k0 i0 0 (bz (σ 17 k1 i1 0))) 17 k1 i1 1)) 17 k0 i0 2 ((up (up σ 17 k0 i0 0 (bz (σ 17 k1 i1 0))) 17 k0 i0 1 ((up σ 17 k0 i0 0 (bz (σ 17 k1 i1 0))) 17 k1 i1 1)) 17 k1 i1 2)) 17 k1 i1 3))) 17 k1 i1 4)) 17 k0 i0 5 ((up (up (up (up (up σ 17 k0 i0 0 (bz (σ 17 k1 i1 0))) 17 k0 i0 1 ((up σ 17 k0 i0 0 (bz (σ 17 k1 i1 0))) 17 k1 i1 1)) 17 k0 i0 2 ((up (up σ 17 k0 i0 0 (bz (σ 17 k1 i1 0))) 17 k0 i0 1 ((up σ 17 k0 i0 0 (bz (σ 17 k1 i1 0))) 17 k1 i1 1)) 17 k1 i1 2)) 17 k0 i0 3 (bz ((up (up (up σ 17 k0 i0 0 (bz (σ 17 k1 i1 0))) 17 k0 i0 1 ((up σ 17 k0 i0 0 (bz (σ 17 k1 i1 0))) 17 k1 i1 1)) 17 k0 i0 2 ((up (up σ 17 k0 i0 0 (bz (σ 17 k1 i1 0))) 17 k0 i0 1 ((up σ 17 k0 i0 0 (bz (σ 17 k1 i1 0))) 17 k1 i1 1)) 17 k1 i1 2)) 17 k1 i1 3))) 17 k0 i0 4 ((up (up (up (up σ 17 k0 i0 0 (bz (σ 17 k1 i1 0))) 17 k0 i0 1 ((up σ 17 k0 i0 0 (bz (σ 17 k1 i1 0))) 17 k1 i1 1)) 17 k0 i0 2 ((up (up σ 17 k0 i0 0 (bz (σ 17 k1 i1 0))) 17 k0 i0 1 ((up σ 17 k0 i0 0 (bz (σ 17 k1 i1 0))) 17 k1 i1 1)) 17 k1 i1 2)) 17 k0 i0 3 (bz ((up (up (up σ 17 k0 i0 0 (bz (σ 17 k1 i1 0))) 17 k0 i0 1 ((up σ 17 k0 i0 0 (bz (σ 17 k1 i1 0))) 17 k1 i1 1)) 17 k0 i0 2 ((up (up σ 17 k0 i0 0 (bz (σ 17 k1 i1 0))) 17 k0 i0 1 ((up σ 17 k0 i0 0 (bz (σ 17 k1 i1 0))) 17 k1 i1 1)) 17 k1 i1 2)) 17 k1 i1 3))) 17 k1 i1 4)) 17 k1 i1 5)) 17 k1 i1 6))) rfl rfl
 (w_putZ (p' := 56) f_48_53 rfl rfl (c' := 6) rfl h.2.2.1 rfl
 (w_aload_n (p' := 57) f_48_56 rfl rfl
 (w_getfield (p' := 60) f_48_57 rfl (x := .inr (.inr (18, k1, i1))) rfl rfl
 (w_iconst (p' := 61) f_48_60 rfl
 (w_aload_n (p' := 62) f_48_61 rfl rfl
 (w_getfield (p' := 65) f_48_62 rfl (x := .inr (.inr (18, k0, i0))) rfl rfl
 (w_iconst (p' := 66) f_48_65 rfl
 (w_bipush (p' := 68) f_48_66 rfl
 (w_copy (p' := 71) f_48_68 rfl rfl (N := 8) rfl (N1 := 8) rfl rfl h.2.2.2.1 rfl
 (w_aload_n (p' := 72) f_48_71 rfl rfl
 (w_getfield (p' := 75) f_48_72 rfl (x := .inr (.inr (19, k1, i1))) rfl rfl
 (w_iconst (p' := 76) f_48_75 rfl
 (w_aload_n (p' := 77) f_48_76 rfl rfl
 (w_getfield (p' := 80) f_48_77 rfl (x := .inr (.inr (19, k0, i0))) rfl rfl
 (w_iconst (p' := 81) f_48_80 rfl
 (w_bipush (p' := 83) f_48_81 rfl
 (w_copy (p' := 86) f_48_83 rfl rfl (N := 8) rfl (N1 := 8) rfl rfl h.2.2.2.2.1 rfl
 (w_vret f_48_86 rk_48 h.2.2.2.2.2)))))))))))))))))))))))))))))))))))))))))))))
/-! ClosedRooms$Core.take(LClosedRooms$Core;)V -/
theorem f_49_0 : fnd 49 0 = some (0, .aload_n 0, 1, 0, 0, 0, 0) := ceB_eq (by decide +kernel)
theorem f_49_1 : fnd 49 1 = some (1, .aload_n 1, 1, 0, 0, 0, 0) := ceB_eq (by decide +kernel)
theorem f_49_2 : fnd 49 2 = some (2, .getfield 9, 3, 8, 0, 0, 0) := ceB_eq (by decide +kernel)
theorem f_49_5 : fnd 49 5 = some (5, .putfield 9, 3, 8, 0, 0, 0) := ceB_eq (by decide +kernel)
theorem f_49_8 : fnd 49 8 = some (8, .aload_n 0, 1, 0, 0, 0, 0) := ceB_eq (by decide +kernel)
theorem f_49_9 : fnd 49 9 = some (9, .aload_n 1, 1, 0, 0, 0, 0) := ceB_eq (by decide +kernel)
theorem f_49_10 : fnd 49 10 = some (10, .getfield 15, 3, 8, 1, 1, 0) := ceB_eq (by decide +kernel)
theorem f_49_13 : fnd 49 13 = some (13, .putfield 15, 3, 8, 1, 1, 0) := ceB_eq (by decide +kernel)
theorem f_49_16 : fnd 49 16 = some (16, .aload_n 0, 1, 0, 0, 0, 0) := ceB_eq (by decide +kernel)
theorem f_49_17 : fnd 49 17 = some (17, .aload_n 1, 1, 0, 0, 0, 0) := ceB_eq (by decide +kernel)
theorem f_49_18 : fnd 49 18 = some (18, .getfield 18, 3, 8, 2, 2, 0) := ceB_eq (by decide +kernel)
theorem f_49_21 : fnd 49 21 = some (21, .putfield 18, 3, 8, 2, 2, 0) := ceB_eq (by decide +kernel)
theorem f_49_24 : fnd 49 24 = some (24, .aload_n 0, 1, 0, 0, 0, 0) := ceB_eq (by decide +kernel)
theorem f_49_25 : fnd 49 25 = some (25, .aload_n 1, 1, 0, 0, 0, 0) := ceB_eq (by decide +kernel)
theorem f_49_26 : fnd 49 26 = some (26, .getfield 21, 3, 8, 3, 3, 0) := ceB_eq (by decide +kernel)
theorem f_49_29 : fnd 49 29 = some (29, .putfield 21, 3, 8, 3, 3, 0) := ceB_eq (by decide +kernel)
theorem f_49_32 : fnd 49 32 = some (32, .aload_n 0, 1, 0, 0, 0, 0) := ceB_eq (by decide +kernel)
theorem f_49_33 : fnd 49 33 = some (33, .aload_n 1, 1, 0, 0, 0, 0) := ceB_eq (by decide +kernel)
theorem f_49_34 : fnd 49 34 = some (34, .getfield 24, 3, 8, 4, 4, 0) := ceB_eq (by decide +kernel)
theorem f_49_37 : fnd 49 37 = some (37, .putfield 24, 3, 8, 4, 4, 0) := ceB_eq (by decide +kernel)
theorem f_49_40 : fnd 49 40 = some (40, .aload_n 1, 1, 0, 0, 0, 0) := ceB_eq (by decide +kernel)
theorem f_49_41 : fnd 49 41 = some (41, .getfield 27, 3, 8, 5, 5, 0) := ceB_eq (by decide +kernel)
theorem f_49_44 : fnd 49 44 = some (44, .iconst 0, 1, 0, 0, 0, 0) := ceB_eq (by decide +kernel)
theorem f_49_45 : fnd 49 45 = some (45, .aload_n 0, 1, 0, 0, 0, 0) := ceB_eq (by decide +kernel)
theorem f_49_46 : fnd 49 46 = some (46, .getfield 27, 3, 8, 5, 5, 0) := ceB_eq (by decide +kernel)
theorem f_49_49 : fnd 49 49 = some (49, .iconst 0, 1, 0, 0, 0, 0) := ceB_eq (by decide +kernel)
theorem f_49_50 : fnd 49 50 = some (50, .iconst 3, 1, 0, 0, 0, 0) := ceB_eq (by decide +kernel)
theorem f_49_51 : fnd 49 51 = some (51, .invokestatic 37, 3, 900, 5, 0, 0) := ceB_eq (by decide +kernel)
theorem f_49_54 : fnd 49 54 = some (54, .aload_n 1, 1, 0, 0, 0, 0) := ceB_eq (by decide +kernel)
theorem f_49_55 : fnd 49 55 = some (55, .getfield 31, 3, 8, 6, 6, 0) := ceB_eq (by decide +kernel)
theorem f_49_58 : fnd 49 58 = some (58, .iconst 0, 1, 0, 0, 0, 0) := ceB_eq (by decide +kernel)
theorem f_49_59 : fnd 49 59 = some (59, .aload_n 0, 1, 0, 0, 0, 0) := ceB_eq (by decide +kernel)
theorem f_49_60 : fnd 49 60 = some (60, .getfield 31, 3, 8, 6, 6, 0) := ceB_eq (by decide +kernel)
theorem f_49_63 : fnd 49 63 = some (63, .iconst 0, 1, 0, 0, 0, 0) := ceB_eq (by decide +kernel)
theorem f_49_64 : fnd 49 64 = some (64, .iconst 3, 1, 0, 0, 0, 0) := ceB_eq (by decide +kernel)
theorem f_49_65 : fnd 49 65 = some (65, .invokestatic 37, 3, 900, 5, 0, 0) := ceB_eq (by decide +kernel)
theorem f_49_68 : fnd 49 68 = some (68, .return_, 1, 0, 0, 0, 0) := ceB_eq (by decide +kernel)
theorem rk_49 : rkm 49 = 4 := by decide +kernel
theorem ml_49 : (mth 49).2.1 = 2 := by decide +kernel
set_option maxRecDepth 100000 in
theorem T_Core_take (k0 i0 k1 i1 : Int) (σ : ST) (Q : Option AV → ST → Prop) (h :
  ((0 : Int) ≤ 0 ∧ (0 : Int) ≤ 0 ∧ (0 : Int) ≤ 3 ∧ (0 : Int) + 3 ≤ 3 ∧ (0 : Int) + 3 ≤ 3) ∧
  ((0 : Int) ≤ 0 ∧ (0 : Int) ≤ 0 ∧ (0 : Int) ≤ 3 ∧ (0 : Int) + 3 ≤ 3 ∧ (0 : Int) + 3 ≤ 3) ∧
  Q none (cpy (cpy (up (up (up (up (up σ 21 k0 i0 0 (σ 21 k1 i1 0)) 21 k0 i0 1 ((up σ 21 k0 i0 0 (σ 21 k1 i1 0)) 21 k1 i1 1)) 21 k0 i0 2 ((up (up σ 21 k0 i0 0 (σ 21 k1 i1 0)) 21 k0 i0 1 ((up σ 21 k0 i0 0 (σ 21 k1 i1 0)) 21 k1 i1 1)) 21 k1 i1 2)) 21 k0 i0 3 ((up (up (up σ 21 k0 i0 0 (σ 21 k1 i1 0)) 21 k0 i0 1 ((up σ 21 k0 i0 0 (σ 21 k1 i1 0)) 21 k1 i1 1)) 21 k0 i0 2 ((up (up σ 21 k0 i0 0 (σ 21 k1 i1 0)) 21 k0 i0 1 ((up σ 21 k0 i0 0 (σ 21 k1 i1 0)) 21 k1 i1 1)) 21 k1 i1 2)) 21 k1 i1 3)) 21 k0 i0 4 ((up (up (up (up σ 21 k0 i0 0 (σ 21 k1 i1 0)) 21 k0 i0 1 ((up σ 21 k0 i0 0 (σ 21 k1 i1 0)) 21 k1 i1 1)) 21 k0 i0 2 ((up (up σ 21 k0 i0 0 (σ 21 k1 i1 0)) 21 k0 i0 1 ((up σ 21 k0 i0 0 (σ 21 k1 i1 0)) 21 k1 i1 1)) 21 k1 i1 2)) 21 k0 i0 3 ((up (up (up σ 21 k0 i0 0 (σ 21 k1 i1 0)) 21 k0 i0 1 ((up σ 21 k0 i0 0 (σ 21 k1 i1 0)) 21 k1 i1 1)) 21 k0 i0 2 ((up (up σ 21 k0 i0 0 (σ 21 k1 i1 0)) 21 k0 i0 1 ((up σ 21 k0 i0 0 (σ 21 k1 i1 0)) 21 k1 i1 1)) 21 k1 i1 2)) 21 k1 i1 3)) 21 k1 i1 4)) 22 k1 i1 0 22 k0 i0 0 3) 23 k1 i1 0 23 k0 i0 0 3)) :
  wpM m_Core_take [.inr (.inr (21, k0, i0)), .inr (.inr (21, k1, i1))] σ Q :=
 wpM_of ml_49 (L := [some (.inr (.inr (21, k0, i0))), some (.inr (.inr (21, k1, i1)))]) rfl
 (w_aload_n (p' := 1) f_49_0 rfl rfl
 (w_aload_n (p' := 2) f_49_1 rfl rfl
 (w_getfield (p' := 5) f_49_2 rfl (x := .inl (σ 21 k1 i1 0)) rfl rfl
 (w_putI (p' := 8) f_49_5 rfl rfl (c' := 0) rfl rfl
 (w_aload_n (p' := 9) f_49_8 rfl rfl
 (w_aload_n (p' := 10) f_49_9 rfl rfl
 (w_getfield (p' := 13) f_49_10 rfl (x := .inl ((up σ 21 k0 i0 0 (σ 21 k1 i1 0)) 21 k1 i1 1)) rfl rfl
 (w_putI (p' := 16) f_49_13 rfl rfl (c' := 1) rfl rfl
 (w_aload_n (p' := 17) f_49_16 rfl rfl
 (w_aload_n (p' := 18) f_49_17 rfl rfl
 (w_getfield (p' := 21) f_49_18 rfl (x := .inl ((up (up σ 21 k0 i0 0 (σ 21 k1 i1 0)) 21 k0 i0 1 ((up σ 21 k0 i0 0 (σ 21 k1 i1 0)) 21 k1 i1 1)) 21 k1 i1 2)) rfl rfl
 (w_putI (p' := 24) f_49_21 rfl rfl (c' := 2) rfl rfl
 (w_aload_n (p' := 25) f_49_24 rfl rfl
 (w_aload_n (p' := 26) f_49_25 rfl rfl
 (w_getfield (p' := 29) f_49_26 rfl (x := .inl ((up (up (up σ 21 k0 i0 0 (σ 21 k1 i1 0)) 21 k0 i0 1 ((up σ 21 k0 i0 0 (σ 21 k1 i1 0)) 21 k1 i1 1)) 21 k0 i0 2 ((up (up σ 21 k0 i0 0 (σ 21 k1 i1 0)) 21 k0 i0 1 ((up σ 21 k0 i0 0 (σ 21 k1 i1 0)) 21 k1 i1 1)) 21 k1 i1 2)) 21 k1 i1 3)) rfl rfl
 (w_putI (p' := 32) f_49_29 rfl rfl (c' := 3) rfl rfl
 (w_aload_n (p' := 33) f_49_32 rfl rfl
 (w_aload_n (p' := 34) f_49_33 rfl rfl
 (w_getfield (p' := 37) f_49_34 rfl (x := .inl ((up (up (up (up σ 21 k0 i0 0 (σ 21 k1 i1 0)) 21 k0 i0 1 ((up σ 21 k0 i0 0 (σ 21 k1 i1 0)) 21 k1 i1 1)) 21 k0 i0 2 ((up (up σ 21 k0 i0 0 (σ 21 k1 i1 0)) 21 k0 i0 1 ((up σ 21 k0 i0 0 (σ 21 k1 i1 0)) 21 k1 i1 1)) 21 k1 i1 2)) 21 k0 i0 3 ((up (up (up σ 21 k0 i0 0 (σ 21 k1 i1 0)) 21 k0 i0 1 ((up σ 21 k0 i0 0 (σ 21 k1 i1 0)) 21 k1 i1 1)) 21 k0 i0 2 ((up (up σ 21 k0 i0 0 (σ 21 k1 i1 0)) 21 k0 i0 1 ((up σ 21 k0 i0 0 (σ 21 k1 i1 0)) 21 k1 i1 1)) 21 k1 i1 2)) 21 k1 i1 3)) 21 k1 i1 4)) rfl rfl
 (w_putI (p' := 40) f_49_37 rfl rfl (c' := 4) rfl rfl
 (w_aload_n (p' := 41) f_49_40 rfl rfl
 (w_getfield (p' := 44) f_49_41 rfl (x := .inr (.inr (22, k1, i1))) rfl rfl
 (w_iconst (p' := 45) f_49_44 rfl
 (w_aload_n (p' := 46) f_49_45 rfl rfl
 (w_getfield (p' := 49) f_49_46 rfl (x := .inr (.inr (22, k0, i0))) rfl rfl
 (w_iconst (p' := 50) f_49_49 rfl
 (w_iconst (p' := 51) f_49_50 rfl
 (w_copy (p' := 54) f_49_51 rfl rfl (N := 3) rfl (N1 := 3) rfl rfl h.1 rfl
 (w_aload_n (p' := 55) f_49_54 rfl rfl
 (w_getfield (p' := 58) f_49_55 rfl (x := .inr (.inr (23, k1, i1))) rfl rfl
 (w_iconst (p' := 59) f_49_58 rfl
 (w_aload_n (p' := 60) f_49_59 rfl rfl
 (w_getfield (p' := 63) f_49_60 rfl (x := .inr (.inr (23, k0, i0))) rfl rfl
 (w_iconst (p' := 64) f_49_63 rfl
 (w_iconst (p' := 65) f_49_64 rfl
 (w_copy (p' := 68) f_49_65 rfl rfl (N := 3) rfl (N1 := 3) rfl rfl h.2.1 rfl
 (w_vret f_49_68 rk_49 h.2.2)))))))))))))))))))))))))))))))))))))
/-! ClosedRooms$Copy.take(LClosedRooms$Copy;)V -/
theorem f_50_0 : fnd 50 0 = some (0, .aload_n 0, 1, 0, 0, 0, 0) := ceB_eq (by decide +kernel)
theorem f_50_1 : fnd 50 1 = some (1, .aload_n 1, 1, 0, 0, 0, 0) := ceB_eq (by decide +kernel)
theorem f_50_2 : fnd 50 2 = some (2, .getfield 9, 3, 9, 0, 0, 0) := ceB_eq (by decide +kernel)
theorem f_50_5 : fnd 50 5 = some (5, .putfield 9, 3, 9, 0, 0, 0) := ceB_eq (by decide +kernel)
theorem f_50_8 : fnd 50 8 = some (8, .aload_n 0, 1, 0, 0, 0, 0) := ceB_eq (by decide +kernel)
theorem f_50_9 : fnd 50 9 = some (9, .aload_n 1, 1, 0, 0, 0, 0) := ceB_eq (by decide +kernel)
theorem f_50_10 : fnd 50 10 = some (10, .getfield 15, 3, 9, 1, 1, 0) := ceB_eq (by decide +kernel)
theorem f_50_13 : fnd 50 13 = some (13, .putfield 15, 3, 9, 1, 1, 0) := ceB_eq (by decide +kernel)
theorem f_50_16 : fnd 50 16 = some (16, .aload_n 0, 1, 0, 0, 0, 0) := ceB_eq (by decide +kernel)
theorem f_50_17 : fnd 50 17 = some (17, .aload_n 1, 1, 0, 0, 0, 0) := ceB_eq (by decide +kernel)
theorem f_50_18 : fnd 50 18 = some (18, .getfield 19, 3, 9, 2, 2, 0) := ceB_eq (by decide +kernel)
theorem f_50_21 : fnd 50 21 = some (21, .putfield 19, 3, 9, 2, 2, 0) := ceB_eq (by decide +kernel)
theorem f_50_24 : fnd 50 24 = some (24, .aload_n 0, 1, 0, 0, 0, 0) := ceB_eq (by decide +kernel)
theorem f_50_25 : fnd 50 25 = some (25, .aload_n 1, 1, 0, 0, 0, 0) := ceB_eq (by decide +kernel)
theorem f_50_26 : fnd 50 26 = some (26, .getfield 22, 3, 9, 3, 3, 0) := ceB_eq (by decide +kernel)
theorem f_50_29 : fnd 50 29 = some (29, .putfield 22, 3, 9, 3, 3, 0) := ceB_eq (by decide +kernel)
theorem f_50_32 : fnd 50 32 = some (32, .aload_n 0, 1, 0, 0, 0, 0) := ceB_eq (by decide +kernel)
theorem f_50_33 : fnd 50 33 = some (33, .aload_n 1, 1, 0, 0, 0, 0) := ceB_eq (by decide +kernel)
theorem f_50_34 : fnd 50 34 = some (34, .getfield 25, 3, 9, 4, 4, 0) := ceB_eq (by decide +kernel)
theorem f_50_37 : fnd 50 37 = some (37, .putfield 25, 3, 9, 4, 4, 0) := ceB_eq (by decide +kernel)
theorem f_50_40 : fnd 50 40 = some (40, .aload_n 0, 1, 0, 0, 0, 0) := ceB_eq (by decide +kernel)
theorem f_50_41 : fnd 50 41 = some (41, .aload_n 1, 1, 0, 0, 0, 0) := ceB_eq (by decide +kernel)
theorem f_50_42 : fnd 50 42 = some (42, .getfield 28, 3, 9, 5, 5, 0) := ceB_eq (by decide +kernel)
theorem f_50_45 : fnd 50 45 = some (45, .putfield 28, 3, 9, 5, 5, 0) := ceB_eq (by decide +kernel)
theorem f_50_48 : fnd 50 48 = some (48, .aload_n 0, 1, 0, 0, 0, 0) := ceB_eq (by decide +kernel)
theorem f_50_49 : fnd 50 49 = some (49, .aload_n 1, 1, 0, 0, 0, 0) := ceB_eq (by decide +kernel)
theorem f_50_50 : fnd 50 50 = some (50, .getfield 31, 3, 9, 6, 6, 0) := ceB_eq (by decide +kernel)
theorem f_50_53 : fnd 50 53 = some (53, .putfield 31, 3, 9, 6, 6, 0) := ceB_eq (by decide +kernel)
theorem f_50_56 : fnd 50 56 = some (56, .aload_n 0, 1, 0, 0, 0, 0) := ceB_eq (by decide +kernel)
theorem f_50_57 : fnd 50 57 = some (57, .aload_n 1, 1, 0, 0, 0, 0) := ceB_eq (by decide +kernel)
theorem f_50_58 : fnd 50 58 = some (58, .getfield 34, 3, 9, 7, 7, 0) := ceB_eq (by decide +kernel)
theorem f_50_61 : fnd 50 61 = some (61, .putfield 34, 3, 9, 7, 7, 0) := ceB_eq (by decide +kernel)
theorem f_50_64 : fnd 50 64 = some (64, .aload_n 0, 1, 0, 0, 0, 0) := ceB_eq (by decide +kernel)
theorem f_50_65 : fnd 50 65 = some (65, .aload_n 1, 1, 0, 0, 0, 0) := ceB_eq (by decide +kernel)
theorem f_50_66 : fnd 50 66 = some (66, .getfield 37, 3, 9, 8, 8, 0) := ceB_eq (by decide +kernel)
theorem f_50_69 : fnd 50 69 = some (69, .putfield 37, 3, 9, 8, 8, 0) := ceB_eq (by decide +kernel)
theorem f_50_72 : fnd 50 72 = some (72, .return_, 1, 0, 0, 0, 0) := ceB_eq (by decide +kernel)
theorem rk_50 : rkm 50 = 4 := by decide +kernel
theorem ml_50 : (mth 50).2.1 = 2 := by decide +kernel
set_option maxRecDepth 100000 in
theorem T_Copy_take (k0 i0 k1 i1 : Int) (σ : ST) (Q : Option AV → ST → Prop) (h :
  (((bz (σ 25 k1 i1 0)) : Int) = 0 ∨ ((bz (σ 25 k1 i1 0)) : Int) = 1) ∧
  (((bz ((up (up (up (up (up (up σ 25 k0 i0 0 (bz (σ 25 k1 i1 0))) 25 k0 i0 1 ((up σ 25 k0 i0 0 (bz (σ 25 k1 i1 0))) 25 k1 i1 1)) 25 k0 i0 2 ((up (up σ 25 k0 i0 0 (bz (σ 25 k1 i1 0))) 25 k0 i0 1 ((up σ 25 k0 i0 0 (bz (σ 25 k1 i1 0))) 25 k1 i1 1)) 25 k1 i1 2)) 25 k0 i0 3 ((up (up (up σ 25 k0 i0 0 (bz (σ 25 k1 i1 0))) 25 k0 i0 1 ((up σ 25 k0 i0 0 (bz (σ 25 k1 i1 0))) 25 k1 i1 1)) 25 k0 i0 2 ((up (up σ 25 k0 i0 0 (bz (σ 25 k1 i1 0))) 25 k0 i0 1 ((up σ 25 k0 i0 0 (bz (σ 25 k1 i1 0))) 25 k1 i1 1)) 25 k1 i1 2)) 25 k1 i1 3)) 25 k0 i0 4 ((up (up (up (up σ 25 k0 i0 0 (bz (σ 25 k1 i1 0))) 25 k0 i0 1 ((up σ 25 k0 i0 0 (bz (σ 25 k1 i1 0))) 25 k1 i1 1)) 25 k0 i0 2 ((up (up σ 25 k0 i0 0 (bz (σ 25 k1 i1 0))) 25 k0 i0 1 ((up σ 25 k0 i0 0 (bz (σ 25 k1 i1 0))) 25 k1 i1 1)) 25 k1 i1 2)) 25 k0 i0 3 ((up (up (up σ 25 k0 i0 0 (bz (σ 25 k1 i1 0))) 25 k0 i0 1 ((up σ 25 k0 i0 0 (bz (σ 25 k1 i1 0))) 25 k1 i1 1)) 25 k0 i0 2 ((up (up σ 25 k0 i0 0 (bz (σ 25 k1 i1 0))) 25 k0 i0 1 ((up σ 25 k0 i0 0 (bz (σ 25 k1 i1 0))) 25 k1 i1 1)) 25 k1 i1 2)) 25 k1 i1 3)) 25 k1 i1 4)) 25 k0 i0 5 ((up (up (up (up (up σ 25 k0 i0 0 (bz (σ 25 k1 i1 0))) 25 k0 i0 1 ((up σ 25 k0 i0 0 (bz (σ 25 k1 i1 0))) 25 k1 i1 1)) 25 k0 i0 2 ((up (up σ 25 k0 i0 0 (bz (σ 25 k1 i1 0))) 25 k0 i0 1 ((up σ 25 k0 i0 0 (bz (σ 25 k1 i1 0))) 25 k1 i1 1)) 25 k1 i1 2)) 25 k0 i0 3 ((up (up (up σ 25 k0 i0 0 (bz (σ 25 k1 i1 0))) 25 k0 i0 1 ((up σ 25 k0 i0 0 (bz (σ 25 k1 i1 0))) 25 k1 i1 1)) 25 k0 i0 2 ((up (up σ 25 k0 i0 0 (bz (σ 25 k1 i1 0))) 25 k0 i0 1 ((up σ 25 k0 i0 0 (bz (σ 25 k1 i1 0))) 25 k1 i1 1)) 25 k1 i1 2)) 25 k1 i1 3)) 25 k0 i0 4 ((up (up (up (up σ 25 k0 i0 0 (bz (σ 25 k1 i1 0))) 25 k0 i0 1 ((up σ 25 k0 i0 0 (bz (σ 25 k1 i1 0))) 25 k1 i1 1)) 25 k0 i0 2 ((up (up σ 25 k0 i0 0 (bz (σ 25 k1 i1 0))) 25 k0 i0 1 ((up σ 25 k0 i0 0 (bz (σ 25 k1 i1 0))) 25 k1 i1 1)) 25 k1 i1 2)) 25 k0 i0 3 ((up (up (up σ 25 k0 i0 0 (bz (σ 25 k1 i1 0))) 25 k0 i0 1 ((up σ 25 k0 i0 0 (bz (σ 25 k1 i1 0))) 25 k1 i1 1)) 25 k0 i0 2 ((up (up σ 25 k0 i0 0 (bz (σ 25 k1 i1 0))) 25 k0 i0 1 ((up σ 25 k0 i0 0 (bz (σ 25 k1 i1 0))) 25 k1 i1 1)) 25 k1 i1 2)) 25 k1 i1 3)) 25 k1 i1 4)) 25 k1 i1 5)) 25 k1 i1 6)) : Int) = 0 ∨ ((bz ((up (up (up (up (up (up σ 25 k0 i0 0 (bz (σ 25 k1 i1 0))) 25 k0 i0 1 ((up σ 25 k0 i0 0 (bz (σ 25 k1 i1 0))) 25 k1 i1 1)) 25 k0 i0 2 ((up (up σ 25 k0 i0 0 (bz (σ 25 k1 i1 0))) 25 k0 i0 1 ((up σ 25 k0 i0 0 (bz (σ 25 k1 i1 0))) 25 k1 i1 1)) 25 k1 i1 2)) 25 k0 i0 3 ((up (up (up σ 25 k0 i0 0 (bz (σ 25 k1 i1 0))) 25 k0 i0 1 ((up σ 25 k0 i0 0 (bz (σ 25 k1 i1 0))) 25 k1 i1 1)) 25 k0 i0 2 ((up (up σ 25 k0 i0 0 (bz (σ 25 k1 i1 0))) 25 k0 i0 1 ((up σ 25 k0 i0 0 (bz (σ 25 k1 i1 0))) 25 k1 i1 1)) 25 k1 i1 2)) 25 k1 i1 3)) 25 k0 i0 4 ((up (up (up (up σ 25 k0 i0 0 (bz (σ 25 k1 i1 0))) 25 k0 i0 1 ((up σ 25 k0 i0 0 (bz (σ 25 k1 i1 0))) 25 k1 i1 1)) 25 k0 i0 2 ((up (up σ 25 k0 i0 0 (bz (σ 25 k1 i1 0))) 25 k0 i0 1 ((up σ 25 k0 i0 0 (bz (σ 25 k1 i1 0))) 25 k1 i1 1)) 25 k1 i1 2)) 25 k0 i0 3 ((up (up (up σ 25 k0 i0 0 (bz (σ 25 k1 i1 0))) 25 k0 i0 1 ((up σ 25 k0 i0 0 (bz (σ 25 k1 i1 0))) 25 k1 i1 1)) 25 k0 i0 2 ((up (up σ 25 k0 i0 0 (bz (σ 25 k1 i1 0))) 25 k0 i0 1 ((up σ 25 k0 i0 0 (bz (σ 25 k1 i1 0))) 25 k1 i1 1)) 25 k1 i1 2)) 25 k1 i1 3)) 25 k1 i1 4)) 25 k0 i0 5 ((up (up (up (up (up σ 25 k0 i0 0 (bz (σ 25 k1 i1 0))) 25 k0 i0 1 ((up σ 25 k0 i0 0 (bz (σ 25 k1 i1 0))) 25 k1 i1 1)) 25 k0 i0 2 ((up (up σ 25 k0 i0 0 (bz (σ 25 k1 i1 0))) 25 k0 i0 1 ((up σ 25 k0 i0 0 (bz (σ 25 k1 i1 0))) 25 k1 i1 1)) 25 k1 i1 2)) 25 k0 i0 3 ((up (up (up σ 25 k0 i0 0 (bz (σ 25 k1 i1 0))) 25 k0 i0 1 ((up σ 25 k0 i0 0 (bz (σ 25 k1 i1 0))) 25 k1 i1 1)) 25 k0 i0 2 ((up (up σ 25 k0 i0 0 (bz (σ 25 k1 i1 0))) 25 k0 i0 1 ((up σ 25 k0 i0 0 (bz (σ 25 k1 i1 0))) 25 k1 i1 1)) 25 k1 i1 2)) 25 k1 i1 3)) 25 k0 i0 4 ((up (up (up (up σ 25 k0 i0 0 (bz (σ 25 k1 i1 0))) 25 k0 i0 1 ((up σ 25 k0 i0 0 (bz (σ 25 k1 i1 0))) 25 k1 i1 1)) 25 k0 i0 2 ((up (up σ 25 k0 i0 0 (bz (σ 25 k1 i1 0))) 25 k0 i0 1 ((up σ 25 k0 i0 0 (bz (σ 25 k1 i1 0))) 25 k1 i1 1)) 25 k1 i1 2)) 25 k0 i0 3 ((up (up (up σ 25 k0 i0 0 (bz (σ 25 k1 i1 0))) 25 k0 i0 1 ((up σ 25 k0 i0 0 (bz (σ 25 k1 i1 0))) 25 k1 i1 1)) 25 k0 i0 2 ((up (up σ 25 k0 i0 0 (bz (σ 25 k1 i1 0))) 25 k0 i0 1 ((up σ 25 k0 i0 0 (bz (σ 25 k1 i1 0))) 25 k1 i1 1)) 25 k1 i1 2)) 25 k1 i1 3)) 25 k1 i1 4)) 25 k1 i1 5)) 25 k1 i1 6)) : Int) = 1) ∧
  (((bz ((up (up (up (up (up (up (up (up σ 25 k0 i0 0 (bz (σ 25 k1 i1 0))) 25 k0 i0 1 ((up σ 25 k0 i0 0 (bz (σ 25 k1 i1 0))) 25 k1 i1 1)) 25 k0 i0 2 ((up (up σ 25 k0 i0 0 (bz (σ 25 k1 i1 0))) 25 k0 i0 1 ((up σ 25 k0 i0 0 (bz (σ 25 k1 i1 0))) 25 k1 i1 1)) 25 k1 i1 2)) 25 k0 i0 3 ((up (up (up σ 25 k0 i0 0 (bz (σ 25 k1 i1 0))) 25 k0 i0 1 ((up σ 25 k0 i0 0 (bz (σ 25 k1 i1 0))) 25 k1 i1 1)) 25 k0 i0 2 ((up (up σ 25 k0 i0 0 (bz (σ 25 k1 i1 0))) 25 k0 i0 1 ((up σ 25 k0 i0 0 (bz (σ 25 k1 i1 0))) 25 k1 i1 1)) 25 k1 i1 2)) 25 k1 i1 3)) 25 k0 i0 4 ((up (up (up (up σ 25 k0 i0 0 (bz (σ 25 k1 i1 0))) 25 k0 i0 1 ((up σ 25 k0 i0 0 (bz (σ 25 k1 i1 0))) 25 k1 i1 1)) 25 k0 i0 2 ((up (up σ 25 k0 i0 0 (bz (σ 25 k1 i1 0))) 25 k0 i0 1 ((up σ 25 k0 i0 0 (bz (σ 25 k1 i1 0))) 25 k1 i1 1)) 25 k1 i1 2)) 25 k0 i0 3 ((up (up (up σ 25 k0 i0 0 (bz (σ 25 k1 i1 0))) 25 k0 i0 1 ((up σ 25 k0 i0 0 (bz (σ 25 k1 i1 0))) 25 k1 i1 1)) 25 k0 i0 2 ((up (up σ 25 k0 i0 0 (bz (σ 25 k1 i1 0))) 25 k0 i0 1 ((up σ 25 k0 i0 0 (bz (σ 25 k1 i1 0))) 25 k1 i1 1)) 25 k1 i1 2)) 25 k1 i1 3)) 25 k1 i1 4)) 25 k0 i0 5 ((up (up (up (up (up σ 25 k0 i0 0 (bz (σ 25 k1 i1 0))) 25 k0 i0 1 ((up σ 25 k0 i0 0 (bz (σ 25 k1 i1 0))) 25 k1 i1 1)) 25 k0 i0 2 ((up (up σ 25 k0 i0 0 (bz (σ 25 k1 i1 0))) 25 k0 i0 1 ((up σ 25 k0 i0 0 (bz (σ 25 k1 i1 0))) 25 k1 i1 1)) 25 k1 i1 2)) 25 k0 i0 3 ((up (up (up σ 25 k0 i0 0 (bz (σ 25 k1 i1 0))) 25 k0 i0 1 ((up σ 25 k0 i0 0 (bz (σ 25 k1 i1 0))) 25 k1 i1 1)) 25 k0 i0 2 ((up (up σ 25 k0 i0 0 (bz (σ 25 k1 i1 0))) 25 k0 i0 1 ((up σ 25 k0 i0 0 (bz (σ 25 k1 i1 0))) 25 k1 i1 1)) 25 k1 i1 2)) 25 k1 i1 3)) 25 k0 i0 4 ((up (up (up (up σ 25 k0 i0 0 (bz (σ 25 k1 i1 0))) 25 k0 i0 1 ((up σ 25 k0 i0 0 (bz (σ 25 k1 i1 0))) 25 k1 i1 1)) 25 k0 i0 2 ((up (up σ 25 k0 i0 0 (bz (σ 25 k1 i1 0))) 25 k0 i0 1 ((up σ 25 k0 i0 0 (bz (σ 25 k1 i1 0))) 25 k1 i1 1)) 25 k1 i1 2)) 25 k0 i0 3 ((up (up (up σ 25 k0 i0 0 (bz (σ 25 k1 i1 0))) 25 k0 i0 1 ((up σ 25 k0 i0 0 (bz (σ 25 k1 i1 0))) 25 k1 i1 1)) 25 k0 i0 2 ((up (up σ 25 k0 i0 0 (bz (σ 25 k1 i1 0))) 25 k0 i0 1 ((up σ 25 k0 i0 0 (bz (σ 25 k1 i1 0))) 25 k1 i1 1)) 25 k1 i1 2)) 25 k1 i1 3)) 25 k1 i1 4)) 25 k1 i1 5)) 25 k0 i0 6 (bz ((up (up (up (up (up (up σ 25 k0 i0 0 (bz (σ 25 k1 i1 0))) 25 k0 i0 1 ((up σ 25 k0 i0 0 (bz (σ 25 k1 i1 0))) 25 k1 i1 1)) 25 k0 i0 2 ((up (up σ 25 k0 i0 0 (bz (σ 25 k1 i1 0))) 25 k0 i0 1 ((up σ 25 k0 i0 0 (bz (σ 25 k1 i1 0))) 25 k1 i1 1)) 25 k1 i1 2)) 25 k0 i0 3 ((up (up (up σ 25 k0 i0 0 (bz (σ 25 k1 i1 0))) 25 k0 i0 1 ((up σ 25 k0 i0 0 (bz (σ 25 k1 i1 0))) 25 k1 i1 1)) 25 k0 i0 2 ((up (up σ 25 k0 i0 0 (bz (σ 25 k1 i1 0))) 25 k0 i0 1 ((up σ 25 k0 i0 0 (bz (σ 25 k1 i1 0))) 25 k1 i1 1)) 25 k1 i1 2)) 25 k1 i1 3)) 25 k0 i0 4 ((up (up (up (up σ 25 k0 i0 0 (bz (σ 25 k1 i1 0))) 25 k0 i0 1 ((up σ 25 k0 i0 0 (bz (σ 25 k1 i1 0))) 25 k1 i1 1)) 25 k0 i0 2 ((up (up σ 25 k0 i0 0 (bz (σ 25 k1 i1 0))) 25 k0 i0 1 ((up σ 25 k0 i0 0 (bz (σ 25 k1 i1 0))) 25 k1 i1 1)) 25 k1 i1 2)) 25 k0 i0 3 ((up (up (up σ 25 k0 i0 0 (bz (σ 25 k1 i1 0))) 25 k0 i0 1 ((up σ 25 k0 i0 0 (bz (σ 25 k1 i1 0))) 25 k1 i1 1)) 25 k0 i0 2 ((up (up σ 25 k0 i0 0 (bz (σ 25 k1 i1 0))) 25 k0 i0 1 ((up σ 25 k0 i0 0 (bz (σ 25 k1 i1 0))) 25 k1 i1 1)) 25 k1 i1 2)) 25 k1 i1 3)) 25 k1 i1 4)) 25 k0 i0 5 ((up (up (up (up (up σ 25 k0 i0 0 (bz (σ 25 k1 i1 0))) 25 k0 i0 1 ((up σ 25 k0 i0 0 (bz (σ 25 k1 i1 0))) 25 k1 i1 1)) 25 k0 i0 2 ((up (up σ 25 k0 i0 0 (bz (σ 25 k1 i1 0))) 25 k0 i0 1 ((up σ 25 k0 i0 0 (bz (σ 25 k1 i1 0))) 25 k1 i1 1)) 25 k1 i1 2)) 25 k0 i0 3 ((up (up (up σ 25 k0 i0 0 (bz (σ 25 k1 i1 0))) 25 k0 i0 1 ((up σ 25 k0 i0 0 (bz (σ 25 k1 i1 0))) 25 k1 i1 1)) 25 k0 i0 2 ((up (up σ 25 k0 i0 0 (bz (σ 25 k1 i1 0))) 25 k0 i0 1 ((up σ 25 k0 i0 0 (bz (σ 25 k1 i1 0))) 25 k1 i1 1)) 25 k1 i1 2)) 25 k1 i1 3)) 25 k0 i0 4 ((up (up (up (up σ 25 k0 i0 0 (bz (σ 25 k1 i1 0))) 25 k0 i0 1 ((up σ 25 k0 i0 0 (bz (σ 25 k1 i1 0))) 25 k1 i1 1)) 25 k0 i0 2 ((up (up σ 25 k0 i0 0 (bz (σ 25 k1 i1 0))) 25 k0 i0 1 ((up σ 25 k0 i0 0 (bz (σ 25 k1 i1 0))) 25 k1 i1 1)) 25 k1 i1 2)) 25 k0 i0 3 ((up (up (up σ 25 k0 i0 0 (bz (σ 25 k1 i1 0))) 25 k0 i0 1 ((up σ 25 k0 i0 0 (bz (σ 25 k1 i1 0))) 25 k1 i1 1)) 25 k0 i0 2 ((up (up σ 25 k0 i0 0 (bz (σ 25 k1 i1 0))) 25 k0 i0 1 ((up σ 25 k0 i0 0 (bz (σ 25 k1 i1 0))) 25 k1 i1 1)) 25 k1 i1 2)) 25 k1 i1 3)) 25 k1 i1 4)) 25 k1 i1 5)) 25 k1 i1 6))) 25 k0 i0 7 ((up (up (up (up (up (up (up σ 25 k0 i0 0 (bz (σ 25 k1 i1 0))) 25 k0 i0 1 ((up σ 25 k0 i0 0 (bz (σ 25 k1 i1 0))) 25 k1 i1 1)) 25 k0 i0 2 ((up (up σ 25 k0 i0 0 (bz (σ 25 k1 i1 0))) 25 k0 i0 1 ((up σ 25 k0 i0 0 (bz (σ 25 k1 i1 0))) 25 k1 i1 1)) 25 k1 i1 2)) 25 k0 i0 3 ((up (up (up σ 25 k0 i0 0 (bz (σ 25 k1 i1 0))) 25 k0 i0 1 ((up σ 25 k0 i0 0 (bz (σ 25 k1 i1 0))) 25 k1 i1 1)) 25 k0 i0 2 ((up (up σ 25 k0 i0 0 (bz (σ 25 k1 i1 0))) 25 k0 i0 1 ((up σ 25 k0 i0 0 (bz (σ 25 k1 i1 0))) 25 k1 i1 1)) 25 k1 i1 2)) 25 k1 i1 3)) 25 k0 i0 4 ((up (up (up (up σ 25 k0 i0 0 (bz (σ 25 k1 i1 0))) 25 k0 i0 1 ((up σ 25 k0 i0 0 (bz (σ 25 k1 i1 0))) 25 k1 i1 1)) 25 k0 i0 2 ((up (up σ 25 k0 i0 0 (bz (σ 25 k1 i1 0))) 25 k0 i0 1 ((up σ 25 k0 i0 0 (bz (σ 25 k1 i1 0))) 25 k1 i1 1)) 25 k1 i1 2)) 25 k0 i0 3 ((up (up (up σ 25 k0 i0 0 (bz (σ 25 k1 i1 0))) 25 k0 i0 1 ((up σ 25 k0 i0 0 (bz (σ 25 k1 i1 0))) 25 k1 i1 1)) 25 k0 i0 2 ((up (up σ 25 k0 i0 0 (bz (σ 25 k1 i1 0))) 25 k0 i0 1 ((up σ 25 k0 i0 0 (bz (σ 25 k1 i1 0))) 25 k1 i1 1)) 25 k1 i1 2)) 25 k1 i1 3)) 25 k1 i1 4)) 25 k0 i0 5 ((up (up (up (up (up σ 25 k0 i0 0 (bz (σ 25 k1 i1 0))) 25 k0 i0 1 ((up σ 25 k0 i0 0 (bz (σ 25 k1 i1 0))) 25 k1 i1 1)) 25 k0 i0 2 ((up (up σ 25 k0 i0 0 (bz (σ 25 k1 i1 0))) 25 k0 i0 1 ((up σ 25 k0 i0 0 (bz (σ 25 k1 i1 0))) 25 k1 i1 1)) 25 k1 i1 2)) 25 k0 i0 3 ((up (up (up σ 25 k0 i0 0 (bz (σ 25 k1 i1 0))) 25 k0 i0 1 ((up σ 25 k0 i0 0 (bz (σ 25 k1 i1 0))) 25 k1 i1 1)) 25 k0 i0 2 ((up (up σ 25 k0 i0 0 (bz (σ 25 k1 i1 0))) 25 k0 i0 1 ((up σ 25 k0 i0 0 (bz (σ 25 k1 i1 0))) 25 k1 i1 1)) 25 k1 i1 2)) 25 k1 i1 3)) 25 k0 i0 4 ((up (up (up (up σ 25 k0 i0 0 (bz (σ 25 k1 i1 0))) 25 k0 i0 1 ((up σ 25 k0 i0 0 (bz (σ 25 k1 i1 0))) 25 k1 i1 1)) 25 k0 i0 2 ((up (up σ 25 k0 i0 0 (bz (σ 25 k1 i1 0))) 25 k0 i0 1 ((up σ 25 k0 i0 0 (bz (σ 25 k1 i1 0))) 25 k1 i1 1)) 25 k1 i1 2)) 25 k0 i0 3 ((up (up (up σ 25 k0 i0 0 (bz (σ 25 k1 i1 0))) 25 k0 i0 1 ((up σ 25 k0 i0 0 (bz (σ 25 k1 i1 0))) 25 k1 i1 1)) 25 k0 i0 2 ((up (up σ 25 k0 i0 0 (bz (σ 25 k1 i1 0))) 25 k0 i0 1 ((up σ 25 k0 i0 0 (bz (σ 25 k1 i1 0))) 25 k1 i1 1)) 25 k1 i1 2)) 25 k1 i1 3)) 25 k1 i1 4)) 25 k1 i1 5)) 25 k0 i0 6 (bz ((up (up (up (up (up (up σ 25 k0 i0 0 (bz (σ 25 k1 i1 0))) 25 k0 i0 1 ((up σ 25 k0 i0 0 (bz (σ 25 k1 i1 0))) 25 k1 i1 1)) 25 k0 i0 2 ((up (up σ 25 k0 i0 0 (bz (σ 25 k1 i1 0))) 25 k0 i0 1 ((up σ 25 k0 i0 0 (bz (σ 25 k1 i1 0))) 25 k1 i1 1)) 25 k1 i1 2)) 25 k0 i0 3 ((up (up (up σ 25 k0 i0 0 (bz (σ 25 k1 i1 0))) 25 k0 i0 1 ((up σ 25 k0 i0 0 (bz (σ 25 k1 i1 0))) 25 k1 i1 1)) 25 k0 i0 2 ((up (up σ 25 k0 i0 0 (bz (σ 25 k1 i1 0))) 25 k0 i0 1 ((up σ 25 k0 i0 0 (bz (σ 25 k1 i1 0))) 25 k1 i1 1)) 25 k1 i1 2)) 25 k1 i1 3)) 25 k0 i0 4 ((up (up (up (up σ 25 k0 i0 0 (bz (σ 25 k1 i1 0))) 25 k0 i0 1 ((up σ 25 k0 i0 0 (bz (σ 25 k1 i1 0))) 25 k1 i1 1)) 25 k0 i0 2 ((up (up σ 25 k0 i0 0 (bz (σ 25 k1 i1 0))) 25 k0 i0 1 ((up σ 25 k0 i0 0 (bz (σ 25 k1 i1 0))) 25 k1 i1 1)) 25 k1 i1 2)) 25 k0 i0 3 ((up (up (up σ 25 k0 i0 0 (bz (σ 25 k1 i1 0))) 25 k0 i0 1 ((up σ 25 k0 i0 0 (bz (σ 25 k1 i1 0))) 25 k1 i1 1)) 25 k0 i0 2 ((up (up σ 25 k0 i0 0 (bz (σ 25 k1 i1 0))) 25 k0 i0 1 ((up σ 25 k0 i0 0 (bz (σ 25 k1 i1 0))) 25 k1 i1 1)) 25 k1 i1 2)) 25 k1 i1 3)) 25 k1 i1 4)) 25 k0 i0 5 ((up (up (up (up (up σ 25 k0 i0 0 (bz (σ 25 k1 i1 0))) 25 k0 i0 1 ((up σ 25 k0 i0 0 (bz (σ 25 k1 i1 0))) 25 k1 i1 1)) 25 k0 i0 2 ((up (up σ 25 k0 i0 0 (bz (σ 25 k1 i1 0))) 25 k0 i0 1 ((up σ 25 k0 i0 0 (bz (σ 25 k1 i1 0))) 25 k1 i1 1)) 25 k1 i1 2)) 25 k0 i0 3 ((up (up (up σ 25 k0 i0 0 (bz (σ 25 k1 i1 0))) 25 k0 i0 1 ((up σ 25 k0 i0 0 (bz (σ 25 k1 i1 0))) 25 k1 i1 1)) 25 k0 i0 2 ((up (up σ 25 k0 i0 0 (bz (σ 25 k1 i1 0))) 25 k0 i0 1 ((up σ 25 k0 i0 0 (bz (σ 25 k1 i1 0))) 25 k1 i1 1)) 25 k1 i1 2)) 25 k1 i1 3)) 25 k0 i0 4 ((up (up (up (up σ 25 k0 i0 0 (bz (σ 25 k1 i1 0))) 25 k0 i0 1 ((up σ 25 k0 i0 0 (bz (σ 25 k1 i1 0))) 25 k1 i1 1)) 25 k0 i0 2 ((up (up σ 25 k0 i0 0 (bz (σ 25 k1 i1 0))) 25 k0 i0 1 ((up σ 25 k0 i0 0 (bz (σ 25 k1 i1 0))) 25 k1 i1 1)) 25 k1 i1 2)) 25 k0 i0 3 ((up (up (up σ 25 k0 i0 0 (bz (σ 25 k1 i1 0))) 25 k0 i0 1 ((up σ 25 k0 i0 0 (bz (σ 25 k1 i1 0))) 25 k1 i1 1)) 25 k0 i0 2 ((up (up σ 25 k0 i0 0 (bz (σ 25 k1 i1 0))) 25 k0 i0 1 ((up σ 25 k0 i0 0 (bz (σ 25 k1 i1 0))) 25 k1 i1 1)) 25 k1 i1 2)) 25 k1 i1 3)) 25 k1 i1 4)) 25 k1 i1 5)) 25 k1 i1 6))) 25 k1 i1 7)) 25 k1 i1 8)) : Int) = 0 ∨ ((bz ((up (up (up (up (up (up (up (up σ 25 k0 i0 0 (bz (σ 25 k1 i1 0))) 25 k0 i0 1 ((up σ 25 k0 i0 0 (bz (σ 25 k1 i1 0))) 25 k1 i1 1)) 25 k0 i0 2 ((up (up σ 25 k0 i0 0 (bz (σ 25 k1 i1 0))) 25 k0 i0 1 ((up σ 25 k0 i0 0 (bz (σ 25 k1 i1 0))) 25 k1 i1 1)) 25 k1 i1 2)) 25 k0 i0 3 ((up (up (up σ 25 k0 i0 0 (bz (σ 25 k1 i1 0))) 25 k0 i0 1 ((up σ 25 k0 i0 0 (bz (σ 25 k1 i1 0))) 25 k1 i1 1)) 25 k0 i0 2 ((up (up σ 25 k0 i0 0 (bz (σ 25 k1 i1 0))) 25 k0 i0 1 ((up σ 25 k0 i0 0 (bz (σ 25 k1 i1 0))) 25 k1 i1 1)) 25 k1 i1 2)) 25 k1 i1 3)) 25 k0 i0 4 ((up (up (up (up σ 25 k0 i0 0 (bz (σ 25 k1 i1 0))) 25 k0 i0 1 ((up σ 25 k0 i0 0 (bz (σ 25 k1 i1 0))) 25 k1 i1 1)) 25 k0 i0 2 ((up (up σ 25 k0 i0 0 (bz (σ 25 k1 i1 0))) 25 k0 i0 1 ((up σ 25 k0 i0 0 (bz (σ 25 k1 i1 0))) 25 k1 i1 1)) 25 k1 i1 2)) 25 k0 i0 3 ((up (up (up σ 25 k0 i0 0 (bz (σ 25 k1 i1 0))) 25 k0 i0 1 ((up σ 25 k0 i0 0 (bz (σ 25 k1 i1 0))) 25 k1 i1 1)) 25 k0 i0 2 ((up (up σ 25 k0 i0 0 (bz (σ 25 k1 i1 0))) 25 k0 i0 1 ((up σ 25 k0 i0 0 (bz (σ 25 k1 i1 0))) 25 k1 i1 1)) 25 k1 i1 2)) 25 k1 i1 3)) 25 k1 i1 4)) 25 k0 i0 5 ((up (up (up (up (up σ 25 k0 i0 0 (bz (σ 25 k1 i1 0))) 25 k0 i0 1 ((up σ 25 k0 i0 0 (bz (σ 25 k1 i1 0))) 25 k1 i1 1)) 25 k0 i0 2 ((up (up σ 25 k0 i0 0 (bz (σ 25 k1 i1 0))) 25 k0 i0 1 ((up σ 25 k0 i0 0 (bz (σ 25 k1 i1 0))) 25 k1 i1 1)) 25 k1 i1 2)) 25 k0 i0 3 ((up (up (up σ 25 k0 i0 0 (bz (σ 25 k1 i1 0))) 25 k0 i0 1 ((up σ 25 k0 i0 0 (bz (σ 25 k1 i1 0))) 25 k1 i1 1)) 25 k0 i0 2 ((up (up σ 25 k0 i0 0 (bz (σ 25 k1 i1 0))) 25 k0 i0 1 ((up σ 25 k0 i0 0 (bz (σ 25 k1 i1 0))) 25 k1 i1 1)) 25 k1 i1 2)) 25 k1 i1 3)) 25 k0 i0 4 ((up (up (up (up σ 25 k0 i0 0 (bz (σ 25 k1 i1 0))) 25 k0 i0 1 ((up σ 25 k0 i0 0 (bz (σ 25 k1 i1 0))) 25 k1 i1 1)) 25 k0 i0 2 ((up (up σ 25 k0 i0 0 (bz (σ 25 k1 i1 0))) 25 k0 i0 1 ((up σ 25 k0 i0 0 (bz (σ 25 k1 i1 0))) 25 k1 i1 1)) 25 k1 i1 2)) 25 k0 i0 3 ((up (up (up σ 25 k0 i0 0 (bz (σ 25 k1 i1 0))) 25 k0 i0 1 ((up σ 25 k0 i0 0 (bz (σ 25 k1 i1 0))) 25 k1 i1 1)) 25 k0 i0 2 ((up (up σ 25 k0 i0 0 (bz (σ 25 k1 i1 0))) 25 k0 i0 1 ((up σ 25 k0 i0 0 (bz (σ 25 k1 i1 0))) 25 k1 i1 1)) 25 k1 i1 2)) 25 k1 i1 3)) 25 k1 i1 4)) 25 k1 i1 5)) 25 k0 i0 6 (bz ((up (up (up (up (up (up σ 25 k0 i0 0 (bz (σ 25 k1 i1 0))) 25 k0 i0 1 ((up σ 25 k0 i0 0 (bz (σ 25 k1 i1 0))) 25 k1 i1 1)) 25 k0 i0 2 ((up (up σ 25 k0 i0 0 (bz (σ 25 k1 i1 0))) 25 k0 i0 1 ((up σ 25 k0 i0 0 (bz (σ 25 k1 i1 0))) 25 k1 i1 1)) 25 k1 i1 2)) 25 k0 i0 3 ((up (up (up σ 25 k0 i0 0 (bz (σ 25 k1 i1 0))) 25 k0 i0 1 ((up σ 25 k0 i0 0 (bz (σ 25 k1 i1 0))) 25 k1 i1 1)) 25 k0 i0 2 ((up (up σ 25 k0 i0 0 (bz (σ 25 k1 i1 0))) 25 k0 i0 1 ((up σ 25 k0 i0 0 (bz (σ 25 k1 i1 0))) 25 k1 i1 1)) 25 k1 i1 2)) 25 k1 i1 3)) 25 k0 i0 4 ((up (up (up (up σ 25 k0 i0 0 (bz (σ 25 k1 i1 0))) 25 k0 i0 1 ((up σ 25 k0 i0 0 (bz (σ 25 k1 i1 0))) 25 k1 i1 1)) 25 k0 i0 2 ((up (up σ 25 k0 i0 0 (bz (σ 25 k1 i1 0))) 25 k0 i0 1 ((up σ 25 k0 i0 0 (bz (σ 25 k1 i1 0))) 25 k1 i1 1)) 25 k1 i1 2)) 25 k0 i0 3 ((up (up (up σ 25 k0 i0 0 (bz (σ 25 k1 i1 0))) 25 k0 i0 1 ((up σ 25 k0 i0 0 (bz (σ 25 k1 i1 0))) 25 k1 i1 1)) 25 k0 i0 2 ((up (up σ 25 k0 i0 0 (bz (σ 25 k1 i1 0))) 25 k0 i0 1 ((up σ 25 k0 i0 0 (bz (σ 25 k1 i1 0))) 25 k1 i1 1)) 25 k1 i1 2)) 25 k1 i1 3)) 25 k1 i1 4)) 25 k0 i0 5 ((up (up (up (up (up σ 25 k0 i0 0 (bz (σ 25 k1 i1 0))) 25 k0 i0 1 ((up σ 25 k0 i0 0 (bz (σ 25 k1 i1 0))) 25 k1 i1 1)) 25 k0 i0 2 ((up (up σ 25 k0 i0 0 (bz (σ 25 k1 i1 0))) 25 k0 i0 1 ((up σ 25 k0 i0 0 (bz (σ 25 k1 i1 0))) 25 k1 i1 1)) 25 k1 i1 2)) 25 k0 i0 3 ((up (up (up σ 25 k0 i0 0 (bz (σ 25 k1 i1 0))) 25 k0 i0 1 ((up σ 25 k0 i0 0 (bz (σ 25 k1 i1 0))) 25 k1 i1 1)) 25 k0 i0 2 ((up (up σ 25 k0 i0 0 (bz (σ 25 k1 i1 0))) 25 k0 i0 1 ((up σ 25 k0 i0 0 (bz (σ 25 k1 i1 0))) 25 k1 i1 1)) 25 k1 i1 2)) 25 k1 i1 3)) 25 k0 i0 4 ((up (up (up (up σ 25 k0 i0 0 (bz (σ 25 k1 i1 0))) 25 k0 i0 1 ((up σ 25 k0 i0 0 (bz (σ 25 k1 i1 0))) 25 k1 i1 1)) 25 k0 i0 2 ((up (up σ 25 k0 i0 0 (bz (σ 25 k1 i1 0))) 25 k0 i0 1 ((up σ 25 k0 i0 0 (bz (σ 25 k1 i1 0))) 25 k1 i1 1)) 25 k1 i1 2)) 25 k0 i0 3 ((up (up (up σ 25 k0 i0 0 (bz (σ 25 k1 i1 0))) 25 k0 i0 1 ((up σ 25 k0 i0 0 (bz (σ 25 k1 i1 0))) 25 k1 i1 1)) 25 k0 i0 2 ((up (up σ 25 k0 i0 0 (bz (σ 25 k1 i1 0))) 25 k0 i0 1 ((up σ 25 k0 i0 0 (bz (σ 25 k1 i1 0))) 25 k1 i1 1)) 25 k1 i1 2)) 25 k1 i1 3)) 25 k1 i1 4)) 25 k1 i1 5)) 25 k1 i1 6))) 25 k0 i0 7 ((up (up (up (up (up (up (up σ 25 k0 i0 0 (bz (σ 25 k1 i1 0))) 25 k0 i0 1 ((up σ 25 k0 i0 0 (bz (σ 25 k1 i1 0))) 25 k1 i1 1)) 25 k0 i0 2 ((up (up σ 25 k0 i0 0 (bz (σ 25 k1 i1 0))) 25 k0 i0 1 ((up σ 25 k0 i0 0 (bz (σ 25 k1 i1 0))) 25 k1 i1 1)) 25 k1 i1 2)) 25 k0 i0 3 ((up (up (up σ 25 k0 i0 0 (bz (σ 25 k1 i1 0))) 25 k0 i0 1 ((up σ 25 k0 i0 0 (bz (σ 25 k1 i1 0))) 25 k1 i1 1)) 25 k0 i0 2 ((up (up σ 25 k0 i0 0 (bz (σ 25 k1 i1 0))) 25 k0 i0 1 ((up σ 25 k0 i0 0 (bz (σ 25 k1 i1 0))) 25 k1 i1 1)) 25 k1 i1 2)) 25 k1 i1 3)) 25 k0 i0 4 ((up (up (up (up σ 25 k0 i0 0 (bz (σ 25 k1 i1 0))) 25 k0 i0 1 ((up σ 25 k0 i0 0 (bz (σ 25 k1 i1 0))) 25 k1 i1 1)) 25 k0 i0 2 ((up (up σ 25 k0 i0 0 (bz (σ 25 k1 i1 0))) 25 k0 i0 1 ((up σ 25 k0 i0 0 (bz (σ 25 k1 i1 0))) 25 k1 i1 1)) 25 k1 i1 2)) 25 k0 i0 3 ((up (up (up σ 25 k0 i0 0 (bz (σ 25 k1 i1 0))) 25 k0 i0 1 ((up σ 25 k0 i0 0 (bz (σ 25 k1 i1 0))) 25 k1 i1 1)) 25 k0 i0 2 ((up (up σ 25 k0 i0 0 (bz (σ 25 k1 i1 0))) 25 k0 i0 1 ((up σ 25 k0 i0 0 (bz (σ 25 k1 i1 0))) 25 k1 i1 1)) 25 k1 i1 2)) 25 k1 i1 3)) 25 k1 i1 4)) 25 k0 i0 5 ((up (up (up (up (up σ 25 k0 i0 0 (bz (σ 25 k1 i1 0))) 25 k0 i0 1 ((up σ 25 k0 i0 0 (bz (σ 25 k1 i1 0))) 25 k1 i1 1)) 25 k0 i0 2 ((up (up σ 25 k0 i0 0 (bz (σ 25 k1 i1 0))) 25 k0 i0 1 ((up σ 25 k0 i0 0 (bz (σ 25 k1 i1 0))) 25 k1 i1 1)) 25 k1 i1 2)) 25 k0 i0 3 ((up (up (up σ 25 k0 i0 0 (bz (σ 25 k1 i1 0))) 25 k0 i0 1 ((up σ 25 k0 i0 0 (bz (σ 25 k1 i1 0))) 25 k1 i1 1)) 25 k0 i0 2 ((up (up σ 25 k0 i0 0 (bz (σ 25 k1 i1 0))) 25 k0 i0 1 ((up σ 25 k0 i0 0 (bz (σ 25 k1 i1 0))) 25 k1 i1 1)) 25 k1 i1 2)) 25 k1 i1 3)) 25 k0 i0 4 ((up (up (up (up σ 25 k0 i0 0 (bz (σ 25 k1 i1 0))) 25 k0 i0 1 ((up σ 25 k0 i0 0 (bz (σ 25 k1 i1 0))) 25 k1 i1 1)) 25 k0 i0 2 ((up (up σ 25 k0 i0 0 (bz (σ 25 k1 i1 0))) 25 k0 i0 1 ((up σ 25 k0 i0 0 (bz (σ 25 k1 i1 0))) 25 k1 i1 1)) 25 k1 i1 2)) 25 k0 i0 3 ((up (up (up σ 25 k0 i0 0 (bz (σ 25 k1 i1 0))) 25 k0 i0 1 ((up σ 25 k0 i0 0 (bz (σ 25 k1 i1 0))) 25 k1 i1 1)) 25 k0 i0 2 ((up (up σ 25 k0 i0 0 (bz (σ 25 k1 i1 0))) 25 k0 i0 1 ((up σ 25 k0 i0 0 (bz (σ 25 k1 i1 0))) 25 k1 i1 1)) 25 k1 i1 2)) 25 k1 i1 3)) 25 k1 i1 4)) 25 k1 i1 5)) 25 k0 i0 6 (bz ((up (up (up (up (up (up σ 25 k0 i0 0 (bz (σ 25 k1 i1 0))) 25 k0 i0 1 ((up σ 25 k0 i0 0 (bz (σ 25 k1 i1 0))) 25 k1 i1 1)) 25 k0 i0 2 ((up (up σ 25 k0 i0 0 (bz (σ 25 k1 i1 0))) 25 k0 i0 1 ((up σ 25 k0 i0 0 (bz (σ 25 k1 i1 0))) 25 k1 i1 1)) 25 k1 i1 2)) 25 k0 i0 3 ((up (up (up σ 25 k0 i0 0 (bz (σ 25 k1 i1 0))) 25 k0 i0 1 ((up σ 25 k0 i0 0 (bz (σ 25 k1 i1 0))) 25 k1 i1 1)) 25 k0 i0 2 ((up (up σ 25 k0 i0 0 (bz (σ 25 k1 i1 0))) 25 k0 i0 1 ((up σ 25 k0 i0 0 (bz (σ 25 k1 i1 0))) 25 k1 i1 1)) 25 k1 i1 2)) 25 k1 i1 3)) 25 k0 i0 4 ((up (up (up (up σ 25 k0 i0 0 (bz (σ 25 k1 i1 0))) 25 k0 i0 1 ((up σ 25 k0 i0 0 (bz (σ 25 k1 i1 0))) 25 k1 i1 1)) 25 k0 i0 2 ((up (up σ 25 k0 i0 0 (bz (σ 25 k1 i1 0))) 25 k0 i0 1 ((up σ 25 k0 i0 0 (bz (σ 25 k1 i1 0))) 25 k1 i1 1)) 25 k1 i1 2)) 25 k0 i0 3 ((up (up (up σ 25 k0 i0 0 (bz (σ 25 k1 i1 0))) 25 k0 i0 1 ((up σ 25 k0 i0 0 (bz (σ 25 k1 i1 0))) 25 k1 i1 1)) 25 k0 i0 2 ((up (up σ 25 k0 i0 0 (bz (σ 25 k1 i1 0))) 25 k0 i0 1 ((up σ 25 k0 i0 0 (bz (σ 25 k1 i1 0))) 25 k1 i1 1)) 25 k1 i1 2)) 25 k1 i1 3)) 25 k1 i1 4)) 25 k0 i0 5 ((up (up (up (up (up σ 25 k0 i0 0 (bz (σ 25 k1 i1 0))) 25 k0 i0 1 ((up σ 25 k0 i0 0 (bz (σ 25 k1 i1 0))) 25 k1 i1 1)) 25 k0 i0 2 ((up (up σ 25 k0 i0 0 (bz (σ 25 k1 i1 0))) 25 k0 i0 1 ((up σ 25 k0 i0 0 (bz (σ 25 k1 i1 0))) 25 k1 i1 1)) 25 k1 i1 2)) 25 k0 i0 3 ((up (up (up σ 25 k0 i0 0 (bz (σ 25 k1 i1 0))) 25 k0 i0 1 ((up σ 25 k0 i0 0 (bz (σ 25 k1 i1 0))) 25 k1 i1 1)) 25 k0 i0 2 ((up (up σ 25 k0 i0 0 (bz (σ 25 k1 i1 0))) 25 k0 i0 1 ((up σ 25 k0 i0 0 (bz (σ 25 k1 i1 0))) 25 k1 i1 1)) 25 k1 i1 2)) 25 k1 i1 3)) 25 k0 i0 4 ((up (up (up (up σ 25 k0 i0 0 (bz (σ 25 k1 i1 0))) 25 k0 i0 1 ((up σ 25 k0 i0 0 (bz (σ 25 k1 i1 0))) 25 k1 i1 1)) 25 k0 i0 2 ((up (up σ 25 k0 i0 0 (bz (σ 25 k1 i1 0))) 25 k0 i0 1 ((up σ 25 k0 i0 0 (bz (σ 25 k1 i1 0))) 25 k1 i1 1)) 25 k1 i1 2)) 25 k0 i0 3 ((up (up (up σ 25 k0 i0 0 (bz (σ 25 k1 i1 0))) 25 k0 i0 1 ((up σ 25 k0 i0 0 (bz (σ 25 k1 i1 0))) 25 k1 i1 1)) 25 k0 i0 2 ((up (up σ 25 k0 i0 0 (bz (σ 25 k1 i1 0))) 25 k0 i0 1 ((up σ 25 k0 i0 0 (bz (σ 25 k1 i1 0))) 25 k1 i1 1)) 25 k1 i1 2)) 25 k1 i1 3)) 25 k1 i1 4)) 25 k1 i1 5)) 25 k1 i1 6))) 25 k1 i1 7)) 25 k1 i1 8)) : Int) = 1) ∧
  Q none (up (up (up (up (up (up (up (up (up σ 25 k0 i0 0 (bz (σ 25 k1 i1 0))) 25 k0 i0 1 ((up σ 25 k0 i0 0 (bz (σ 25 k1 i1 0))) 25 k1 i1 1)) 25 k0 i0 2 ((up (up σ 25 k0 i0 0 (bz (σ 25 k1 i1 0))) 25 k0 i0 1 ((up σ 25 k0 i0 0 (bz (σ 25 k1 i1 0))) 25 k1 i1 1)) 25 k1 i1 2)) 25 k0 i0 3 ((up (up (up σ 25 k0 i0 0 (bz (σ 25 k1 i1 0))) 25 k0 i0 1 ((up σ 25 k0 i0 0 (bz (σ 25 k1 i1 0))) 25 k1 i1 1)) 25 k0 i0 2 ((up (up σ 25 k0 i0 0 (bz (σ 25 k1 i1 0))) 25 k0 i0 1 ((up σ 25 k0 i0 0 (bz (σ 25 k1 i1 0))) 25 k1 i1 1)) 25 k1 i1 2)) 25 k1 i1 3)) 25 k0 i0 4 ((up (up (up (up σ 25 k0 i0 0 (bz (σ 25 k1 i1 0))) 25 k0 i0 1 ((up σ 25 k0 i0 0 (bz (σ 25 k1 i1 0))) 25 k1 i1 1)) 25 k0 i0 2 ((up (up σ 25 k0 i0 0 (bz (σ 25 k1 i1 0))) 25 k0 i0 1 ((up σ 25 k0 i0 0 (bz (σ 25 k1 i1 0))) 25 k1 i1 1)) 25 k1 i1 2)) 25 k0 i0 3 ((up (up (up σ 25 k0 i0 0 (bz (σ 25 k1 i1 0))) 25 k0 i0 1 ((up σ 25 k0 i0 0 (bz (σ 25 k1 i1 0))) 25 k1 i1 1)) 25 k0 i0 2 ((up (up σ 25 k0 i0 0 (bz (σ 25 k1 i1 0))) 25 k0 i0 1 ((up σ 25 k0 i0 0 (bz (σ 25 k1 i1 0))) 25 k1 i1 1)) 25 k1 i1 2)) 25 k1 i1 3)) 25 k1 i1 4)) 25 k0 i0 5 ((up (up (up (up (up σ 25 k0 i0 0 (bz (σ 25 k1 i1 0))) 25 k0 i0 1 ((up σ 25 k0 i0 0 (bz (σ 25 k1 i1 0))) 25 k1 i1 1)) 25 k0 i0 2 ((up (up σ 25 k0 i0 0 (bz (σ 25 k1 i1 0))) 25 k0 i0 1 ((up σ 25 k0 i0 0 (bz (σ 25 k1 i1 0))) 25 k1 i1 1)) 25 k1 i1 2)) 25 k0 i0 3 ((up (up (up σ 25 k0 i0 0 (bz (σ 25 k1 i1 0))) 25 k0 i0 1 ((up σ 25 k0 i0 0 (bz (σ 25 k1 i1 0))) 25 k1 i1 1)) 25 k0 i0 2 ((up (up σ 25 k0 i0 0 (bz (σ 25 k1 i1 0))) 25 k0 i0 1 ((up σ 25 k0 i0 0 (bz (σ 25 k1 i1 0))) 25 k1 i1 1)) 25 k1 i1 2)) 25 k1 i1 3)) 25 k0 i0 4 ((up (up (up (up σ 25 k0 i0 0 (bz (σ 25 k1 i1 0))) 25 k0 i0 1 ((up σ 25 k0 i0 0 (bz (σ 25 k1 i1 0))) 25 k1 i1 1)) 25 k0 i0 2 ((up (up σ 25 k0 i0 0 (bz (σ 25 k1 i1 0))) 25 k0 i0 1 ((up σ 25 k0 i0 0 (bz (σ 25 k1 i1 0))) 25 k1 i1 1)) 25 k1 i1 2)) 25 k0 i0 3 ((up (up (up σ 25 k0 i0 0 (bz (σ 25 k1 i1 0))) 25 k0 i0 1 ((up σ 25 k0 i0 0 (bz (σ 25 k1 i1 0))) 25 k1 i1 1)) 25 k0 i0 2 ((up (up σ 25 k0 i0 0 (bz (σ 25 k1 i1 0))) 25 k0 i0 1 ((up σ 25 k0 i0 0 (bz (σ 25 k1 i1 0))) 25 k1 i1 1)) 25 k1 i1 2)) 25 k1 i1 3)) 25 k1 i1 4)) 25 k1 i1 5)) 25 k0 i0 6 (bz ((up (up (up (up (up (up σ 25 k0 i0 0 (bz (σ 25 k1 i1 0))) 25 k0 i0 1 ((up σ 25 k0 i0 0 (bz (σ 25 k1 i1 0))) 25 k1 i1 1)) 25 k0 i0 2 ((up (up σ 25 k0 i0 0 (bz (σ 25 k1 i1 0))) 25 k0 i0 1 ((up σ 25 k0 i0 0 (bz (σ 25 k1 i1 0))) 25 k1 i1 1)) 25 k1 i1 2)) 25 k0 i0 3 ((up (up (up σ 25 k0 i0 0 (bz (σ 25 k1 i1 0))) 25 k0 i0 1 ((up σ 25 k0 i0 0 (bz (σ 25 k1 i1 0))) 25 k1 i1 1)) 25 k0 i0 2 ((up (up σ 25 k0 i0 0 (bz (σ 25 k1 i1 0))) 25 k0 i0 1 ((up σ 25 k0 i0 0 (bz (σ 25 k1 i1 0))) 25 k1 i1 1)) 25 k1 i1 2)) 25 k1 i1 3)) 25 k0 i0 4 ((up (up (up (up σ 25 k0 i0 0 (bz (σ 25 k1 i1 0))) 25 k0 i0 1 ((up σ 25 k0 i0 0 (bz (σ 25 k1 i1 0))) 25 k1 i1 1)) 25 k0 i0 2 ((up (up σ 25 k0 i0 0 (bz (σ 25 k1 i1 0))) 25 k0 i0 1 ((up σ 25 k0 i0 0 (bz (σ 25 k1 i1 0))) 25 k1 i1 1)) 25 k1 i1 2)) 25 k0 i0 3 ((up (up (up σ 25 k0 i0 0 (bz (σ 25 k1 i1 0))) 25 k0 i0 1 ((up σ 25 k0 i0 0 (bz (σ 25 k1 i1 0))) 25 k1 i1 1)) 25 k0 i0 2 ((up (up σ 25 k0 i0 0 (bz (σ 25 k1 i1 0))) 25 k0 i0 1 ((up σ 25 k0 i0 0 (bz (σ 25 k1 i1 0))) 25 k1 i1 1)) 25 k1 i1 2)) 25 k1 i1 3)) 25 k1 i1 4)) 25 k0 i0 5 ((up (up (up (up (up σ 25 k0 i0 0 (bz (σ 25 k1 i1 0))) 25 k0 i0 1 ((up σ 25 k0 i0 0 (bz (σ 25 k1 i1 0))) 25 k1 i1 1)) 25 k0 i0 2 ((up (up σ 25 k0 i0 0 (bz (σ 25 k1 i1 0))) 25 k0 i0 1 ((up σ 25 k0 i0 0 (bz (σ 25 k1 i1 0))) 25 k1 i1 1)) 25 k1 i1 2)) 25 k0 i0 3 ((up (up (up σ 25 k0 i0 0 (bz (σ 25 k1 i1 0))) 25 k0 i0 1 ((up σ 25 k0 i0 0 (bz (σ 25 k1 i1 0))) 25 k1 i1 1)) 25 k0 i0 2 ((up (up σ 25 k0 i0 0 (bz (σ 25 k1 i1 0))) 25 k0 i0 1 ((up σ 25 k0 i0 0 (bz (σ 25 k1 i1 0))) 25 k1 i1 1)) 25 k1 i1 2)) 25 k1 i1 3)) 25 k0 i0 4 ((up (up (up (up σ 25 k0 i0 0 (bz (σ 25 k1 i1 0))) 25 k0 i0 1 ((up σ 25 k0 i0 0 (bz (σ 25 k1 i1 0))) 25 k1 i1 1)) 25 k0 i0 2 ((up (up σ 25 k0 i0 0 (bz (σ 25 k1 i1 0))) 25 k0 i0 1 ((up σ 25 k0 i0 0 (bz (σ 25 k1 i1 0))) 25 k1 i1 1)) 25 k1 i1 2)) 25 k0 i0 3 ((up (up (up σ 25 k0 i0 0 (bz (σ 25 k1 i1 0))) 25 k0 i0 1 ((up σ 25 k0 i0 0 (bz (σ 25 k1 i1 0))) 25 k1 i1 1)) 25 k0 i0 2 ((up (up σ 25 k0 i0 0 (bz (σ 25 k1 i1 0))) 25 k0 i0 1 ((up σ 25 k0 i0 0 (bz (σ 25 k1 i1 0))) 25 k1 i1 1)) 25 k1 i1 2)) 25 k1 i1 3)) 25 k1 i1 4)) 25 k1 i1 5)) 25 k1 i1 6))) 25 k0 i0 7 ((up (up (up (up (up (up (up σ 25 k0 i0 0 (bz (σ 25 k1 i1 0))) 25 k0 i0 1 ((up σ 25 k0 i0 0 (bz (σ 25 k1 i1 0))) 25 k1 i1 1)) 25 k0 i0 2 ((up (up σ 25 k0 i0 0 (bz (σ 25 k1 i1 0))) 25 k0 i0 1 ((up σ 25 k0 i0 0 (bz (σ 25 k1 i1 0))) 25 k1 i1 1)) 25 k1 i1 2)) 25 k0 i0 3 ((up (up (up σ 25 k0 i0 0 (bz (σ 25 k1 i1 0))) 25 k0 i0 1 ((up σ 25 k0 i0 0 (bz (σ 25 k1 i1 0))) 25 k1 i1 1)) 25 k0 i0 2 ((up (up σ 25 k0 i0 0 (bz (σ 25 k1 i1 0))) 25 k0 i0 1 ((up σ 25 k0 i0 0 (bz (σ 25 k1 i1 0))) 25 k1 i1 1)) 25 k1 i1 2)) 25 k1 i1 3)) 25 k0 i0 4 ((up (up (up (up σ 25 k0 i0 0 (bz (σ 25 k1 i1 0))) 25 k0 i0 1 ((up σ 25 k0 i0 0 (bz (σ 25 k1 i1 0))) 25 k1 i1 1)) 25 k0 i0 2 ((up (up σ 25 k0 i0 0 (bz (σ 25 k1 i1 0))) 25 k0 i0 1 ((up σ 25 k0 i0 0 (bz (σ 25 k1 i1 0))) 25 k1 i1 1)) 25 k1 i1 2)) 25 k0 i0 3 ((up (up (up σ 25 k0 i0 0 (bz (σ 25 k1 i1 0))) 25 k0 i0 1 ((up σ 25 k0 i0 0 (bz (σ 25 k1 i1 0))) 25 k1 i1 1)) 25 k0 i0 2 ((up (up σ 25 k0 i0 0 (bz (σ 25 k1 i1 0))) 25 k0 i0 1 ((up σ 25 k0 i0 0 (bz (σ 25 k1 i1 0))) 25 k1 i1 1)) 25 k1 i1 2)) 25 k1 i1 3)) 25 k1 i1 4)) 25 k0 i0 5 ((up (up (up (up (up σ 25 k0 i0 0 (bz (σ 25 k1 i1 0))) 25 k0 i0 1 ((up σ 25 k0 i0 0 (bz (σ 25 k1 i1 0))) 25 k1 i1 1)) 25 k0 i0 2 ((up (up σ 25 k0 i0 0 (bz (σ 25 k1 i1 0))) 25 k0 i0 1 ((up σ 25 k0 i0 0 (bz (σ 25 k1 i1 0))) 25 k1 i1 1)) 25 k1 i1 2)) 25 k0 i0 3 ((up (up (up σ 25 k0 i0 0 (bz (σ 25 k1 i1 0))) 25 k0 i0 1 ((up σ 25 k0 i0 0 (bz (σ 25 k1 i1 0))) 25 k1 i1 1)) 25 k0 i0 2 ((up (up σ 25 k0 i0 0 (bz (σ 25 k1 i1 0))) 25 k0 i0 1 ((up σ 25 k0 i0 0 (bz (σ 25 k1 i1 0))) 25 k1 i1 1)) 25 k1 i1 2)) 25 k1 i1 3)) 25 k0 i0 4 ((up (up (up (up σ 25 k0 i0 0 (bz (σ 25 k1 i1 0))) 25 k0 i0 1 ((up σ 25 k0 i0 0 (bz (σ 25 k1 i1 0))) 25 k1 i1 1)) 25 k0 i0 2 ((up (up σ 25 k0 i0 0 (bz (σ 25 k1 i1 0))) 25 k0 i0 1 ((up σ 25 k0 i0 0 (bz (σ 25 k1 i1 0))) 25 k1 i1 1)) 25 k1 i1 2)) 25 k0 i0 3 ((up (up (up σ 25 k0 i0 0 (bz (σ 25 k1 i1 0))) 25 k0 i0 1 ((up σ 25 k0 i0 0 (bz (σ 25 k1 i1 0))) 25 k1 i1 1)) 25 k0 i0 2 ((up (up σ 25 k0 i0 0 (bz (σ 25 k1 i1 0))) 25 k0 i0 1 ((up σ 25 k0 i0 0 (bz (σ 25 k1 i1 0))) 25 k1 i1 1)) 25 k1 i1 2)) 25 k1 i1 3)) 25 k1 i1 4)) 25 k1 i1 5)) 25 k0 i0 6 (bz ((up (up (up (up (up (up σ 25 k0 i0 0 (bz (σ 25 k1 i1 0))) 25 k0 i0 1 ((up σ 25 k0 i0 0 (bz (σ 25 k1 i1 0))) 25 k1 i1 1)) 25 k0 i0 2 ((up (up σ 25 k0 i0 0 (bz (σ 25 k1 i1 0))) 25 k0 i0 1 ((up σ 25 k0 i0 0 (bz (σ 25 k1 i1 0))) 25 k1 i1 1)) 25 k1 i1 2)) 25 k0 i0 3 ((up (up (up σ 25 k0 i0 0 (bz (σ 25 k1 i1 0))) 25 k0 i0 1 ((up σ 25 k0 i0 0 (bz (σ 25 k1 i1 0))) 25 k1 i1 1)) 25 k0 i0 2 ((up (up σ 25 k0 i0 0 (bz (σ 25 k1 i1 0))) 25 k0 i0 1 ((up σ 25 k0 i0 0 (bz (σ 25 k1 i1 0))) 25 k1 i1 1)) 25 k1 i1 2)) 25 k1 i1 3)) 25 k0 i0 4 ((up (up (up (up σ 25 k0 i0 0 (bz (σ 25 k1 i1 0))) 25 k0 i0 1 ((up σ 25 k0 i0 0 (bz (σ 25 k1 i1 0))) 25 k1 i1 1)) 25 k0 i0 2 ((up (up σ 25 k0 i0 0 (bz (σ 25 k1 i1 0))) 25 k0 i0 1 ((up σ 25 k0 i0 0 (bz (σ 25 k1 i1 0))) 25 k1 i1 1)) 25 k1 i1 2)) 25 k0 i0 3 ((up (up (up σ 25 k0 i0 0 (bz (σ 25 k1 i1 0))) 25 k0 i0 1 ((up σ 25 k0 i0 0 (bz (σ 25 k1 i1 0))) 25 k1 i1 1)) 25 k0 i0 2 ((up (up σ 25 k0 i0 0 (bz (σ 25 k1 i1 0))) 25 k0 i0 1 ((up σ 25 k0 i0 0 (bz (σ 25 k1 i1 0))) 25 k1 i1 1)) 25 k1 i1 2)) 25 k1 i1 3)) 25 k1 i1 4)) 25 k0 i0 5 ((up (up (up (up (up σ 25 k0 i0 0 (bz (σ 25 k1 i1 0))) 25 k0 i0 1 ((up σ 25 k0 i0 0 (bz (σ 25 k1 i1 0))) 25 k1 i1 1)) 25 k0 i0 2 ((up (up σ 25 k0 i0 0 (bz (σ 25 k1 i1 0))) 25 k0 i0 1 ((up σ 25 k0 i0 0 (bz (σ 25 k1 i1 0))) 25 k1 i1 1)) 25 k1 i1 2)) 25 k0 i0 3 ((up (up (up σ 25 k0 i0 0 (bz (σ 25 k1 i1 0))) 25 k0 i0 1 ((up σ 25 k0 i0 0 (bz (σ 25 k1 i1 0))) 25 k1 i1 1)) 25 k0 i0 2 ((up (up σ 25 k0 i0 0 (bz (σ 25 k1 i1 0))) 25 k0 i0 1 ((up σ 25 k0 i0 0 (bz (σ 25 k1 i1 0))) 25 k1 i1 1)) 25 k1 i1 2)) 25 k1 i1 3)) 25 k0 i0 4 ((up (up (up (up σ 25 k0 i0 0 (bz (σ 25 k1 i1 0))) 25 k0 i0 1 ((up σ 25 k0 i0 0 (bz (σ 25 k1 i1 0))) 25 k1 i1 1)) 25 k0 i0 2 ((up (up σ 25 k0 i0 0 (bz (σ 25 k1 i1 0))) 25 k0 i0 1 ((up σ 25 k0 i0 0 (bz (σ 25 k1 i1 0))) 25 k1 i1 1)) 25 k1 i1 2)) 25 k0 i0 3 ((up (up (up σ 25 k0 i0 0 (bz (σ 25 k1 i1 0))) 25 k0 i0 1 ((up σ 25 k0 i0 0 (bz (σ 25 k1 i1 0))) 25 k1 i1 1)) 25 k0 i0 2 ((up (up σ 25 k0 i0 0 (bz (σ 25 k1 i1 0))) 25 k0 i0 1 ((up σ 25 k0 i0 0 (bz (σ 25 k1 i1 0))) 25 k1 i1 1)) 25 k1 i1 2)) 25 k1 i1 3)) 25 k1 i1 4)) 25 k1 i1 5)) 25 k1 i1 6))) 25 k1 i1 7)) 25 k0 i0 8 (bz ((up (up (up (up (up (up (up (up σ 25 k0 i0 0 (bz (σ 25 k1 i1 0))) 25 k0 i0 1 ((up σ 25 k0 i0 0 (bz (σ 25 k1 i1 0))) 25 k1 i1 1)) 25 k0 i0 2 ((up (up σ 25 k0 i0 0 (bz (σ 25 k1 i1 0))) 25 k0 i0 1 ((up σ 25 k0 i0 0 (bz (σ 25 k1 i1 0))) 25 k1 i1 1)) 25 k1 i1 2)) 25 k0 i0 3 ((up (up (up σ 25 k0 i0 0 (bz (σ 25 k1 i1 0))) 25 k0 i0 1 ((up σ 25 k0 i0 0 (bz (σ 25 k1 i1 0))) 25 k1 i1 1)) 25 k0 i0 2 ((up (up σ 25 k0 i0 0 (bz (σ 25 k1 i1 0))) 25 k0 i0 1 ((up σ 25 k0 i0 0 (bz (σ 25 k1 i1 0))) 25 k1 i1 1)) 25 k1 i1 2)) 25 k1 i1 3)) 25 k0 i0 4 ((up (up (up (up σ 25 k0 i0 0 (bz (σ 25 k1 i1 0))) 25 k0 i0 1 ((up σ 25 k0 i0 0 (bz (σ 25 k1 i1 0))) 25 k1 i1 1)) 25 k0 i0 2 ((up (up σ 25 k0 i0 0 (bz (σ 25 k1 i1 0))) 25 k0 i0 1 ((up σ 25 k0 i0 0 (bz (σ 25 k1 i1 0))) 25 k1 i1 1)) 25 k1 i1 2)) 25 k0 i0 3 ((up (up (up σ 25 k0 i0 0 (bz (σ 25 k1 i1 0))) 25 k0 i0 1 ((up σ 25 k0 i0 0 (bz (σ 25 k1 i1 0))) 25 k1 i1 1)) 25 k0 i0 2 ((up (up σ 25 k0 i0 0 (bz (σ 25 k1 i1 0))) 25 k0 i0 1 ((up σ 25 k0 i0 0 (bz (σ 25 k1 i1 0))) 25 k1 i1 1)) 25 k1 i1 2)) 25 k1 i1 3)) 25 k1 i1 4)) 25 k0 i0 5 ((up (up (up (up (up σ 25 k0 i0 0 (bz (σ 25 k1 i1 0))) 25 k0 i0 1 ((up σ 25 k0 i0 0 (bz (σ 25 k1 i1 0))) 25 k1 i1 1)) 25 k0 i0 2 ((up (up σ 25 k0 i0 0 (bz (σ 25 k1 i1 0))) 25 k0 i0 1 ((up σ 25 k0 i0 0 (bz (σ 25 k1 i1 0))) 25 k1 i1 1)) 25 k1 i1 2)) 25 k0 i0 3 ((up (up (up σ 25 k0 i0 0 (bz (σ 25 k1 i1 0))) 25 k0 i0 1 ((up σ 25 k0 i0 0 (bz (σ 25 k1 i1 0))) 25 k1 i1 1)) 25 k0 i0 2 ((up (up σ 25 k0 i0 0 (bz (σ 25 k1 i1 0))) 25 k0 i0 1 ((up σ 25 k0 i0 0 (bz (σ 25 k1 i1 0))) 25 k1 i1 1)) 25 k1 i1 2)) 25 k1 i1 3)) 25 k0 i0 4 ((up (up (up (up σ 25 k0 i0 0 (bz (σ 25 k1 i1 0))) 25 k0 i0 1 ((up σ 25 k0 i0 0 (bz (σ 25 k1 i1 0))) 25 k1 i1 1)) 25 k0 i0 2 ((up (up σ 25 k0 i0 0 (bz (σ 25 k1 i1 0))) 25 k0 i0 1 ((up σ 25 k0 i0 0 (bz (σ 25 k1 i1 0))) 25 k1 i1 1)) 25 k1 i1 2)) 25 k0 i0 3 ((up (up (up σ 25 k0 i0 0 (bz (σ 25 k1 i1 0))) 25 k0 i0 1 ((up σ 25 k0 i0 0 (bz (σ 25 k1 i1 0))) 25 k1 i1 1)) 25 k0 i0 2 ((up (up σ 25 k0 i0 0 (bz (σ 25 k1 i1 0))) 25 k0 i0 1 ((up σ 25 k0 i0 0 (bz (σ 25 k1 i1 0))) 25 k1 i1 1)) 25 k1 i1 2)) 25 k1 i1 3)) 25 k1 i1 4)) 25 k1 i1 5)) 25 k0 i0 6 (bz ((up (up (up (up (up (up σ 25 k0 i0 0 (bz (σ 25 k1 i1 0))) 25 k0 i0 1 ((up σ 25 k0 i0 0 (bz (σ 25 k1 i1 0))) 25 k1 i1 1)) 25 k0 i0 2 ((up (up σ 25 k0 i0 0 (bz (σ 25 k1 i1 0))) 25 k0 i0 1 ((up σ 25 k0 i0 0 (bz (σ 25 k1 i1 0))) 25 k1 i1 1)) 25 k1 i1 2)) 25 k0 i0 3 ((up (up (up σ 25 k0 i0 0 (bz (σ 25 k1 i1 0))) 25 k0 i0 1 ((up σ 25 k0 i0 0 (bz (σ 25 k1 i1 0))) 25 k1 i1 1)) 25 k0 i0 2 ((up (up σ 25 k0 i0 0 (bz (σ 25 k1 i1 0))) 25 k0 i0 1 ((up σ 25 k0 i0 0 (bz (σ 25 k1 i1 0))) 25 k1 i1 1)) 25 k1 i1 2)) 25 k1 i1 3)) 25 k0 i0 4 ((up (up (up (up σ 25 k0 i0 0 (bz (σ 25 k1 i1 0))) 25 k0 i0 1 ((up σ 25 k0 i0 0 (bz (σ 25 k1 i1 0))) 25 k1 i1 1)) 25 k0 i0 2 ((up (up σ 25 k0 i0 0 (bz (σ 25 k1 i1 0))) 25 k0 i0 1 ((up σ 25 k0 i0 0 (bz (σ 25 k1 i1 0))) 25 k1 i1 1)) 25 k1 i1 2)) 25 k0 i0 3 ((up (up (up σ 25 k0 i0 0 (bz (σ 25 k1 i1 0))) 25 k0 i0 1 ((up σ 25 k0 i0 0 (bz (σ 25 k1 i1 0))) 25 k1 i1 1)) 25 k0 i0 2 ((up (up σ 25 k0 i0 0 (bz (σ 25 k1 i1 0))) 25 k0 i0 1 ((up σ 25 k0 i0 0 (bz (σ 25 k1 i1 0))) 25 k1 i1 1)) 25 k1 i1 2)) 25 k1 i1 3)) 25 k1 i1 4)) 25 k0 i0 5 ((up (up (up (up (up σ 25 k0 i0 0 (bz (σ 25 k1 i1 0))) 25 k0 i0 1 ((up σ 25 k0 i0 0 (bz (σ 25 k1 i1 0))) 25 k1 i1 1)) 25 k0 i0 2 ((up (up σ 25 k0 i0 0 (bz (σ 25 k1 i1 0))) 25 k0 i0 1 ((up σ 25 k0 i0 0 (bz (σ 25 k1 i1 0))) 25 k1 i1 1)) 25 k1 i1 2)) 25 k0 i0 3 ((up (up (up σ 25 k0 i0 0 (bz (σ 25 k1 i1 0))) 25 k0 i0 1 ((up σ 25 k0 i0 0 (bz (σ 25 k1 i1 0))) 25 k1 i1 1)) 25 k0 i0 2 ((up (up σ 25 k0 i0 0 (bz (σ 25 k1 i1 0))) 25 k0 i0 1 ((up σ 25 k0 i0 0 (bz (σ 25 k1 i1 0))) 25 k1 i1 1)) 25 k1 i1 2)) 25 k1 i1 3)) 25 k0 i0 4 ((up (up (up (up σ 25 k0 i0 0 (bz (σ 25 k1 i1 0))) 25 k0 i0 1 ((up σ 25 k0 i0 0 (bz (σ 25 k1 i1 0))) 25 k1 i1 1)) 25 k0 i0 2 ((up (up σ 25 k0 i0 0 (bz (σ 25 k1 i1 0))) 25 k0 i0 1 ((up σ 25 k0 i0 0 (bz (σ 25 k1 i1 0))) 25 k1 i1 1)) 25 k1 i1 2)) 25 k0 i0 3 ((up (up (up σ 25 k0 i0 0 (bz (σ 25 k1 i1 0))) 25 k0 i0 1 ((up σ 25 k0 i0 0 (bz (σ 25 k1 i1 0))) 25 k1 i1 1)) 25 k0 i0 2 ((up (up σ 25 k0 i0 0 (bz (σ 25 k1 i1 0))) 25 k0 i0 1 ((up σ 25 k0 i0 0 (bz (σ 25 k1 i1 0))) 25 k1 i1 1)) 25 k1 i1 2)) 25 k1 i1 3)) 25 k1 i1 4)) 25 k1 i1 5)) 25 k1 i1 6))) 25 k0 i0 7 ((up (up (up (up (up (up (up σ 25 k0 i0 0 (bz (σ 25 k1 i1 0))) 25 k0 i0 1 ((up σ 25 k0 i0 0 (bz (σ 25 k1 i1 0))) 25 k1 i1 1)) 25 k0 i0 2 ((up (up σ 25 k0 i0 0 (bz (σ 25 k1 i1 0))) 25 k0 i0 1 ((up σ 25 k0 i0 0 (bz (σ 25 k1 i1 0))) 25 k1 i1 1)) 25 k1 i1 2)) 25 k0 i0 3 ((up (up (up σ 25 k0 i0 0 (bz (σ 25 k1 i1 0))) 25 k0 i0 1 ((up σ 25 k0 i0 0 (bz (σ 25 k1 i1 0))) 25 k1 i1 1)) 25 k0 i0 2 ((up (up σ 25 k0 i0 0 (bz (σ 25 k1 i1 0))) 25 k0 i0 1 ((up σ 25 k0 i0 0 (bz (σ 25 k1 i1 0))) 25 k1 i1 1)) 25 k1 i1 2)) 25 k1 i1 3)) 25 k0 i0 4 ((up (up (up (up σ 25 k0 i0 0 (bz (σ 25 k1 i1 0))) 25 k0 i0 1 ((up σ 25 k0 i0 0 (bz (σ 25 k1 i1 0))) 25 k1 i1 1)) 25 k0 i0 2 ((up (up σ 25 k0 i0 0 (bz (σ 25 k1 i1 0))) 25 k0 i0 1 ((up σ 25 k0 i0 0 (bz (σ 25 k1 i1 0))) 25 k1 i1 1)) 25 k1 i1 2)) 25 k0 i0 3 ((up (up (up σ 25 k0 i0 0 (bz (σ 25 k1 i1 0))) 25 k0 i0 1 ((up σ 25 k0 i0 0 (bz (σ 25 k1 i1 0))) 25 k1 i1 1)) 25 k0 i0 2 ((up (up σ 25 k0 i0 0 (bz (σ 25 k1 i1 0))) 25 k0 i0 1 ((up σ 25 k0 i0 0 (bz (σ 25 k1 i1 0))) 25 k1 i1 1)) 25 k1 i1 2)) 25 k1 i1 3)) 25 k1 i1 4)) 25 k0 i0 5 ((up (up (up (up (up σ 25 k0 i0 0 (bz (σ 25 k1 i1 0))) 25 k0 i0 1 ((up σ 25 k0 i0 0 (bz (σ 25 k1 i1 0))) 25 k1 i1 1)) 25 k0 i0 2 ((up (up σ 25 k0 i0 0 (bz (σ 25 k1 i1 0))) 25 k0 i0 1 ((up σ 25 k0 i0 0 (bz (σ 25 k1 i1 0))) 25 k1 i1 1)) 25 k1 i1 2)) 25 k0 i0 3 ((up (up (up σ 25 k0 i0 0 (bz (σ 25 k1 i1 0))) 25 k0 i0 1 ((up σ 25 k0 i0 0 (bz (σ 25 k1 i1 0))) 25 k1 i1 1)) 25 k0 i0 2 ((up (up σ 25 k0 i0 0 (bz (σ 25 k1 i1 0))) 25 k0 i0 1 ((up σ 25 k0 i0 0 (bz (σ 25 k1 i1 0))) 25 k1 i1 1)) 25 k1 i1 2)) 25 k1 i1 3)) 25 k0 i0 4 ((up (up (up (up σ 25 k0 i0 0 (bz (σ 25 k1 i1 0))) 25 k0 i0 1 ((up σ 25 k0 i0 0 (bz (σ 25 k1 i1 0))) 25 k1 i1 1)) 25 k0 i0 2 ((up (up σ 25 k0 i0 0 (bz (σ 25 k1 i1 0))) 25 k0 i0 1 ((up σ 25 k0 i0 0 (bz (σ 25 k1 i1 0))) 25 k1 i1 1)) 25 k1 i1 2)) 25 k0 i0 3 ((up (up (up σ 25 k0 i0 0 (bz (σ 25 k1 i1 0))) 25 k0 i0 1 ((up σ 25 k0 i0 0 (bz (σ 25 k1 i1 0))) 25 k1 i1 1)) 25 k0 i0 2 ((up (up σ 25 k0 i0 0 (bz (σ 25 k1 i1 0))) 25 k0 i0 1 ((up σ 25 k0 i0 0 (bz (σ 25 k1 i1 0))) 25 k1 i1 1)) 25 k1 i1 2)) 25 k1 i1 3)) 25 k1 i1 4)) 25 k1 i1 5)) 25 k0 i0 6 (bz ((up (up (up (up (up (up σ 25 k0 i0 0 (bz (σ 25 k1 i1 0))) 25 k0 i0 1 ((up σ 25 k0 i0 0 (bz (σ 25 k1 i1 0))) 25 k1 i1 1)) 25 k0 i0 2 ((up (up σ 25 k0 i0 0 (bz (σ 25 k1 i1 0))) 25 k0 i0 1 ((up σ 25 k0 i0 0 (bz (σ 25 k1 i1 0))) 25 k1 i1 1)) 25 k1 i1 2)) 25 k0 i0 3 ((up (up (up σ 25 k0 i0 0 (bz (σ 25 k1 i1 0))) 25 k0 i0 1 ((up σ 25 k0 i0 0 (bz (σ 25 k1 i1 0))) 25 k1 i1 1)) 25 k0 i0 2 ((up (up σ 25 k0 i0 0 (bz (σ 25 k1 i1 0))) 25 k0 i0 1 ((up σ 25 k0 i0 0 (bz (σ 25 k1 i1 0))) 25 k1 i1 1)) 25 k1 i1 2)) 25 k1 i1 3)) 25 k0 i0 4 ((up (up (up (up σ 25 k0 i0 0 (bz (σ 25 k1 i1 0))) 25 k0 i0 1 ((up σ 25 k0 i0 0 (bz (σ 25 k1 i1 0))) 25 k1 i1 1)) 25 k0 i0 2 ((up (up σ 25 k0 i0 0 (bz (σ 25 k1 i1 0))) 25 k0 i0 1 ((up σ 25 k0 i0 0 (bz (σ 25 k1 i1 0))) 25 k1 i1 1)) 25 k1 i1 2)) 25 k0 i0 3 ((up (up (up σ 25 k0 i0 0 (bz (σ 25 k1 i1 0))) 25 k0 i0 1 ((up σ 25 k0 i0 0 (bz (σ 25 k1 i1 0))) 25 k1 i1 1)) 25 k0 i0 2 ((up (up σ 25 k0 i0 0 (bz (σ 25 k1 i1 0))) 25 k0 i0 1 ((up σ 25 k0 i0 0 (bz (σ 25 k1 i1 0))) 25 k1 i1 1)) 25 k1 i1 2)) 25 k1 i1 3)) 25 k1 i1 4)) 25 k0 i0 5 ((up (up (up (up (up σ 25 k0 i0 0 (bz (σ 25 k1 i1 0))) 25 k0 i0 1 ((up σ 25 k0 i0 0 (bz (σ 25 k1 i1 0))) 25 k1 i1 1)) 25 k0 i0 2 ((up (up σ 25 k0 i0 0 (bz (σ 25 k1 i1 0))) 25 k0 i0 1 ((up σ 25 k0 i0 0 (bz (σ 25 k1 i1 0))) 25 k1 i1 1)) 25 k1 i1 2)) 25 k0 i0 3 ((up (up (up σ 25 k0 i0 0 (bz (σ 25 k1 i1 0))) 25 k0 i0 1 ((up σ 25 k0 i0 0 (bz (σ 25 k1 i1 0))) 25 k1 i1 1)) 25 k0 i0 2 ((up (up σ 25 k0 i0 0 (bz (σ 25 k1 i1 0))) 25 k0 i0 1 ((up σ 25 k0 i0 0 (bz (σ 25 k1 i1 0))) 25 k1 i1 1)) 25 k1 i1 2)) 25 k1 i1 3)) 25 k0 i0 4 ((up (up (up (up σ 25 k0 i0 0 (bz (σ 25 k1 i1 0))) 25 k0 i0 1 ((up σ 25 k0 i0 0 (bz (σ 25 k1 i1 0))) 25 k1 i1 1)) 25 k0 i0 2 ((up (up σ 25 k0 i0 0 (bz (σ 25 k1 i1 0))) 25 k0 i0 1 ((up σ 25 k0 i0 0 (bz (σ 25 k1 i1 0))) 25 k1 i1 1)) 25 k1 i1 2)) 25 k0 i0 3 ((up (up (up σ 25 k0 i0 0 (bz (σ 25 k1 i1 0))) 25 k0 i0 1 ((up σ 25 k0 i0 0 (bz (σ 25 k1 i1 0))) 25 k1 i1 1)) 25 k0 i0 2 ((up (up σ 25 k0 i0 0 (bz (σ 25 k1 i1 0))) 25 k0 i0 1 ((up σ 25 k0 i0 0 (bz (σ 25 k1 i1 0))) 25 k1 i1 1)) 25 k1 i1 2)) 25 k1 i1 3)) 25 k1 i1 4)) 25 k1 i1 5)) 25 k1 i1 6))) 25 k1 i1 7)) 25 k1 i1 8)))) :
  wpM m_Copy_take [.inr (.inr (25, k0, i0)), .inr (.inr (25, k1, i1))] σ Q :=
 wpM_of ml_50 (L := [some (.inr (.inr (25, k0, i0))), some (.inr (.inr (25, k1, i1)))]) rfl
 (w_aload_n (p' := 1) f_50_0 rfl rfl
 (w_aload_n (p' := 2) f_50_1 rfl rfl
 (w_getfield (p' := 5) f_50_2 rfl (x := .inl (bz (σ 25 k1 i1 0))) rfl rfl
 (w_putZ (p' := 8) f_50_5 rfl rfl (c' := 0) rfl h.1 rfl
 (w_aload_n (p' := 9) f_50_8 rfl rfl
 (w_aload_n (p' := 10) f_50_9 rfl rfl
 (w_getfield (p' := 13) f_50_10 rfl (x := .inl ((up σ 25 k0 i0 0 (bz (σ 25 k1 i1 0))) 25 k1 i1 1)) rfl rfl
 (w_putI (p' := 16) f_50_13 rfl rfl (c' := 1) rfl rfl
 (w_aload_n (p' := 17) f_50_16 rfl rfl
 (w_aload_n (p' := 18) f_50_17 rfl rfl
 (w_getfield (p' := 21) f_50_18 rfl (x := .inl ((up (up σ 25 k0 i0 0 (bz (σ 25 k1 i1 0))) 25 k0 i0 1 ((up σ 25 k0 i0 0 (bz (σ 25 k1 i1 0))) 25 k1 i1 1)) 25 k1 i1 2)) rfl rfl
 (w_putI (p' := 24) f_50_21 rfl rfl (c' := 2) rfl rfl
 (w_aload_n (p' := 25) f_50_24 rfl rfl
 (w_aload_n (p' := 26) f_50_25 rfl rfl
 (w_getfield (p' := 29) f_50_26 rfl (x := .inl ((up (up (up σ 25 k0 i0 0 (bz (σ 25 k1 i1 0))) 25 k0 i0 1 ((up σ 25 k0 i0 0 (bz (σ 25 k1 i1 0))) 25 k1 i1 1)) 25 k0 i0 2 ((up (up σ 25 k0 i0 0 (bz (σ 25 k1 i1 0))) 25 k0 i0 1 ((up σ 25 k0 i0 0 (bz (σ 25 k1 i1 0))) 25 k1 i1 1)) 25 k1 i1 2)) 25 k1 i1 3)) rfl rfl
 (w_putI (p' := 32) f_50_29 rfl rfl (c' := 3) rfl rfl
 (w_aload_n (p' := 33) f_50_32 rfl rfl
 (w_aload_n (p' := 34) f_50_33 rfl rfl
 (w_getfield (p' := 37) f_50_34 rfl (x := .inl ((up (up (up (up σ 25 k0 i0 0 (bz (σ 25 k1 i1 0))) 25 k0 i0 1 ((up σ 25 k0 i0 0 (bz (σ 25 k1 i1 0))) 25 k1 i1 1)) 25 k0 i0 2 ((up (up σ 25 k0 i0 0 (bz (σ 25 k1 i1 0))) 25 k0 i0 1 ((up σ 25 k0 i0 0 (bz (σ 25 k1 i1 0))) 25 k1 i1 1)) 25 k1 i1 2)) 25 k0 i0 3 ((up (up (up σ 25 k0 i0 0 (bz (σ 25 k1 i1 0))) 25 k0 i0 1 ((up σ 25 k0 i0 0 (bz (σ 25 k1 i1 0))) 25 k1 i1 1)) 25 k0 i0 2 ((up (up σ 25 k0 i0 0 (bz (σ 25 k1 i1 0))) 25 k0 i0 1 ((up σ 25 k0 i0 0 (bz (σ 25 k1 i1 0))) 25 k1 i1 1)) 25 k1 i1 2)) 25 k1 i1 3)) 25 k1 i1 4)) rfl rfl
 (w_putI (p' := 40) f_50_37 rfl rfl (c' := 4) rfl rfl
 (w_aload_n (p' := 41) f_50_40 rfl rfl
 (w_aload_n (p' := 42) f_50_41 rfl rfl
 (w_getfield (p' := 45) f_50_42 rfl (x := .inl ((up (up (up (up (up σ 25 k0 i0 0 (bz (σ 25 k1 i1 0))) 25 k0 i0 1 ((up σ 25 k0 i0 0 (bz (σ 25 k1 i1 0))) 25 k1 i1 1)) 25 k0 i0 2 ((up (up σ 25 k0 i0 0 (bz (σ 25 k1 i1 0))) 25 k0 i0 1 ((up σ 25 k0 i0 0 (bz (σ 25 k1 i1 0))) 25 k1 i1 1)) 25 k1 i1 2)) 25 k0 i0 3 ((up (up (up σ 25 k0 i0 0 (bz (σ 25 k1 i1 0))) 25 k0 i0 1 ((up σ 25 k0 i0 0 (bz (σ 25 k1 i1 0))) 25 k1 i1 1)) 25 k0 i0 2 ((up (up σ 25 k0 i0 0 (bz (σ 25 k1 i1 0))) 25 k0 i0 1 ((up σ 25 k0 i0 0 (bz (σ 25 k1 i1 0))) 25 k1 i1 1)) 25 k1 i1 2)) 25 k1 i1 3)) 25 k0 i0 4 ((up (up (up (up σ 25 k0 i0 0 (bz (σ 25 k1 i1 0))) 25 k0 i0 1 ((up σ 25 k0 i0 0 (bz (σ 25 k1 i1 0))) 25 k1 i1 1)) 25 k0 i0 2 ((up (up σ 25 k0 i0 0 (bz (σ 25 k1 i1 0))) 25 k0 i0 1 ((up σ 25 k0 i0 0 (bz (σ 25 k1 i1 0))) 25 k1 i1 1)) 25 k1 i1 2)) 25 k0 i0 3 ((up (up (up σ 25 k0 i0 0 (bz (σ 25 k1 i1 0))) 25 k0 i0 1 ((up σ 25 k0 i0 0 (bz (σ 25 k1 i1 0))) 25 k1 i1 1)) 25 k0 i0 2 ((up (up σ 25 k0 i0 0 (bz (σ 25 k1 i1 0))) 25 k0 i0 1 ((up σ 25 k0 i0 0 (bz (σ 25 k1 i1 0))) 25 k1 i1 1)) 25 k1 i1 2)) 25 k1 i1 3)) 25 k1 i1 4)) 25 k1 i1 5)) rfl rfl
 (w_putI (p' := 48) f_50_45 rfl rfl (c' := 5) rfl rfl
 (w_aload_n (p' := 49) f_50_48 rfl rfl
 (w_aload_n (p' := 50) f_50_49 rfl rfl
 (w_getfield (p' := 53) f_50_50 rfl (x := .inl (bz ((up (up (up (up (up (up σ 25 k0 i0 0 (bz (σ 25 k1 i1 0))) 25 k0 i0 1 ((up σ 25 k0 i0 0 (bz (σ 25 k1 i1 0))) 25 k1 i1 1)) 25 k0 i0 2 ((up (up σ 25 k0 i0 0 (bz (σ 25 k1 i1 0))) 25 k0 i0 1 ((up σ 25 k0 i0 0 (bz (σ 25 k1 i1 0))) 25 k1 i1 1)) 25 k1 i1 2)) 25 k0 i0 3 ((up (up (up σ 25 k0 i0 0 (bz (σ 25 k1 i1 0))) 25 k0 i0 1 ((up σ 25 k0 i0 0 (bz (σ 25 k1 i1 0))) 25 k1 i1 1)) 25 k0 i0 2 ((up (up σ 25 k0 i0 0 (bz (σ 25 k1 i1 0))) 25 k0 i0 1 ((up σ 25 k0 i0 0 (bz (σ 25 k1 i1 0))) 25 k1 i1 1)) 25 k1 i1 2)) 25 k1 i1 3)) 25 k0 i0 4 ((up (up (up (up σ 25 k0 i0 0 (bz (σ 25 k1 i1 0))) 25 k0 i0 1 ((up σ 25 k0 i0 0 (bz (σ 25 k1 i1 0))) 25 k1 i1 1)) 25 k0 i0 2 ((up (up σ 25 k0 i0 0 (bz (σ 25 k1 i1 0))) 25 k0 i0 1 ((up σ 25 k0 i0 0 (bz (σ 25 k1 i1 0))) 25 k1 i1 1)) 25 k1 i1 2)) 25 k0 i0 3 ((up (up (up σ 25 k0 i0 0 (bz (σ 25 k1 i1 0))) 25 k0 i0 1 ((up σ 25 k0 i0 0 (bz (σ 25 k1 i1 0))) 25 k1 i1 1)) 25 k0 i0 2 ((up (up σ 25 k0 i0 0 (bz (σ 25 k1 i1 0))) 25 k0 i0 1 ((up σ 25 k0 i0 0 (bz (σ 25 k1 i1 0))) 25 k1 i1 1)) 25 k1 i1 2)) 25 k1 i1 3)) 25 k1 i1 4)) 25 k0 i0 5 ((up (up (up (up (up σ 25 k0 i0 0 (bz (σ 25 k1 i1 0))) 25 k0 i0 1 ((up σ 25 k0 i0 0 (bz (σ 25 k1 i1 0))) 25 k1 i1 1)) 25 k0 i0 2 ((up (up σ 25 k0 i0 0 (bz (σ 25 k1 i1 0))) 25 k0 i0 1 ((up σ 25 k0 i0 0 (bz (σ 25 k1 i1 0))) 25 k1 i1 1)) 25 k1 i1 2)) 25 k0 i0 3 ((up (up (up σ 25 k0 i0 0 (bz (σ 25 k1 i1 0))) 25 k0 i0 1 ((up σ 25 k0 i0 0 (bz (σ 25 k1 i1 0))) 25 k1 i1 1)) 25 k0 i0 2 ((up (up σ 25 k0 i0 0 (bz (σ 25 k1 i1 0))) 25 k0 i0 1 ((up σ 25 k0 i0 0 (bz (σ 25 k1 i1 0))) 25 k1 i1 1)) 25 k1 i1 2)) 25 k1 i1 3)) 25 k0 i0 4 ((up (up (up (up σ 25 k0 i0 0 (bz (σ 25 k1 i1 0))) 25 k0 i0 1 ((up σ 25 k0 i0 0 (bz (σ 25 k1 i1 0))) 25 k1 i1 1)) 25 k0 i0 2 ((up (up σ 25 k0 i0 0 (bz (σ 25 k1 i1 0))) 25 k0 i0 1 ((up σ 25 k0 i0 0 (bz (σ 25 k1 i1 0))) 25 k1 i1 1)) 25 k1 i1 2)) 25 k0 i0 3 ((up (up (up σ 25 k0 i0 0 (bz (σ 25 k1 i1 0))) 25 k0 i0 1 ((up σ 25 k0 i0 0 (bz (σ 25 k1 i1 0))) 25 k1 i1 1)) 25 k0 i0 2 ((up (up σ 25 k0 i0 0 (bz (σ 25 k1 i1 0))) 25 k0 i0 1 ((up σ 25 k0 i0 0 (bz (σ 25 k1 i1 0))) 25 k1 i1 1)) 25 k1 i1 2)) 25 k1 i1 3)) 25 k1 i1 4)) 25 k1 i1 5)) 25 k1 i1 6))) rfl rfl
 (w_putZ (p' := 56) f_50_53 rfl rfl (c' := 6) rfl h.2.1 rfl
 (w_aload_n (p' := 57) f_50_56 rfl rfl
 (w_aload_n (p' := 58) f_50_57 rfl rfl
 (w_getfield (p' := 61) f_50_58 rfl (x := .inl ((up (up (up (up (up (up (up σ 25 k0 i0 0 (bz (σ 25 k1 i1 0))) 25 k0 i0 1 ((up σ 25 k0 i0 0 (bz (σ 25 k1 i1 0))) 25 k1 i1 1)) 25 k0 i0 2 ((up (up σ 25 k0 i0 0 (bz (σ 25 k1 i1 0))) 25 k0 i0 1 ((up σ 25 k0 i0 0 (bz (σ 25 k1 i1 0))) 25 k1 i1 1)) 25 k1 i1 2)) 25 k0 i0 3 ((up (up (up σ 25 k0 i0 0 (bz (σ 25 k1 i1 0))) 25 k0 i0 1 ((up σ 25 k0 i0 0 (bz (σ 25 k1 i1 0))) 25 k1 i1 1)) 25 k0 i0 2 ((up (up σ 25 k0 i0 0 (bz (σ 25 k1 i1 0))) 25 k0 i0 1 ((up σ 25 k0 i0 0 (bz (σ 25 k1 i1 0))) 25 k1 i1 1)) 25 k1 i1 2)) 25 k1 i1 3)) 25 k0 i0 4 ((up (up (up (up σ 25 k0 i0 0 (bz (σ 25 k1 i1 0))) 25 k0 i0 1 ((up σ 25 k0 i0 0 (bz (σ 25 k1 i1 0))) 25 k1 i1 1)) 25 k0 i0 2 ((up (up σ 25 k0 i0 0 (bz (σ 25 k1 i1 0))) 25 k0 i0 1 ((up σ 25 k0 i0 0 (bz (σ 25 k1 i1 0))) 25 k1 i1 1)) 25 k1 i1 2)) 25 k0 i0 3 ((up (up (up σ 25 k0 i0 0 (bz (σ 25 k1 i1 0))) 25 k0 i0 1 ((up σ 25 k0 i0 0 (bz (σ 25 k1 i1 0))) 25 k1 i1 1)) 25 k0 i0 2 ((up (up σ 25 k0 i0 0 (bz (σ 25 k1 i1 0))) 25 k0 i0 1 ((up σ 25 k0 i0 0 (bz (σ 25 k1 i1 0))) 25 k1 i1 1)) 25 k1 i1 2)) 25 k1 i1 3)) 25 k1 i1 4)) 25 k0 i0 5 ((up (up (up (up (up σ 25 k0 i0 0 (bz (σ 25 k1 i1 0))) 25 k0 i0 1 ((up σ 25 k0 i0 0 (bz (σ 25 k1 i1 0))) 25 k1 i1 1)) 25 k0 i0 2 ((up (up σ 25 k0 i0 0 (bz (σ 25 k1 i1 0))) 25 k0 i0 1 ((up σ 25 k0 i0 0 (bz (σ 25 k1 i1 0))) 25 k1 i1 1)) 25 k1 i1 2)) 25 k0 i0 3 ((up (up (up σ 25 k0 i0 0 (bz (σ 25 k1 i1 0))) 25 k0 i0 1 ((up σ 25 k0 i0 0 (bz (σ 25 k1 i1 0))) 25 k1 i1 1)) 25 k0 i0 2 ((up (up σ 25 k0 i0 0 (bz (σ 25 k1 i1 0))) 25 k0 i0 1 ((up σ 25 k0 i0 0 (bz (σ 25 k1 i1 0))) 25 k1 i1 1)) 25 k1 i1 2)) 25 k1 i1 3)) 25 k0 i0 4 ((up (up (up (up σ 25 k0 i0 0 (bz (σ 25 k1 i1 0))) 25 k0 i0 1 ((up σ 25 k0 i0 0 (bz (σ 25 k1 i1 0))) 25 k1 i1 1)) 25 k0 i0 2 ((up (up σ 25 k0 i0 0 (bz (σ 25 k1 i1 0))) 25 k0 i0 1 ((up σ 25 k0 i0 0 (bz (σ 25 k1 i1 0))) 25 k1 i1 1)) 25 k1 i1 2)) 25 k0 i0 3 ((up (up (up σ 25 k0 i0 0 (bz (σ 25 k1 i1 0))) 25 k0 i0 1 ((up σ 25 k0 i0 0 (bz (σ 25 k1 i1 0))) 25 k1 i1 1)) 25 k0 i0 2 ((up (up σ 25 k0 i0 0 (bz (σ 25 k1 i1 0))) 25 k0 i0 1 ((up σ 25 k0 i0 0 (bz (σ 25 k1 i1 0))) 25 k1 i1 1)) 25 k1 i1 2)) 25 k1 i1 3)) 25 k1 i1 4)) 25 k1 i1 5)) 25 k0 i0 6 (bz ((up (up (up (up (up (up σ 25 k0 i0 0 (bz (σ 25 k1 i1 0))) 25 k0 i0 1 ((up σ 25 k0 i0 0 (bz (σ 25 k1 i1 0))) 25 k1 i1 1)) 25 k0 i0 2 ((up (up σ 25 k0 i0 0 (bz (σ 25 k1 i1 0))) 25 k0 i0 1 ((up σ 25 k0 i0 0 (bz (σ 25 k1 i1 0))) 25 k1 i1 1)) 25 k1 i1 2)) 25 k0 i0 3 ((up (up (up σ 25 k0 i0 0 (bz (σ 25 k1 i1 0))) 25 k0 i0 1 ((up σ 25 k0 i0 0 (bz (σ 25 k1 i1 0))) 25 k1 i1 1)) 25 k0 i0 2 ((up (up σ 25 k0 i0 0 (bz (σ 25 k1 i1 0))) 25 k0 i0 1 ((up σ 25 k0 i0 0 (bz (σ 25 k1 i1 0))) 25 k1 i1 1)) 25 k1 i1 2)) 25 k1 i1 3)) 25 k0 i0 4 ((up (up (up (up σ 25 k0 i0 0 (bz (σ 25 k1 i1 0))) 25 k0 i0 1 ((up σ 25 k0 i0 0 (bz (σ 25 k1 i1 0))) 25 k1 i1 1)) 25 k0 i0 2 ((up (up σ 25 k0 i0 0 (bz (σ 25 k1 i1 0))) 25 k0 i0 1 ((up σ 25 k0 i0 0 (bz (σ 25 k1 i1 0))) 25 k1 i1 1)) 25 k1 i1 2)) 25 k0 i0 3 ((up (up (up σ 25 k0 i0 0 (bz (σ 25 k1 i1 0))) 25 k0 i0 1 ((up σ 25 k0 i0 0 (bz (σ 25 k1 i1 0))) 25 k1 i1 1)) 25 k0 i0 2 ((up (up σ 25 k0 i0 0 (bz (σ 25 k1 i1 0))) 25 k0 i0 1 ((up σ 25 k0 i0 0 (bz (σ 25 k1 i1 0))) 25 k1 i1 1)) 25 k1 i1 2)) 25 k1 i1 3)) 25 k1 i1 4)) 25 k0 i0 5 ((up (up (up (up (up σ 25 k0 i0 0 (bz (σ 25 k1 i1 0))) 25 k0 i0 1 ((up σ 25 k0 i0 0 (bz (σ 25 k1 i1 0))) 25 k1 i1 1)) 25 k0 i0 2 ((up (up σ 25 k0 i0 0 (bz (σ 25 k1 i1 0))) 25 k0 i0 1 ((up σ 25 k0 i0 0 (bz (σ 25 k1 i1 0))) 25 k1 i1 1)) 25 k1 i1 2)) 25 k0 i0 3 ((up (up (up σ 25 k0 i0 0 (bz (σ 25 k1 i1 0))) 25 k0 i0 1 ((up σ 25 k0 i0 0 (bz (σ 25 k1 i1 0))) 25 k1 i1 1)) 25 k0 i0 2 ((up (up σ 25 k0 i0 0 (bz (σ 25 k1 i1 0))) 25 k0 i0 1 ((up σ 25 k0 i0 0 (bz (σ 25 k1 i1 0))) 25 k1 i1 1)) 25 k1 i1 2)) 25 k1 i1 3)) 25 k0 i0 4 ((up (up (up (up σ 25 k0 i0 0 (bz (σ 25 k1 i1 0))) 25 k0 i0 1 ((up σ 25 k0 i0 0 (bz (σ 25 k1 i1 0))) 25 k1 i1 1)) 25 k0 i0 2 ((up (up σ 25 k0 i0 0 (bz (σ 25 k1 i1 0))) 25 k0 i0 1 ((up σ 25 k0 i0 0 (bz (σ 25 k1 i1 0))) 25 k1 i1 1)) 25 k1 i1 2)) 25 k0 i0 3 ((up (up (up σ 25 k0 i0 0 (bz (σ 25 k1 i1 0))) 25 k0 i0 1 ((up σ 25 k0 i0 0 (bz (σ 25 k1 i1 0))) 25 k1 i1 1)) 25 k0 i0 2 ((up (up σ 25 k0 i0 0 (bz (σ 25 k1 i1 0))) 25 k0 i0 1 ((up σ 25 k0 i0 0 (bz (σ 25 k1 i1 0))) 25 k1 i1 1)) 25 k1 i1 2)) 25 k1 i1 3)) 25 k1 i1 4)) 25 k1 i1 5)) 25 k1 i1 6))) 25 k1 i1 7)) rfl rfl
 (w_putI (p' := 64) f_50_61 rfl rfl (c' := 7) rfl rfl
 (w_aload_n (p' := 65) f_50_64 rfl rfl
 (w_aload_n (p' := 66) f_50_65 rfl rfl
 (w_getfield (p' := 69) f_50_66 rfl (x := .inl (bz ((up (up (up (up (up (up (up (up σ 25 k0 i0 0 (bz (σ 25 k1 i1 0))) 25 k0 i0 1 ((up σ 25 k0 i0 0 (bz (σ 25 k1 i1 0))) 25 k1 i1 1)) 25 k0 i0 2 ((up (up σ 25 k0 i0 0 (bz (σ 25 k1 i1 0))) 25 k0 i0 1 ((up σ 25 k0 i0 0 (bz (σ 25 k1 i1 0))) 25 k1 i1 1)) 25 k1 i1 2)) 25 k0 i0 3 ((up (up (up σ 25 k0 i0 0 (bz (σ 25 k1 i1 0))) 25 k0 i0 1 ((up σ 25 k0 i0 0 (bz (σ 25 k1 i1 0))) 25 k1 i1 1)) 25 k0 i0 2 ((up (up σ 25 k0 i0 0 (bz (σ 25 k1 i1 0))) 25 k0 i0 1 ((up σ 25 k0 i0 0 (bz (σ 25 k1 i1 0))) 25 k1 i1 1)) 25 k1 i1 2)) 25 k1 i1 3)) 25 k0 i0 4 ((up (up (up (up σ 25 k0 i0 0 (bz (σ 25 k1 i1 0))) 25 k0 i0 1 ((up σ 25 k0 i0 0 (bz (σ 25 k1 i1 0))) 25 k1 i1 1)) 25 k0 i0 2 ((up (up σ 25 k0 i0 0 (bz (σ 25 k1 i1 0))) 25 k0 i0 1 ((up σ 25 k0 i0 0 (bz (σ 25 k1 i1 0))) 25 k1 i1 1)) 25 k1 i1 2)) 25 k0 i0 3 ((up (up (up σ 25 k0 i0 0 (bz (σ 25 k1 i1 0))) 25 k0 i0 1 ((up σ 25 k0 i0 0 (bz (σ 25 k1 i1 0))) 25 k1 i1 1)) 25 k0 i0 2 ((up (up σ 25 k0 i0 0 (bz (σ 25 k1 i1 0))) 25 k0 i0 1 ((up σ 25 k0 i0 0 (bz (σ 25 k1 i1 0))) 25 k1 i1 1)) 25 k1 i1 2)) 25 k1 i1 3)) 25 k1 i1 4)) 25 k0 i0 5 ((up (up (up (up (up σ 25 k0 i0 0 (bz (σ 25 k1 i1 0))) 25 k0 i0 1 ((up σ 25 k0 i0 0 (bz (σ 25 k1 i1 0))) 25 k1 i1 1)) 25 k0 i0 2 ((up (up σ 25 k0 i0 0 (bz (σ 25 k1 i1 0))) 25 k0 i0 1 ((up σ 25 k0 i0 0 (bz (σ 25 k1 i1 0))) 25 k1 i1 1)) 25 k1 i1 2)) 25 k0 i0 3 ((up (up (up σ 25 k0 i0 0 (bz (σ 25 k1 i1 0))) 25 k0 i0 1 ((up σ 25 k0 i0 0 (bz (σ 25 k1 i1 0))) 25 k1 i1 1)) 25 k0 i0 2 ((up (up σ 25 k0 i0 0 (bz (σ 25 k1 i1 0))) 25 k0 i0 1 ((up σ 25 k0 i0 0 (bz (σ 25 k1 i1 0))) 25 k1 i1 1)) 25 k1 i1 2)) 25 k1 i1 3)) 25 k0 i0 4 ((up (up (up (up σ 25 k0 i0 0 (bz (σ 25 k1 i1 0))) 25 k0 i0 1 ((up σ 25 k0 i0 0 (bz (σ 25 k1 i1 0))) 25 k1 i1 1)) 25 k0 i0 2 ((up (up σ 25 k0 i0 0 (bz (σ 25 k1 i1 0))) 25 k0 i0 1 ((up σ 25 k0 i0 0 (bz (σ 25 k1 i1 0))) 25 k1 i1 1)) 25 k1 i1 2)) 25 k0 i0 3 ((up (up (up σ 25 k0 i0 0 (bz (σ 25 k1 i1 0))) 25 k0 i0 1 ((up σ 25 k0 i0 0 (bz (σ 25 k1 i1 0))) 25 k1 i1 1)) 25 k0 i0 2 ((up (up σ 25 k0 i0 0 (bz (σ 25 k1 i1 0))) 25 k0 i0 1 ((up σ 25 k0 i0 0 (bz (σ 25 k1 i1 0))) 25 k1 i1 1)) 25 k1 i1 2)) 25 k1 i1 3)) 25 k1 i1 4)) 25 k1 i1 5)) 25 k0 i0 6 (bz ((up (up (up (up (up (up σ 25 k0 i0 0 (bz (σ 25 k1 i1 0))) 25 k0 i0 1 ((up σ 25 k0 i0 0 (bz (σ 25 k1 i1 0))) 25 k1 i1 1)) 25 k0 i0 2 ((up (up σ 25 k0 i0 0 (bz (σ 25 k1 i1 0))) 25 k0 i0 1 ((up σ 25 k0 i0 0 (bz (σ 25 k1 i1 0))) 25 k1 i1 1)) 25 k1 i1 2)) 25 k0 i0 3 ((up (up (up σ 25 k0 i0 0 (bz (σ 25 k1 i1 0))) 25 k0 i0 1 ((up σ 25 k0 i0 0 (bz (σ 25 k1 i1 0))) 25 k1 i1 1)) 25 k0 i0 2 ((up (up σ 25 k0 i0 0 (bz (σ 25 k1 i1 0))) 25 k0 i0 1 ((up σ 25 k0 i0 0 (bz (σ 25 k1 i1 0))) 25 k1 i1 1)) 25 k1 i1 2)) 25 k1 i1 3)) 25 k0 i0 4 ((up (up (up (up σ 25 k0 i0 0 (bz (σ 25 k1 i1 0))) 25 k0 i0 1 ((up σ 25 k0 i0 0 (bz (σ 25 k1 i1 0))) 25 k1 i1 1)) 25 k0 i0 2 ((up (up σ 25 k0 i0 0 (bz (σ 25 k1 i1 0))) 25 k0 i0 1 ((up σ 25 k0 i0 0 (bz (σ 25 k1 i1 0))) 25 k1 i1 1)) 25 k1 i1 2)) 25 k0 i0 3 ((up (up (up σ 25 k0 i0 0 (bz (σ 25 k1 i1 0))) 25 k0 i0 1 ((up σ 25 k0 i0 0 (bz (σ 25 k1 i1 0))) 25 k1 i1 1)) 25 k0 i0 2 ((up (up σ 25 k0 i0 0 (bz (σ 25 k1 i1 0))) 25 k0 i0 1 ((up σ 25 k0 i0 0 (bz (σ 25 k1 i1 0))) 25 k1 i1 1)) 25 k1 i1 2)) 25 k1 i1 3)) 25 k1 i1 4)) 25 k0 i0 5 ((up (up (up (up (up σ 25 k0 i0 0 (bz (σ 25 k1 i1 0))) 25 k0 i0 1 ((up σ 25 k0 i0 0 (bz (σ 25 k1 i1 0))) 25 k1 i1 1)) 25 k0 i0 2 ((up (up σ 25 k0 i0 0 (bz (σ 25 k1 i1 0))) 25 k0 i0 1 ((up σ 25 k0 i0 0 (bz (σ 25 k1 i1 0))) 25 k1 i1 1)) 25 k1 i1 2)) 25 k0 i0 3 ((up (up (up σ 25 k0 i0 0 (bz (σ 25 k1 i1 0))) 25 k0 i0 1 ((up σ 25 k0 i0 0 (bz (σ 25 k1 i1 0))) 25 k1 i1 1)) 25 k0 i0 2 ((up (up σ 25 k0 i0 0 (bz (σ 25 k1 i1 0))) 25 k0 i0 1 ((up σ 25 k0 i0 0 (bz (σ 25 k1 i1 0))) 25 k1 i1 1)) 25 k1 i1 2)) 25 k1 i1 3)) 25 k0 i0 4 ((up (up (up (up σ 25 k0 i0 0 (bz (σ 25 k1 i1 0))) 25 k0 i0 1 ((up σ 25 k0 i0 0 (bz (σ 25 k1 i1 0))) 25 k1 i1 1)) 25 k0 i0 2 ((up (up σ 25 k0 i0 0 (bz (σ 25 k1 i1 0))) 25 k0 i0 1 ((up σ 25 k0 i0 0 (bz (σ 25 k1 i1 0))) 25 k1 i1 1)) 25 k1 i1 2)) 25 k0 i0 3 ((up (up (up σ 25 k0 i0 0 (bz (σ 25 k1 i1 0))) 25 k0 i0 1 ((up σ 25 k0 i0 0 (bz (σ 25 k1 i1 0))) 25 k1 i1 1)) 25 k0 i0 2 ((up (up σ 25 k0 i0 0 (bz (σ 25 k1 i1 0))) 25 k0 i0 1 ((up σ 25 k0 i0 0 (bz (σ 25 k1 i1 0))) 25 k1 i1 1)) 25 k1 i1 2)) 25 k1 i1 3)) 25 k1 i1 4)) 25 k1 i1 5)) 25 k1 i1 6))) 25 k0 i0 7 ((up (up (up (up (up (up (up σ 25 k0 i0 0 (bz (σ 25 k1 i1 0))) 25 k0 i0 1 ((up σ 25 k0 i0 0 (bz (σ 25 k1 i1 0))) 25 k1 i1 1)) 25 k0 i0 2 ((up (up σ 25 k0 i0 0 (bz (σ 25 k1 i1 0))) 25 k0 i0 1 ((up σ 25 k0 i0 0 (bz (σ 25 k1 i1 0))) 25 k1 i1 1)) 25 k1 i1 2)) 25 k0 i0 3 ((up (up (up σ 25 k0 i0 0 (bz (σ 25 k1 i1 0))) 25 k0 i0 1 ((up σ 25 k0 i0 0 (bz (σ 25 k1 i1 0))) 25 k1 i1 1)) 25 k0 i0 2 ((up (up σ 25 k0 i0 0 (bz (σ 25 k1 i1 0))) 25 k0 i0 1 ((up σ 25 k0 i0 0 (bz (σ 25 k1 i1 0))) 25 k1 i1 1)) 25 k1 i1 2)) 25 k1 i1 3)) 25 k0 i0 4 ((up (up (up (up σ 25 k0 i0 0 (bz (σ 25 k1 i1 0))) 25 k0 i0 1 ((up σ 25 k0 i0 0 (bz (σ 25 k1 i1 0))) 25 k1 i1 1)) 25 k0 i0 2 ((up (up σ 25 k0 i0 0 (bz (σ 25 k1 i1 0))) 25 k0 i0 1 ((up σ 25 k0 i0 0 (bz (σ 25 k1 i1 0))) 25 k1 i1 1)) 25 k1 i1 2)) 25 k0 i0 3 ((up (up (up σ 25 k0 i0 0 (bz (σ 25 k1 i1 0))) 25 k0 i0 1 ((up σ 25 k0 i0 0 (bz (σ 25 k1 i1 0))) 25 k1 i1 1)) 25 k0 i0 2 ((up (up σ 25 k0 i0 0 (bz (σ 25 k1 i1 0))) 25 k0 i0 1 ((up σ 25 k0 i0 0 (bz (σ 25 k1 i1 0))) 25 k1 i1 1)) 25 k1 i1 2)) 25 k1 i1 3)) 25 k1 i1 4)) 25 k0 i0 5 ((up (up (up (up (up σ 25 k0 i0 0 (bz (σ 25 k1 i1 0))) 25 k0 i0 1 ((up σ 25 k0 i0 0 (bz (σ 25 k1 i1 0))) 25 k1 i1 1)) 25 k0 i0 2 ((up (up σ 25 k0 i0 0 (bz (σ 25 k1 i1 0))) 25 k0 i0 1 ((up σ 25 k0 i0 0 (bz (σ 25 k1 i1 0))) 25 k1 i1 1)) 25 k1 i1 2)) 25 k0 i0 3 ((up (up (up σ 25 k0 i0 0 (bz (σ 25 k1 i1 0))) 25 k0 i0 1 ((up σ 25 k0 i0 0 (bz (σ 25 k1 i1 0))) 25 k1 i1 1)) 25 k0 i0 2 ((up (up σ 25 k0 i0 0 (bz (σ 25 k1 i1 0))) 25 k0 i0 1 ((up σ 25 k0 i0 0 (bz (σ 25 k1 i1 0))) 25 k1 i1 1)) 25 k1 i1 2)) 25 k1 i1 3)) 25 k0 i0 4 ((up (up (up (up σ 25 k0 i0 0 (bz (σ 25 k1 i1 0))) 25 k0 i0 1 ((up σ 25 k0 i0 0 (bz (σ 25 k1 i1 0))) 25 k1 i1 1)) 25 k0 i0 2 ((up (up σ 25 k0 i0 0 (bz (σ 25 k1 i1 0))) 25 k0 i0 1 ((up σ 25 k0 i0 0 (bz (σ 25 k1 i1 0))) 25 k1 i1 1)) 25 k1 i1 2)) 25 k0 i0 3 ((up (up (up σ 25 k0 i0 0 (bz (σ 25 k1 i1 0))) 25 k0 i0 1 ((up σ 25 k0 i0 0 (bz (σ 25 k1 i1 0))) 25 k1 i1 1)) 25 k0 i0 2 ((up (up σ 25 k0 i0 0 (bz (σ 25 k1 i1 0))) 25 k0 i0 1 ((up σ 25 k0 i0 0 (bz (σ 25 k1 i1 0))) 25 k1 i1 1)) 25 k1 i1 2)) 25 k1 i1 3)) 25 k1 i1 4)) 25 k1 i1 5)) 25 k0 i0 6 (bz ((up (up (up (up (up (up σ 25 k0 i0 0 (bz (σ 25 k1 i1 0))) 25 k0 i0 1 ((up σ 25 k0 i0 0 (bz (σ 25 k1 i1 0))) 25 k1 i1 1)) 25 k0 i0 2 ((up (up σ 25 k0 i0 0 (bz (σ 25 k1 i1 0))) 25 k0 i0 1 ((up σ 25 k0 i0 0 (bz (σ 25 k1 i1 0))) 25 k1 i1 1)) 25 k1 i1 2)) 25 k0 i0 3 ((up (up (up σ 25 k0 i0 0 (bz (σ 25 k1 i1 0))) 25 k0 i0 1 ((up σ 25 k0 i0 0 (bz (σ 25 k1 i1 0))) 25 k1 i1 1)) 25 k0 i0 2 ((up (up σ 25 k0 i0 0 (bz (σ 25 k1 i1 0))) 25 k0 i0 1 ((up σ 25 k0 i0 0 (bz (σ 25 k1 i1 0))) 25 k1 i1 1)) 25 k1 i1 2)) 25 k1 i1 3)) 25 k0 i0 4 ((up (up (up (up σ 25 k0 i0 0 (bz (σ 25 k1 i1 0))) 25 k0 i0 1 ((up σ 25 k0 i0 0 (bz (σ 25 k1 i1 0))) 25 k1 i1 1)) 25 k0 i0 2 ((up (up σ 25 k0 i0 0 (bz (σ 25 k1 i1 0))) 25 k0 i0 1 ((up σ 25 k0 i0 0 (bz (σ 25 k1 i1 0))) 25 k1 i1 1)) 25 k1 i1 2)) 25 k0 i0 3 ((up (up (up σ 25 k0 i0 0 (bz (σ 25 k1 i1 0))) 25 k0 i0 1 ((up σ 25 k0 i0 0 (bz (σ 25 k1 i1 0))) 25 k1 i1 1)) 25 k0 i0 2 ((up (up σ 25 k0 i0 0 (bz (σ 25 k1 i1 0))) 25 k0 i0 1 ((up σ 25 k0 i0 0 (bz (σ 25 k1 i1 0))) 25 k1 i1 1)) 25 k1 i1 2)) 25 k1 i1 3)) 25 k1 i1 4)) 25 k0 i0 5 ((up (up (up (up (up σ 25 k0 i0 0 (bz (σ 25 k1 i1 0))) 25 k0 i0 1 ((up σ 25 k0 i0 0 (bz (σ 25 k1 i1 0))) 25 k1 i1 1)) 25 k0 i0 2 ((up (up σ 25 k0 i0 0 (bz (σ 25 k1 i1 0))) 25 k0 i0 1 ((up σ 25 k0 i0 0 (bz (σ 25 k1 i1 0))) 25 k1 i1 1)) 25 k1 i1 2)) 25 k0 i0 3 ((up (up (up σ 25 k0 i0 0 (bz (σ 25 k1 i1 0))) 25 k0 i0 1 ((up σ 25 k0 i0 0 (bz (σ 25 k1 i1 0))) 25 k1 i1 1)) 25 k0 i0 2 ((up (up σ 25 k0 i0 0 (bz (σ 25 k1 i1 0))) 25 k0 i0 1 ((up σ 25 k0 i0 0 (bz (σ 25 k1 i1 0))) 25 k1 i1 1)) 25 k1 i1 2)) 25 k1 i1 3)) 25 k0 i0 4 ((up (up (up (up σ 25 k0 i0 0 (bz (σ 25 k1 i1 0))) 25 k0 i0 1 ((up σ 25 k0 i0 0 (bz (σ 25 k1 i1 0))) 25 k1 i1 1)) 25 k0 i0 2 ((up (up σ 25 k0 i0 0 (bz (σ 25 k1 i1 0))) 25 k0 i0 1 ((up σ 25 k0 i0 0 (bz (σ 25 k1 i1 0))) 25 k1 i1 1)) 25 k1 i1 2)) 25 k0 i0 3 ((up (up (up σ 25 k0 i0 0 (bz (σ 25 k1 i1 0))) 25 k0 i0 1 ((up σ 25 k0 i0 0 (bz (σ 25 k1 i1 0))) 25 k1 i1 1)) 25 k0 i0 2 ((up (up σ 25 k0 i0 0 (bz (σ 25 k1 i1 0))) 25 k0 i0 1 ((up σ 25 k0 i0 0 (bz (σ 25 k1 i1 0))) 25 k1 i1 1)) 25 k1 i1 2)) 25 k1 i1 3)) 25 k1 i1 4)) 25 k1 i1 5)) 25 k1 i1 6))) 25 k1 i1 7)) 25 k1 i1 8))) rfl rfl
 (w_putZ (p' := 72) f_50_69 rfl rfl (c' := 8) rfl h.2.2.1 rfl
 (w_vret f_50_72 rk_50 h.2.2.2)))))))))))))))))))))))))))))))))))))
/-! ClosedRooms$Log.take(LClosedRooms$Log;)V -/
theorem f_51_0 : fnd 51 0 = some (0, .aload_n 0, 1, 0, 0, 0, 0) := ceB_eq (by decide +kernel)
theorem f_51_1 : fnd 51 1 = some (1, .aload_n 1, 1, 0, 0, 0, 0) := ceB_eq (by decide +kernel)
theorem f_51_2 : fnd 51 2 = some (2, .getfield 9, 3, 5, 0, 0, 0) := ceB_eq (by decide +kernel)
theorem f_51_5 : fnd 51 5 = some (5, .putfield 9, 3, 5, 0, 0, 0) := ceB_eq (by decide +kernel)
theorem f_51_8 : fnd 51 8 = some (8, .aload_n 0, 1, 0, 0, 0, 0) := ceB_eq (by decide +kernel)
theorem f_51_9 : fnd 51 9 = some (9, .aload_n 1, 1, 0, 0, 0, 0) := ceB_eq (by decide +kernel)
theorem f_51_10 : fnd 51 10 = some (10, .getfield 15, 3, 5, 1, 1, 0) := ceB_eq (by decide +kernel)
theorem f_51_13 : fnd 51 13 = some (13, .putfield 15, 3, 5, 1, 1, 0) := ceB_eq (by decide +kernel)
theorem f_51_16 : fnd 51 16 = some (16, .aload_n 1, 1, 0, 0, 0, 0) := ceB_eq (by decide +kernel)
theorem f_51_17 : fnd 51 17 = some (17, .getfield 18, 3, 5, 2, 2, 0) := ceB_eq (by decide +kernel)
theorem f_51_20 : fnd 51 20 = some (20, .iconst 0, 1, 0, 0, 0, 0) := ceB_eq (by decide +kernel)
theorem f_51_21 : fnd 51 21 = some (21, .aload_n 0, 1, 0, 0, 0, 0) := ceB_eq (by decide +kernel)
theorem f_51_22 : fnd 51 22 = some (22, .getfield 18, 3, 5, 2, 2, 0) := ceB_eq (by decide +kernel)
theorem f_51_25 : fnd 51 25 = some (25, .iconst 0, 1, 0, 0, 0, 0) := ceB_eq (by decide +kernel)
theorem f_51_26 : fnd 51 26 = some (26, .bipush 60, 2, 0, 0, 0, 0) := ceB_eq (by decide +kernel)
theorem f_51_28 : fnd 51 28 = some (28, .invokestatic 34, 3, 900, 5, 0, 0) := ceB_eq (by decide +kernel)
theorem f_51_31 : fnd 51 31 = some (31, .aload_n 1, 1, 0, 0, 0, 0) := ceB_eq (by decide +kernel)
theorem f_51_32 : fnd 51 32 = some (32, .getfield 22, 3, 5, 3, 3, 0) := ceB_eq (by decide +kernel)
theorem f_51_35 : fnd 51 35 = some (35, .iconst 0, 1, 0, 0, 0, 0) := ceB_eq (by decide +kernel)
theorem f_51_36 : fnd 51 36 = some (36, .aload_n 0, 1, 0, 0, 0, 0) := ceB_eq (by decide +kernel)
theorem f_51_37 : fnd 51 37 = some (37, .getfield 22, 3, 5, 3, 3, 0) := ceB_eq (by decide +kernel)
theorem f_51_40 : fnd 51 40 = some (40, .iconst 0, 1, 0, 0, 0, 0) := ceB_eq (by decide +kernel)
theorem f_51_41 : fnd 51 41 = some (41, .bipush 60, 2, 0, 0, 0, 0) := ceB_eq (by decide +kernel)
theorem f_51_43 : fnd 51 43 = some (43, .invokestatic 34, 3, 900, 5, 0, 0) := ceB_eq (by decide +kernel)
theorem f_51_46 : fnd 51 46 = some (46, .aload_n 1, 1, 0, 0, 0, 0) := ceB_eq (by decide +kernel)
theorem f_51_47 : fnd 51 47 = some (47, .getfield 25, 3, 5, 4, 4, 0) := ceB_eq (by decide +kernel)
theorem f_51_50 : fnd 51 50 = some (50, .iconst 0, 1, 0, 0, 0, 0) := ceB_eq (by decide +kernel)
theorem f_51_51 : fnd 51 51 = some (51, .aload_n 0, 1, 0, 0, 0, 0) := ceB_eq (by decide +kernel)
theorem f_51_52 : fnd 51 52 = some (52, .getfield 25, 3, 5, 4, 4, 0) := ceB_eq (by decide +kernel)
theorem f_51_55 : fnd 51 55 = some (55, .iconst 0, 1, 0, 0, 0, 0) := ceB_eq (by decide +kernel)
theorem f_51_56 : fnd 51 56 = some (56, .bipush 60, 2, 0, 0, 0, 0) := ceB_eq (by decide +kernel)
theorem f_51_58 : fnd 51 58 = some (58, .invokestatic 34, 3, 900, 5, 0, 0) := ceB_eq (by decide +kernel)
theorem f_51_61 : fnd 51 61 = some (61, .return_, 1, 0, 0, 0, 0) := ceB_eq (by decide +kernel)
theorem rk_51 : rkm 51 = 4 := by decide +kernel
theorem ml_51 : (mth 51).2.1 = 2 := by decide +kernel
set_option maxRecDepth 100000 in
theorem T_Log_take (k0 i0 k1 i1 : Int) (σ : ST) (Q : Option AV → ST → Prop) (h :
  ((0 : Int) ≤ 0 ∧ (0 : Int) ≤ 0 ∧ (0 : Int) ≤ 60 ∧ (0 : Int) + 60 ≤ 60 ∧ (0 : Int) + 60 ≤ 60) ∧
  ((0 : Int) ≤ 0 ∧ (0 : Int) ≤ 0 ∧ (0 : Int) ≤ 60 ∧ (0 : Int) + 60 ≤ 60 ∧ (0 : Int) + 60 ≤ 60) ∧
  ((0 : Int) ≤ 0 ∧ (0 : Int) ≤ 0 ∧ (0 : Int) ≤ 60 ∧ (0 : Int) + 60 ≤ 60 ∧ (0 : Int) + 60 ≤ 60) ∧
  Q none (cpy (cpy (cpy (up (up σ 26 k0 i0 0 (σ 26 k1 i1 0)) 26 k0 i0 1 ((up σ 26 k0 i0 0 (σ 26 k1 i1 0)) 26 k1 i1 1)) 27 k1 0 0 27 k0 0 0 60) 28 k1 0 0 28 k0 0 0 60) 29 k1 0 0 29 k0 0 0 60)) :
  wpM m_Log_take [.inr (.inr (26, k0, i0)), .inr (.inr (26, k1, i1))] σ Q :=
 wpM_of ml_51 (L := [some (.inr (.inr (26, k0, i0))), some (.inr (.inr (26, k1, i1)))]) rfl
 (w_aload_n (p' := 1) f_51_0 rfl rfl
 (w_aload_n (p' := 2) f_51_1 rfl rfl
 (w_getfield (p' := 5) f_51_2 rfl (x := .inl (σ 26 k1 i1 0)) rfl rfl
 (w_putI (p' := 8) f_51_5 rfl rfl (c' := 0) rfl rfl
 (w_aload_n (p' := 9) f_51_8 rfl rfl
 (w_aload_n (p' := 10) f_51_9 rfl rfl
 (w_getfield (p' := 13) f_51_10 rfl (x := .inl ((up σ 26 k0 i0 0 (σ 26 k1 i1 0)) 26 k1 i1 1)) rfl rfl
 (w_putI (p' := 16) f_51_13 rfl rfl (c' := 1) rfl rfl
 (w_aload_n (p' := 17) f_51_16 rfl rfl
 (w_getfield (p' := 20) f_51_17 rfl (x := .inr (.inr (27, k1, 0))) rfl rfl
 (w_iconst (p' := 21) f_51_20 rfl
 (w_aload_n (p' := 22) f_51_21 rfl rfl
 (w_getfield (p' := 25) f_51_22 rfl (x := .inr (.inr (27, k0, 0))) rfl rfl
 (w_iconst (p' := 26) f_51_25 rfl
 (w_bipush (p' := 28) f_51_26 rfl
 (w_copy (p' := 31) f_51_28 rfl rfl (N := 60) rfl (N1 := 60) rfl rfl h.1 rfl
 (w_aload_n (p' := 32) f_51_31 rfl rfl
 (w_getfield (p' := 35) f_51_32 rfl (x := .inr (.inr (28, k1, 0))) rfl rfl
 (w_iconst (p' := 36) f_51_35 rfl
 (w_aload_n (p' := 37) f_51_36 rfl rfl
 (w_getfield (p' := 40) f_51_37 rfl (x := .inr (.inr (28, k0, 0))) rfl rfl
 (w_iconst (p' := 41) f_51_40 rfl
 (w_bipush (p' := 43) f_51_41 rfl
 (w_copy (p' := 46) f_51_43 rfl rfl (N := 60) rfl (N1 := 60) rfl rfl h.2.1 rfl
 (w_aload_n (p' := 47) f_51_46 rfl rfl
 (w_getfield (p' := 50) f_51_47 rfl (x := .inr (.inr (29, k1, 0))) rfl rfl
 (w_iconst (p' := 51) f_51_50 rfl
 (w_aload_n (p' := 52) f_51_51 rfl rfl
 (w_getfield (p' := 55) f_51_52 rfl (x := .inr (.inr (29, k0, 0))) rfl rfl
 (w_iconst (p' := 56) f_51_55 rfl
 (w_bipush (p' := 58) f_51_56 rfl
 (w_copy (p' := 61) f_51_58 rfl rfl (N := 60) rfl (N1 := 60) rfl rfl h.2.2.1 rfl
 (w_vret f_51_61 rk_51 h.2.2.2)))))))))))))))))))))))))))))))))
/-! ClosedRooms$World.take(LClosedRooms$World;)V -/
theorem f_52_0 : fnd 52 0 = some (0, .aload_n 0, 1, 0, 0, 0, 0) := ceB_eq (by decide +kernel)
theorem f_52_1 : fnd 52 1 = some (1, .aload_n 1, 1, 0, 0, 0, 0) := ceB_eq (by decide +kernel)
theorem f_52_2 : fnd 52 2 = some (2, .getfield 9, 3, 4, 0, 0, 0) := ceB_eq (by decide +kernel)
theorem f_52_5 : fnd 52 5 = some (5, .putfield 9, 3, 4, 0, 0, 0) := ceB_eq (by decide +kernel)
theorem f_52_8 : fnd 52 8 = some (8, .aload_n 0, 1, 0, 0, 0, 0) := ceB_eq (by decide +kernel)
theorem f_52_9 : fnd 52 9 = some (9, .aload_n 1, 1, 0, 0, 0, 0) := ceB_eq (by decide +kernel)
theorem f_52_10 : fnd 52 10 = some (10, .getfield 15, 3, 4, 1, 1, 0) := ceB_eq (by decide +kernel)
theorem f_52_13 : fnd 52 13 = some (13, .putfield 15, 3, 4, 1, 1, 0) := ceB_eq (by decide +kernel)
theorem f_52_16 : fnd 52 16 = some (16, .aload_n 0, 1, 0, 0, 0, 0) := ceB_eq (by decide +kernel)
theorem f_52_17 : fnd 52 17 = some (17, .aload_n 1, 1, 0, 0, 0, 0) := ceB_eq (by decide +kernel)
theorem f_52_18 : fnd 52 18 = some (18, .getfield 18, 3, 4, 2, 2, 0) := ceB_eq (by decide +kernel)
theorem f_52_21 : fnd 52 21 = some (21, .putfield 18, 3, 4, 2, 2, 0) := ceB_eq (by decide +kernel)
theorem f_52_24 : fnd 52 24 = some (24, .aload_n 0, 1, 0, 0, 0, 0) := ceB_eq (by decide +kernel)
theorem f_52_25 : fnd 52 25 = some (25, .aload_n 1, 1, 0, 0, 0, 0) := ceB_eq (by decide +kernel)
theorem f_52_26 : fnd 52 26 = some (26, .getfield 21, 3, 4, 3, 3, 0) := ceB_eq (by decide +kernel)
theorem f_52_29 : fnd 52 29 = some (29, .putfield 21, 3, 4, 3, 3, 0) := ceB_eq (by decide +kernel)
theorem f_52_32 : fnd 52 32 = some (32, .aload_n 0, 1, 0, 0, 0, 0) := ceB_eq (by decide +kernel)
theorem f_52_33 : fnd 52 33 = some (33, .aload_n 1, 1, 0, 0, 0, 0) := ceB_eq (by decide +kernel)
theorem f_52_34 : fnd 52 34 = some (34, .getfield 24, 3, 4, 4, 4, 0) := ceB_eq (by decide +kernel)
theorem f_52_37 : fnd 52 37 = some (37, .putfield 24, 3, 4, 4, 4, 0) := ceB_eq (by decide +kernel)
theorem f_52_40 : fnd 52 40 = some (40, .iconst 0, 1, 0, 0, 0, 0) := ceB_eq (by decide +kernel)
theorem f_52_41 : fnd 52 41 = some (41, .istore_n 2, 1, 0, 0, 0, 0) := ceB_eq (by decide +kernel)
theorem f_52_42 : fnd 52 42 = some (42, .iload_n 2, 1, 0, 0, 0, 0) := ceB_eq (by decide +kernel)
theorem f_52_43 : fnd 52 43 = some (43, .bipush 10, 2, 0, 0, 0, 0) := ceB_eq (by decide +kernel)
theorem f_52_45 : fnd 52 45 = some (45, .if_icmp .ge 24, 3, 0, 0, 0, 0) := ceB_eq (by decide +kernel)
theorem f_52_48 : fnd 52 48 = some (48, .aload_n 0, 1, 0, 0, 0, 0) := ceB_eq (by decide +kernel)
theorem f_52_49 : fnd 52 49 = some (49, .getfield 29, 3, 4, 5, 5, 0) := ceB_eq (by decide +kernel)
theorem f_52_52 : fnd 52 52 = some (52, .iload_n 2, 1, 0, 0, 0, 0) := ceB_eq (by decide +kernel)
theorem f_52_53 : fnd 52 53 = some (53, .aaload, 1, 0, 0, 0, 0) := ceB_eq (by decide +kernel)
theorem f_52_54 : fnd 52 54 = some (54, .aload_n 1, 1, 0, 0, 0, 0) := ceB_eq (by decide +kernel)
theorem f_52_55 : fnd 52 55 = some (55, .getfield 29, 3, 4, 5, 5, 0) := ceB_eq (by decide +kernel)
theorem f_52_58 : fnd 52 58 = some (58, .iload_n 2, 1, 0, 0, 0, 0) := ceB_eq (by decide +kernel)
theorem f_52_59 : fnd 52 59 = some (59, .aaload, 1, 0, 0, 0, 0) := ceB_eq (by decide +kernel)
theorem f_52_60 : fnd 52 60 = some (60, .invokevirtual 74, 3, 47, 2, 6, 0) := ceB_eq (by decide +kernel)
theorem f_52_63 : fnd 52 63 = some (63, .iinc 2 1, 3, 0, 0, 0, 0) := ceB_eq (by decide +kernel)
theorem f_52_66 : fnd 52 66 = some (66, .goto (-24), 3, 0, 0, 0, 0) := ceB_eq (by decide +kernel)
theorem f_52_69 : fnd 52 69 = some (69, .iconst 0, 1, 0, 0, 0, 0) := ceB_eq (by decide +kernel)
theorem f_52_70 : fnd 52 70 = some (70, .istore_n 2, 1, 0, 0, 0, 0) := ceB_eq (by decide +kernel)
theorem f_52_71 : fnd 52 71 = some (71, .iload_n 2, 1, 0, 0, 0, 0) := ceB_eq (by decide +kernel)
theorem f_52_72 : fnd 52 72 = some (72, .iconst 4, 1, 0, 0, 0, 0) := ceB_eq (by decide +kernel)
theorem f_52_73 : fnd 52 73 = some (73, .if_icmp .ge 24, 3, 0, 0, 0, 0) := ceB_eq (by decide +kernel)
theorem f_52_76 : fnd 52 76 = some (76, .aload_n 0, 1, 0, 0, 0, 0) := ceB_eq (by decide +kernel)
theorem f_52_77 : fnd 52 77 = some (77, .getfield 35, 3, 4, 6, 6, 0) := ceB_eq (by decide +kernel)
theorem f_52_80 : fnd 52 80 = some (80, .iload_n 2, 1, 0, 0, 0, 0) := ceB_eq (by decide +kernel)
theorem f_52_81 : fnd 52 81 = some (81, .aaload, 1, 0, 0, 0, 0) := ceB_eq (by decide +kernel)
theorem f_52_82 : fnd 52 82 = some (82, .aload_n 1, 1, 0, 0, 0, 0) := ceB_eq (by decide +kernel)
theorem f_52_83 : fnd 52 83 = some (83, .getfield 35, 3, 4, 6, 6, 0) := ceB_eq (by decide +kernel)
theorem f_52_86 : fnd 52 86 = some (86, .iload_n 2, 1, 0, 0, 0, 0) := ceB_eq (by decide +kernel)
theorem f_52_87 : fnd 52 87 = some (87, .aaload, 1, 0, 0, 0, 0) := ceB_eq (by decide +kernel)
theorem f_52_88 : fnd 52 88 = some (88, .invokevirtual 78, 3, 48, 2, 7, 0) := ceB_eq (by decide +kernel)
theorem f_52_91 : fnd 52 91 = some (91, .iinc 2 1, 3, 0, 0, 0, 0) := ceB_eq (by decide +kernel)
theorem f_52_94 : fnd 52 94 = some (94, .goto (-23), 3, 0, 0, 0, 0) := ceB_eq (by decide +kernel)
theorem f_52_97 : fnd 52 97 = some (97, .iconst 0, 1, 0, 0, 0, 0) := ceB_eq (by decide +kernel)
theorem f_52_98 : fnd 52 98 = some (98, .istore_n 2, 1, 0, 0, 0, 0) := ceB_eq (by decide +kernel)
theorem f_52_99 : fnd 52 99 = some (99, .iload_n 2, 1, 0, 0, 0, 0) := ceB_eq (by decide +kernel)
theorem f_52_100 : fnd 52 100 = some (100, .iconst 3, 1, 0, 0, 0, 0) := ceB_eq (by decide +kernel)
theorem f_52_101 : fnd 52 101 = some (101, .if_icmp .ge 24, 3, 0, 0, 0, 0) := ceB_eq (by decide +kernel)
theorem f_52_104 : fnd 52 104 = some (104, .aload_n 0, 1, 0, 0, 0, 0) := ceB_eq (by decide +kernel)
theorem f_52_105 : fnd 52 105 = some (105, .getfield 41, 3, 4, 7, 7, 0) := ceB_eq (by decide +kernel)
theorem f_52_108 : fnd 52 108 = some (108, .iload_n 2, 1, 0, 0, 0, 0) := ceB_eq (by decide +kernel)
theorem f_52_109 : fnd 52 109 = some (109, .aaload, 1, 0, 0, 0, 0) := ceB_eq (by decide +kernel)
theorem f_52_110 : fnd 52 110 = some (110, .aload_n 1, 1, 0, 0, 0, 0) := ceB_eq (by decide +kernel)
theorem f_52_111 : fnd 52 111 = some (111, .getfield 41, 3, 4, 7, 7, 0) := ceB_eq (by decide +kernel)
theorem f_52_114 : fnd 52 114 = some (114, .iload_n 2, 1, 0, 0, 0, 0) := ceB_eq (by decide +kernel)
theorem f_52_115 : fnd 52 115 = some (115, .aaload, 1, 0, 0, 0, 0) := ceB_eq (by decide +kernel)
theorem f_52_116 : fnd 52 116 = some (116, .invokevirtual 81, 3, 49, 2, 8, 0) := ceB_eq (by decide +kernel)
theorem f_52_119 : fnd 52 119 = some (119, .iinc 2 1, 3, 0, 0, 0, 0) := ceB_eq (by decide +kernel)
theorem f_52_122 : fnd 52 122 = some (122, .goto (-23), 3, 0, 0, 0, 0) := ceB_eq (by decide +kernel)
theorem f_52_125 : fnd 52 125 = some (125, .iconst 0, 1, 0, 0, 0, 0) := ceB_eq (by decide +kernel)
theorem f_52_126 : fnd 52 126 = some (126, .istore_n 2, 1, 0, 0, 0, 0) := ceB_eq (by decide +kernel)
theorem f_52_127 : fnd 52 127 = some (127, .iload_n 2, 1, 0, 0, 0, 0) := ceB_eq (by decide +kernel)
theorem f_52_128 : fnd 52 128 = some (128, .bipush 12, 2, 0, 0, 0, 0) := ceB_eq (by decide +kernel)
theorem f_52_130 : fnd 52 130 = some (130, .if_icmp .ge 24, 3, 0, 0, 0, 0) := ceB_eq (by decide +kernel)
theorem f_52_133 : fnd 52 133 = some (133, .aload_n 0, 1, 0, 0, 0, 0) := ceB_eq (by decide +kernel)
theorem f_52_134 : fnd 52 134 = some (134, .getfield 47, 3, 4, 8, 8, 0) := ceB_eq (by decide +kernel)
theorem f_52_137 : fnd 52 137 = some (137, .iload_n 2, 1, 0, 0, 0, 0) := ceB_eq (by decide +kernel)
theorem f_52_138 : fnd 52 138 = some (138, .aaload, 1, 0, 0, 0, 0) := ceB_eq (by decide +kernel)
theorem f_52_139 : fnd 52 139 = some (139, .aload_n 1, 1, 0, 0, 0, 0) := ceB_eq (by decide +kernel)
theorem f_52_140 : fnd 52 140 = some (140, .getfield 47, 3, 4, 8, 8, 0) := ceB_eq (by decide +kernel)
theorem f_52_143 : fnd 52 143 = some (143, .iload_n 2, 1, 0, 0, 0, 0) := ceB_eq (by decide +kernel)
theorem f_52_144 : fnd 52 144 = some (144, .aaload, 1, 0, 0, 0, 0) := ceB_eq (by decide +kernel)
theorem f_52_145 : fnd 52 145 = some (145, .invokevirtual 84, 3, 50, 2, 9, 0) := ceB_eq (by decide +kernel)
theorem f_52_148 : fnd 52 148 = some (148, .iinc 2 1, 3, 0, 0, 0, 0) := ceB_eq (by decide +kernel)
theorem f_52_151 : fnd 52 151 = some (151, .goto (-24), 3, 0, 0, 0, 0) := ceB_eq (by decide +kernel)
theorem f_52_154 : fnd 52 154 = some (154, .aload_n 0, 1, 0, 0, 0, 0) := ceB_eq (by decide +kernel)
theorem f_52_155 : fnd 52 155 = some (155, .getfield 54, 3, 4, 9, 9, 0) := ceB_eq (by decide +kernel)
theorem f_52_158 : fnd 52 158 = some (158, .aload_n 1, 1, 0, 0, 0, 0) := ceB_eq (by decide +kernel)
theorem f_52_159 : fnd 52 159 = some (159, .getfield 54, 3, 4, 9, 9, 0) := ceB_eq (by decide +kernel)
theorem f_52_162 : fnd 52 162 = some (162, .invokevirtual 87, 3, 51, 2, 5, 0) := ceB_eq (by decide +kernel)
theorem f_52_165 : fnd 52 165 = some (165, .return_, 1, 0, 0, 0, 0) := ceB_eq (by decide +kernel)
theorem rk_52 : rkm 52 = 4 := by decide +kernel
theorem ml_52 : (mth 52).2.1 = 3 := by decide +kernel
set_option maxRecDepth 100000 in
theorem T_World_take (k0 i0 k1 i1 : Int) (σ : ST) (Q : Option AV → ST → Prop) (h :
  wp m_World_take (42, [some (.inr (.inr (12, k0, i0))), some (.inr (.inr (12, k1, i1))), some (.inl 0)], [], (up (up (up (up (up σ 12 k0 i0 0 (σ 12 k1 i1 0)) 12 k0 i0 1 ((up σ 12 k0 i0 0 (σ 12 k1 i1 0)) 12 k1 i1 1)) 12 k0 i0 2 ((up (up σ 12 k0 i0 0 (σ 12 k1 i1 0)) 12 k0 i0 1 ((up σ 12 k0 i0 0 (σ 12 k1 i1 0)) 12 k1 i1 1)) 12 k1 i1 2)) 12 k0 i0 3 ((up (up (up σ 12 k0 i0 0 (σ 12 k1 i1 0)) 12 k0 i0 1 ((up σ 12 k0 i0 0 (σ 12 k1 i1 0)) 12 k1 i1 1)) 12 k0 i0 2 ((up (up σ 12 k0 i0 0 (σ 12 k1 i1 0)) 12 k0 i0 1 ((up σ 12 k0 i0 0 (σ 12 k1 i1 0)) 12 k1 i1 1)) 12 k1 i1 2)) 12 k1 i1 3)) 12 k0 i0 4 ((up (up (up (up σ 12 k0 i0 0 (σ 12 k1 i1 0)) 12 k0 i0 1 ((up σ 12 k0 i0 0 (σ 12 k1 i1 0)) 12 k1 i1 1)) 12 k0 i0 2 ((up (up σ 12 k0 i0 0 (σ 12 k1 i1 0)) 12 k0 i0 1 ((up σ 12 k0 i0 0 (σ 12 k1 i1 0)) 12 k1 i1 1)) 12 k1 i1 2)) 12 k0 i0 3 ((up (up (up σ 12 k0 i0 0 (σ 12 k1 i1 0)) 12 k0 i0 1 ((up σ 12 k0 i0 0 (σ 12 k1 i1 0)) 12 k1 i1 1)) 12 k0 i0 2 ((up (up σ 12 k0 i0 0 (σ 12 k1 i1 0)) 12 k0 i0 1 ((up σ 12 k0 i0 0 (σ 12 k1 i1 0)) 12 k1 i1 1)) 12 k1 i1 2)) 12 k1 i1 3)) 12 k1 i1 4))) Q) :
  wpM m_World_take [.inr (.inr (12, k0, i0)), .inr (.inr (12, k1, i1))] σ Q :=
 wpM_of ml_52 (L := [some (.inr (.inr (12, k0, i0))), some (.inr (.inr (12, k1, i1))), none]) rfl
 (w_aload_n (p' := 1) f_52_0 rfl rfl
 (w_aload_n (p' := 2) f_52_1 rfl rfl
 (w_getfield (p' := 5) f_52_2 rfl (x := .inl (σ 12 k1 i1 0)) rfl rfl
 (w_putI (p' := 8) f_52_5 rfl rfl (c' := 0) rfl rfl
 (w_aload_n (p' := 9) f_52_8 rfl rfl
 (w_aload_n (p' := 10) f_52_9 rfl rfl
 (w_getfield (p' := 13) f_52_10 rfl (x := .inl ((up σ 12 k0 i0 0 (σ 12 k1 i1 0)) 12 k1 i1 1)) rfl rfl
 (w_putI (p' := 16) f_52_13 rfl rfl (c' := 1) rfl rfl
 (w_aload_n (p' := 17) f_52_16 rfl rfl
 (w_aload_n (p' := 18) f_52_17 rfl rfl
 (w_getfield (p' := 21) f_52_18 rfl (x := .inl ((up (up σ 12 k0 i0 0 (σ 12 k1 i1 0)) 12 k0 i0 1 ((up σ 12 k0 i0 0 (σ 12 k1 i1 0)) 12 k1 i1 1)) 12 k1 i1 2)) rfl rfl
 (w_putI (p' := 24) f_52_21 rfl rfl (c' := 2) rfl rfl
 (w_aload_n (p' := 25) f_52_24 rfl rfl
 (w_aload_n (p' := 26) f_52_25 rfl rfl
 (w_getfield (p' := 29) f_52_26 rfl (x := .inl ((up (up (up σ 12 k0 i0 0 (σ 12 k1 i1 0)) 12 k0 i0 1 ((up σ 12 k0 i0 0 (σ 12 k1 i1 0)) 12 k1 i1 1)) 12 k0 i0 2 ((up (up σ 12 k0 i0 0 (σ 12 k1 i1 0)) 12 k0 i0 1 ((up σ 12 k0 i0 0 (σ 12 k1 i1 0)) 12 k1 i1 1)) 12 k1 i1 2)) 12 k1 i1 3)) rfl rfl
 (w_putI (p' := 32) f_52_29 rfl rfl (c' := 3) rfl rfl
 (w_aload_n (p' := 33) f_52_32 rfl rfl
 (w_aload_n (p' := 34) f_52_33 rfl rfl
 (w_getfield (p' := 37) f_52_34 rfl (x := .inl ((up (up (up (up σ 12 k0 i0 0 (σ 12 k1 i1 0)) 12 k0 i0 1 ((up σ 12 k0 i0 0 (σ 12 k1 i1 0)) 12 k1 i1 1)) 12 k0 i0 2 ((up (up σ 12 k0 i0 0 (σ 12 k1 i1 0)) 12 k0 i0 1 ((up σ 12 k0 i0 0 (σ 12 k1 i1 0)) 12 k1 i1 1)) 12 k1 i1 2)) 12 k0 i0 3 ((up (up (up σ 12 k0 i0 0 (σ 12 k1 i1 0)) 12 k0 i0 1 ((up σ 12 k0 i0 0 (σ 12 k1 i1 0)) 12 k1 i1 1)) 12 k0 i0 2 ((up (up σ 12 k0 i0 0 (σ 12 k1 i1 0)) 12 k0 i0 1 ((up σ 12 k0 i0 0 (σ 12 k1 i1 0)) 12 k1 i1 1)) 12 k1 i1 2)) 12 k1 i1 3)) 12 k1 i1 4)) rfl rfl
 (w_putI (p' := 40) f_52_37 rfl rfl (c' := 4) rfl rfl
 (w_iconst (p' := 41) f_52_40 rfl
 (w_istore_n (p' := 42) f_52_41 (L' := [some (.inr (.inr (12, k0, i0))), some (.inr (.inr (12, k1, i1))), some (.inl 0)]) rfl rfl
 (h)))))))))))))))))))))))
set_option maxRecDepth 100000 in
theorem T_World_take_42 (k0 i0 k1 i1 x2 : Int) (σ : ST) (Q : Option AV → ST → Prop) (h :
  (((10 ≤ x2 : Prop) →
    wp m_World_take (71, [some (.inr (.inr (12, k0, i0))), some (.inr (.inr (12, k1, i1))), some (.inl 0)], [], σ) Q) ∧
  (¬ (10 ≤ x2) →
    ((0 : Int) ≤ x2 ∧ (x2 : Int) < 10) ∧
    ((0 : Int) ≤ x2 ∧ (x2 : Int) < 10) ∧
    wpM m_Page_take [.inr (.inr (14, k0, x2)), .inr (.inr (14, k1, x2))] σ (asV fun s101 =>
    wp m_World_take (42, [some (.inr (.inr (12, k0, i0))), some (.inr (.inr (12, k1, i1))), some (.inl (wr (x2 + 1)))], [], s101) Q)))) :
  wp m_World_take (42, [some (.inr (.inr (12, k0, i0))), some (.inr (.inr (12, k1, i1))), some (.inl x2)], [], σ) Q :=
 w_iload_n (p' := 43) f_52_42 rfl rfl
 (w_bipush (p' := 45) f_52_43 rfl
 (w_icmp (p' := 69) (q' := 48) f_52_45 rfl rfl
 (fun c102 => w_iconst (p' := 70) f_52_69 rfl
 (w_istore_n (p' := 71) f_52_70 (L' := [some (.inr (.inr (12, k0, i0))), some (.inr (.inr (12, k1, i1))), some (.inl 0)]) rfl rfl
 ((h.1 c102))))
 (fun c102 => w_aload_n (p' := 49) f_52_48 rfl rfl
 (w_getfield (p' := 52) f_52_49 rfl (x := .inr (.inr (13, k0, 0))) rfl rfl
 (w_iload_n (p' := 53) f_52_52 rfl rfl
 (w_aaload (p' := 54) f_52_53 rfl (n := 10) rfl (x := (14, k0, x2)) rfl (h.2 c102).1 rfl
 (w_aload_n (p' := 55) f_52_54 rfl rfl
 (w_getfield (p' := 58) f_52_55 rfl (x := .inr (.inr (13, k1, 0))) rfl rfl
 (w_iload_n (p' := 59) f_52_58 rfl rfl
 (w_aaload (p' := 60) f_52_59 rfl (n := 10) rfl (x := (14, k1, x2)) rfl (h.2 c102).2.1 rfl
 (w_callV (p' := 63) f_52_60 rfl rfl rfl rfl rfl (r := []) rfl rfl (kV rk_47 fun s101 h101 =>
 w_iinc (p' := 66) f_52_63 rfl (L' := [some (.inr (.inr (12, k0, i0))), some (.inr (.inr (12, k1, i1))), some (.inl (wr (x2 + 1)))]) rfl rfl
 (w_goto (p' := 42) f_52_66 rfl
 (h101))) (h.2 c102).2.2)))))))))))
set_option maxRecDepth 100000 in
theorem T_World_take_71 (k0 i0 k1 i1 x2 : Int) (σ : ST) (Q : Option AV → ST → Prop) (h :
  (((4 ≤ x2 : Prop) →
    wp m_World_take (99, [some (.inr (.inr (12, k0, i0))), some (.inr (.inr (12, k1, i1))), some (.inl 0)], [], σ) Q) ∧
  (¬ (4 ≤ x2) →
    ((0 : Int) ≤ x2 ∧ (x2 : Int) < 4) ∧
    ((0 : Int) ≤ x2 ∧ (x2 : Int) < 4) ∧
    wpM m_Room_take [.inr (.inr (17, k0, x2)), .inr (.inr (17, k1, x2))] σ (asV fun s101 =>
    wp m_World_take (71, [some (.inr (.inr (12, k0, i0))), some (.inr (.inr (12, k1, i1))), some (.inl (wr (x2 + 1)))], [], s101) Q)))) :
  wp m_World_take (71, [some (.inr (.inr (12, k0, i0))), some (.inr (.inr (12, k1, i1))), some (.inl x2)], [], σ) Q :=
 w_iload_n (p' := 72) f_52_71 rfl rfl
 (w_iconst (p' := 73) f_52_72 rfl
 (w_icmp (p' := 97) (q' := 76) f_52_73 rfl rfl
 (fun c102 => w_iconst (p' := 98) f_52_97 rfl
 (w_istore_n (p' := 99) f_52_98 (L' := [some (.inr (.inr (12, k0, i0))), some (.inr (.inr (12, k1, i1))), some (.inl 0)]) rfl rfl
 ((h.1 c102))))
 (fun c102 => w_aload_n (p' := 77) f_52_76 rfl rfl
 (w_getfield (p' := 80) f_52_77 rfl (x := .inr (.inr (16, k0, 0))) rfl rfl
 (w_iload_n (p' := 81) f_52_80 rfl rfl
 (w_aaload (p' := 82) f_52_81 rfl (n := 4) rfl (x := (17, k0, x2)) rfl (h.2 c102).1 rfl
 (w_aload_n (p' := 83) f_52_82 rfl rfl
 (w_getfield (p' := 86) f_52_83 rfl (x := .inr (.inr (16, k1, 0))) rfl rfl
 (w_iload_n (p' := 87) f_52_86 rfl rfl
 (w_aaload (p' := 88) f_52_87 rfl (n := 4) rfl (x := (17, k1, x2)) rfl (h.2 c102).2.1 rfl
 (w_callV (p' := 91) f_52_88 rfl rfl rfl rfl rfl (r := []) rfl rfl (kV rk_48 fun s101 h101 =>
 w_iinc (p' := 94) f_52_91 rfl (L' := [some (.inr (.inr (12, k0, i0))), some (.inr (.inr (12, k1, i1))), some (.inl (wr (x2 + 1)))]) rfl rfl
 (w_goto (p' := 71) f_52_94 rfl
 (h101))) (h.2 c102).2.2)))))))))))
set_option maxRecDepth 100000 in
theorem T_World_take_99 (k0 i0 k1 i1 x2 : Int) (σ : ST) (Q : Option AV → ST → Prop) (h :
  (((3 ≤ x2 : Prop) →
    wp m_World_take (127, [some (.inr (.inr (12, k0, i0))), some (.inr (.inr (12, k1, i1))), some (.inl 0)], [], σ) Q) ∧
  (¬ (3 ≤ x2) →
    ((0 : Int) ≤ x2 ∧ (x2 : Int) < 3) ∧
    ((0 : Int) ≤ x2 ∧ (x2 : Int) < 3) ∧
    wpM m_Core_take [.inr (.inr (21, k0, x2)), .inr (.inr (21, k1, x2))] σ (asV fun s101 =>
    wp m_World_take (99, [some (.inr (.inr (12, k0, i0))), some (.inr (.inr (12, k1, i1))), some (.inl (wr (x2 + 1)))], [], s101) Q)))) :
  wp m_World_take (99, [some (.inr (.inr (12, k0, i0))), some (.inr (.inr (12, k1, i1))), some (.inl x2)], [], σ) Q :=
 w_iload_n (p' := 100) f_52_99 rfl rfl
 (w_iconst (p' := 101) f_52_100 rfl
 (w_icmp (p' := 125) (q' := 104) f_52_101 rfl rfl
 (fun c102 => w_iconst (p' := 126) f_52_125 rfl
 (w_istore_n (p' := 127) f_52_126 (L' := [some (.inr (.inr (12, k0, i0))), some (.inr (.inr (12, k1, i1))), some (.inl 0)]) rfl rfl
 ((h.1 c102))))
 (fun c102 => w_aload_n (p' := 105) f_52_104 rfl rfl
 (w_getfield (p' := 108) f_52_105 rfl (x := .inr (.inr (20, k0, 0))) rfl rfl
 (w_iload_n (p' := 109) f_52_108 rfl rfl
 (w_aaload (p' := 110) f_52_109 rfl (n := 3) rfl (x := (21, k0, x2)) rfl (h.2 c102).1 rfl
 (w_aload_n (p' := 111) f_52_110 rfl rfl
 (w_getfield (p' := 114) f_52_111 rfl (x := .inr (.inr (20, k1, 0))) rfl rfl
 (w_iload_n (p' := 115) f_52_114 rfl rfl
 (w_aaload (p' := 116) f_52_115 rfl (n := 3) rfl (x := (21, k1, x2)) rfl (h.2 c102).2.1 rfl
 (w_callV (p' := 119) f_52_116 rfl rfl rfl rfl rfl (r := []) rfl rfl (kV rk_49 fun s101 h101 =>
 w_iinc (p' := 122) f_52_119 rfl (L' := [some (.inr (.inr (12, k0, i0))), some (.inr (.inr (12, k1, i1))), some (.inl (wr (x2 + 1)))]) rfl rfl
 (w_goto (p' := 99) f_52_122 rfl
 (h101))) (h.2 c102).2.2)))))))))))
set_option maxRecDepth 100000 in
theorem T_World_take_127 (k0 i0 k1 i1 x2 : Int) (σ : ST) (Q : Option AV → ST → Prop) (h :
  (((12 ≤ x2 : Prop) →
    wpM m_Log_take [.inr (.inr (26, k0, 0)), .inr (.inr (26, k1, 0))] σ (asV fun s101 =>
    Q none s101)) ∧
  (¬ (12 ≤ x2) →
    ((0 : Int) ≤ x2 ∧ (x2 : Int) < 12) ∧
    ((0 : Int) ≤ x2 ∧ (x2 : Int) < 12) ∧
    wpM m_Copy_take [.inr (.inr (25, k0, x2)), .inr (.inr (25, k1, x2))] σ (asV fun s102 =>
    wp m_World_take (127, [some (.inr (.inr (12, k0, i0))), some (.inr (.inr (12, k1, i1))), some (.inl (wr (x2 + 1)))], [], s102) Q)))) :
  wp m_World_take (127, [some (.inr (.inr (12, k0, i0))), some (.inr (.inr (12, k1, i1))), some (.inl x2)], [], σ) Q :=
 w_iload_n (p' := 128) f_52_127 rfl rfl
 (w_bipush (p' := 130) f_52_128 rfl
 (w_icmp (p' := 154) (q' := 133) f_52_130 rfl rfl
 (fun c103 => w_aload_n (p' := 155) f_52_154 rfl rfl
 (w_getfield (p' := 158) f_52_155 rfl (x := .inr (.inr (26, k0, 0))) rfl rfl
 (w_aload_n (p' := 159) f_52_158 rfl rfl
 (w_getfield (p' := 162) f_52_159 rfl (x := .inr (.inr (26, k1, 0))) rfl rfl
 (w_callV (p' := 165) f_52_162 rfl rfl rfl rfl rfl (r := []) rfl rfl (kV rk_51 fun s101 h101 =>
 w_vret f_52_165 rk_52 h101) (h.1 c103))))))
 (fun c103 => w_aload_n (p' := 134) f_52_133 rfl rfl
 (w_getfield (p' := 137) f_52_134 rfl (x := .inr (.inr (24, k0, 0))) rfl rfl
 (w_iload_n (p' := 138) f_52_137 rfl rfl
 (w_aaload (p' := 139) f_52_138 rfl (n := 12) rfl (x := (25, k0, x2)) rfl (h.2 c103).1 rfl
 (w_aload_n (p' := 140) f_52_139 rfl rfl
 (w_getfield (p' := 143) f_52_140 rfl (x := .inr (.inr (24, k1, 0))) rfl rfl
 (w_iload_n (p' := 144) f_52_143 rfl rfl
 (w_aaload (p' := 145) f_52_144 rfl (n := 12) rfl (x := (25, k1, x2)) rfl (h.2 c103).2.1 rfl
 (w_callV (p' := 148) f_52_145 rfl rfl rfl rfl rfl (r := []) rfl rfl (kV rk_50 fun s102 h102 =>
 w_iinc (p' := 151) f_52_148 rfl (L' := [some (.inr (.inr (12, k0, i0))), some (.inr (.inr (12, k1, i1))), some (.inl (wr (x2 + 1)))]) rfl rfl
 (w_goto (p' := 127) f_52_151 rfl
 (h102))) (h.2 c103).2.2)))))))))))
/-! ClosedRooms$Acts.refuse(I)I -/
theorem f_53_0 : fnd 53 0 = some (0, .aload_n 0, 1, 0, 0, 0, 0) := ceB_eq (by decide +kernel)
theorem f_53_1 : fnd 53 1 = some (1, .iload_n 1, 1, 0, 0, 0, 0) := ceB_eq (by decide +kernel)
theorem f_53_2 : fnd 53 2 = some (2, .putfield 18, 3, 3, 1, 1, 0) := ceB_eq (by decide +kernel)
theorem f_53_5 : fnd 53 5 = some (5, .iconst (-1), 1, 0, 0, 0, 0) := ceB_eq (by decide +kernel)
theorem f_53_6 : fnd 53 6 = some (6, .ireturn, 1, 0, 0, 0, 0) := ceB_eq (by decide +kernel)
theorem rk_53 : rkm 53 = 0 := by decide +kernel
theorem ml_53 : (mth 53).2.1 = 2 := by decide +kernel
set_option maxRecDepth 100000 in
theorem T_Acts_refuse (k0 i0 x1 : Int) (σ : ST) (Q : Option AV → ST → Prop) (h :
  Q (some (.inl (-1))) (up σ 11 k0 i0 1 x1)) :
  wpM m_Acts_refuse [.inr (.inr (11, k0, i0)), .inl x1] σ Q :=
 wpM_of ml_53 (L := [some (.inr (.inr (11, k0, i0))), some (.inl x1)]) rfl
 (w_aload_n (p' := 1) f_53_0 rfl rfl
 (w_iload_n (p' := 2) f_53_1 rfl rfl
 (w_putI (p' := 5) f_53_2 rfl rfl (c' := 1) rfl rfl
 (w_iconst (p' := 6) f_53_5 rfl
 (w_iret f_53_6 rk_53 h)))))
/-! ClosedRooms$World.lowestFreePage()I -/
theorem f_54_0 : fnd 54 0 = some (0, .iconst 0, 1, 0, 0, 0, 0) := ceB_eq (by decide +kernel)
theorem f_54_1 : fnd 54 1 = some (1, .istore_n 1, 1, 0, 0, 0, 0) := ceB_eq (by decide +kernel)
theorem f_54_2 : fnd 54 2 = some (2, .iload_n 1, 1, 0, 0, 0, 0) := ceB_eq (by decide +kernel)
theorem f_54_3 : fnd 54 3 = some (3, .aload_n 0, 1, 0, 0, 0, 0) := ceB_eq (by decide +kernel)
theorem f_54_4 : fnd 54 4 = some (4, .getfield 9, 3, 4, 0, 0, 0) := ceB_eq (by decide +kernel)
theorem f_54_7 : fnd 54 7 = some (7, .if_icmp .ge 29, 3, 0, 0, 0, 0) := ceB_eq (by decide +kernel)
theorem f_54_10 : fnd 54 10 = some (10, .iload_n 1, 1, 0, 0, 0, 0) := ceB_eq (by decide +kernel)
theorem f_54_11 : fnd 54 11 = some (11, .bipush 10, 2, 0, 0, 0, 0) := ceB_eq (by decide +kernel)
theorem f_54_13 : fnd 54 13 = some (13, .if_icmp .ge 23, 3, 0, 0, 0, 0) := ceB_eq (by decide +kernel)
theorem f_54_16 : fnd 54 16 = some (16, .aload_n 0, 1, 0, 0, 0, 0) := ceB_eq (by decide +kernel)
theorem f_54_17 : fnd 54 17 = some (17, .getfield 29, 3, 4, 5, 5, 0) := ceB_eq (by decide +kernel)
theorem f_54_20 : fnd 54 20 = some (20, .iload_n 1, 1, 0, 0, 0, 0) := ceB_eq (by decide +kernel)
theorem f_54_21 : fnd 54 21 = some (21, .aaload, 1, 0, 0, 0, 0) := ceB_eq (by decide +kernel)
theorem f_54_22 : fnd 54 22 = some (22, .getfield 94, 3, 6, 0, 0, 0) := ceB_eq (by decide +kernel)
theorem f_54_25 : fnd 54 25 = some (25, .ifCond .ne 5, 3, 0, 0, 0, 0) := ceB_eq (by decide +kernel)
theorem f_54_28 : fnd 54 28 = some (28, .iload_n 1, 1, 0, 0, 0, 0) := ceB_eq (by decide +kernel)
theorem f_54_29 : fnd 54 29 = some (29, .ireturn, 1, 0, 0, 0, 0) := ceB_eq (by decide +kernel)
theorem f_54_30 : fnd 54 30 = some (30, .iinc 1 1, 3, 0, 0, 0, 0) := ceB_eq (by decide +kernel)
theorem f_54_33 : fnd 54 33 = some (33, .goto (-31), 3, 0, 0, 0, 0) := ceB_eq (by decide +kernel)
theorem f_54_36 : fnd 54 36 = some (36, .iconst (-1), 1, 0, 0, 0, 0) := ceB_eq (by decide +kernel)
theorem f_54_37 : fnd 54 37 = some (37, .ireturn, 1, 0, 0, 0, 0) := ceB_eq (by decide +kernel)
theorem rk_54 : rkm 54 = 0 := by decide +kernel
theorem ml_54 : (mth 54).2.1 = 2 := by decide +kernel
set_option maxRecDepth 100000 in
theorem T_World_lowestFreePage (k0 i0 : Int) (σ : ST) (Q : Option AV → ST → Prop) (h :
  wp m_World_lowestFreePage (2, [some (.inr (.inr (12, k0, i0))), some (.inl 0)], [], σ) Q) :
  wpM m_World_lowestFreePage [.inr (.inr (12, k0, i0))] σ Q :=
 wpM_of ml_54 (L := [some (.inr (.inr (12, k0, i0))), none]) rfl
 (w_iconst (p' := 1) f_54_0 rfl
 (w_istore_n (p' := 2) f_54_1 (L' := [some (.inr (.inr (12, k0, i0))), some (.inl 0)]) rfl rfl
 (h)))
set_option maxRecDepth 100000 in
theorem T_World_lowestFreePage_2 (k0 i0 x1 : Int) (σ : ST) (Q : Option AV → ST → Prop) (h :
  ((((σ 12 k0 i0 0) ≤ x1 : Prop) →
    Q (some (.inl (-1))) σ) ∧
  (¬ ((σ 12 k0 i0 0) ≤ x1) →
    (((10 ≤ x1 : Prop) →
      Q (some (.inl (-1))) σ) ∧
    (¬ (10 ≤ x1) →
      ((0 : Int) ≤ x1 ∧ (x1 : Int) < 10) ∧
      ((((σ 14 k0 x1 0) ≠ 0 : Prop) →
        wp m_World_lowestFreePage (2, [some (.inr (.inr (12, k0, i0))), some (.inl (wr (x1 + 1)))], [], σ) Q) ∧
      (¬ ((σ 14 k0 x1 0) ≠ 0) →
        Q (some (.inl x1)) σ))))))) :
  wp m_World_lowestFreePage (2, [some (.inr (.inr (12, k0, i0))), some (.inl x1)], [], σ) Q :=
 w_iload_n (p' := 3) f_54_2 rfl rfl
 (w_aload_n (p' := 4) f_54_3 rfl rfl
 (w_getfield (p' := 7) f_54_4 rfl (x := .inl (σ 12 k0 i0 0)) rfl rfl
 (w_icmp (p' := 36) (q' := 10) f_54_7 rfl rfl
 (fun c103 => w_iconst (p' := 37) f_54_36 rfl
 (w_iret f_54_37 rk_54 (h.1 c103)))
 (fun c103 => w_iload_n (p' := 11) f_54_10 rfl rfl
 (w_bipush (p' := 13) f_54_11 rfl
 (w_icmp (p' := 36) (q' := 16) f_54_13 rfl rfl
 (fun c102 => w_iconst (p' := 37) f_54_36 rfl
 (w_iret f_54_37 rk_54 ((h.2 c103).1 c102)))
 (fun c102 => w_aload_n (p' := 17) f_54_16 rfl rfl
 (w_getfield (p' := 20) f_54_17 rfl (x := .inr (.inr (13, k0, 0))) rfl rfl
 (w_iload_n (p' := 21) f_54_20 rfl rfl
 (w_aaload (p' := 22) f_54_21 rfl (n := 10) rfl (x := (14, k0, x1)) rfl ((h.2 c103).2 c102).1 rfl
 (w_getfield (p' := 25) f_54_22 rfl (x := .inl (σ 14 k0 x1 0)) rfl rfl
 (w_if (p' := 30) (q' := 28) f_54_25 rfl rfl
 (fun c101 => w_iinc (p' := 33) f_54_30 rfl (L' := [some (.inr (.inr (12, k0, i0))), some (.inl (wr (x1 + 1)))]) rfl rfl
 (w_goto (p' := 2) f_54_33 rfl
 ((((h.2 c103).2 c102).2.1 c101))))
 (fun c101 => w_iload_n (p' := 29) f_54_28 rfl rfl
 (w_iret f_54_29 rk_54 (((h.2 c103).2 c102).2.2 c101)))))))))))))))
/-! ClosedRooms$World.lowestRoomNotThere()I -/
theorem f_55_0 : fnd 55 0 = some (0, .iconst 0, 1, 0, 0, 0, 0) := ceB_eq (by decide +kernel)
theorem f_55_1 : fnd 55 1 = some (1, .istore_n 1, 1, 0, 0, 0, 0) := ceB_eq (by decide +kernel)
theorem f_55_2 : fnd 55 2 = some (2, .iload_n 1, 1, 0, 0, 0, 0) := ceB_eq (by decide +kernel)
theorem f_55_3 : fnd 55 3 = some (3, .iconst 4, 1, 0, 0, 0, 0) := ceB_eq (by decide +kernel)
theorem f_55_4 : fnd 55 4 = some (4, .if_icmp .ge 23, 3, 0, 0, 0, 0) := ceB_eq (by decide +kernel)
theorem f_55_7 : fnd 55 7 = some (7, .aload_n 0, 1, 0, 0, 0, 0) := ceB_eq (by decide +kernel)
theorem f_55_8 : fnd 55 8 = some (8, .getfield 35, 3, 4, 6, 6, 0) := ceB_eq (by decide +kernel)
theorem f_55_11 : fnd 55 11 = some (11, .iload_n 1, 1, 0, 0, 0, 0) := ceB_eq (by decide +kernel)
theorem f_55_12 : fnd 55 12 = some (12, .aaload, 1, 0, 0, 0, 0) := ceB_eq (by decide +kernel)
theorem f_55_13 : fnd 55 13 = some (13, .getfield 66, 3, 7, 0, 0, 0) := ceB_eq (by decide +kernel)
theorem f_55_16 : fnd 55 16 = some (16, .ifCond .ne 5, 3, 0, 0, 0, 0) := ceB_eq (by decide +kernel)
theorem f_55_19 : fnd 55 19 = some (19, .iload_n 1, 1, 0, 0, 0, 0) := ceB_eq (by decide +kernel)
theorem f_55_20 : fnd 55 20 = some (20, .ireturn, 1, 0, 0, 0, 0) := ceB_eq (by decide +kernel)
theorem f_55_21 : fnd 55 21 = some (21, .iinc 1 1, 3, 0, 0, 0, 0) := ceB_eq (by decide +kernel)
theorem f_55_24 : fnd 55 24 = some (24, .goto (-22), 3, 0, 0, 0, 0) := ceB_eq (by decide +kernel)
theorem f_55_27 : fnd 55 27 = some (27, .iconst (-1), 1, 0, 0, 0, 0) := ceB_eq (by decide +kernel)
theorem f_55_28 : fnd 55 28 = some (28, .ireturn, 1, 0, 0, 0, 0) := ceB_eq (by decide +kernel)
theorem rk_55 : rkm 55 = 0 := by decide +kernel
theorem ml_55 : (mth 55).2.1 = 2 := by decide +kernel
set_option maxRecDepth 100000 in
theorem T_World_lowestRoomNotThere (k0 i0 : Int) (σ : ST) (Q : Option AV → ST → Prop) (h :
  wp m_World_lowestRoomNotThere (2, [some (.inr (.inr (12, k0, i0))), some (.inl 0)], [], σ) Q) :
  wpM m_World_lowestRoomNotThere [.inr (.inr (12, k0, i0))] σ Q :=
 wpM_of ml_55 (L := [some (.inr (.inr (12, k0, i0))), none]) rfl
 (w_iconst (p' := 1) f_55_0 rfl
 (w_istore_n (p' := 2) f_55_1 (L' := [some (.inr (.inr (12, k0, i0))), some (.inl 0)]) rfl rfl
 (h)))
set_option maxRecDepth 100000 in
theorem T_World_lowestRoomNotThere_2 (k0 i0 x1 : Int) (σ : ST) (Q : Option AV → ST → Prop) (h :
  (((4 ≤ x1 : Prop) →
    Q (some (.inl (-1))) σ) ∧
  (¬ (4 ≤ x1) →
    ((0 : Int) ≤ x1 ∧ (x1 : Int) < 4) ∧
    ((((bz (σ 17 k0 x1 0)) ≠ 0 : Prop) →
      wp m_World_lowestRoomNotThere (2, [some (.inr (.inr (12, k0, i0))), some (.inl (wr (x1 + 1)))], [], σ) Q) ∧
    (¬ ((bz (σ 17 k0 x1 0)) ≠ 0) →
      Q (some (.inl x1)) σ))))) :
  wp m_World_lowestRoomNotThere (2, [some (.inr (.inr (12, k0, i0))), some (.inl x1)], [], σ) Q :=
 w_iload_n (p' := 3) f_55_2 rfl rfl
 (w_iconst (p' := 4) f_55_3 rfl
 (w_icmp (p' := 27) (q' := 7) f_55_4 rfl rfl
 (fun c102 => w_iconst (p' := 28) f_55_27 rfl
 (w_iret f_55_28 rk_55 (h.1 c102)))
 (fun c102 => w_aload_n (p' := 8) f_55_7 rfl rfl
 (w_getfield (p' := 11) f_55_8 rfl (x := .inr (.inr (16, k0, 0))) rfl rfl
 (w_iload_n (p' := 12) f_55_11 rfl rfl
 (w_aaload (p' := 13) f_55_12 rfl (n := 4) rfl (x := (17, k0, x1)) rfl (h.2 c102).1 rfl
 (w_getfield (p' := 16) f_55_13 rfl (x := .inl (bz (σ 17 k0 x1 0))) rfl rfl
 (w_if (p' := 21) (q' := 19) f_55_16 rfl rfl
 (fun c101 => w_iinc (p' := 24) f_55_21 rfl (L' := [some (.inr (.inr (12, k0, i0))), some (.inl (wr (x1 + 1)))]) rfl rfl
 (w_goto (p' := 2) f_55_24 rfl
 (((h.2 c102).2.1 c101))))
 (fun c101 => w_iload_n (p' := 20) f_55_19 rfl rfl
 (w_iret f_55_20 rk_55 ((h.2 c102).2.2 c101)))))))))))
/-! ClosedRooms$Room.begin(II)V -/
theorem f_56_0 : fnd 56 0 = some (0, .aload_n 0, 1, 0, 0, 0, 0) := ceB_eq (by decide +kernel)
theorem f_56_1 : fnd 56 1 = some (1, .iconst 1, 1, 0, 0, 0, 0) := ceB_eq (by decide +kernel)
theorem f_56_2 : fnd 56 2 = some (2, .putfield 9, 3, 7, 0, 0, 0) := ceB_eq (by decide +kernel)
theorem f_56_5 : fnd 56 5 = some (5, .aload_n 0, 1, 0, 0, 0, 0) := ceB_eq (by decide +kernel)
theorem f_56_6 : fnd 56 6 = some (6, .iload_n 1, 1, 0, 0, 0, 0) := ceB_eq (by decide +kernel)
theorem f_56_7 : fnd 56 7 = some (7, .putfield 15, 3, 7, 1, 1, 0) := ceB_eq (by decide +kernel)
theorem f_56_10 : fnd 56 10 = some (10, .aload_n 0, 1, 0, 0, 0, 0) := ceB_eq (by decide +kernel)
theorem f_56_11 : fnd 56 11 = some (11, .iload_n 2, 1, 0, 0, 0, 0) := ceB_eq (by decide +kernel)
theorem f_56_12 : fnd 56 12 = some (12, .putfield 19, 3, 7, 2, 2, 0) := ceB_eq (by decide +kernel)
theorem f_56_15 : fnd 56 15 = some (15, .aload_n 0, 1, 0, 0, 0, 0) := ceB_eq (by decide +kernel)
theorem f_56_16 : fnd 56 16 = some (16, .iconst 0, 1, 0, 0, 0, 0) := ceB_eq (by decide +kernel)
theorem f_56_17 : fnd 56 17 = some (17, .putfield 22, 3, 7, 3, 3, 0) := ceB_eq (by decide +kernel)
theorem f_56_20 : fnd 56 20 = some (20, .aload_n 0, 1, 0, 0, 0, 0) := ceB_eq (by decide +kernel)
theorem f_56_21 : fnd 56 21 = some (21, .bipush 7, 2, 0, 0, 0, 0) := ceB_eq (by decide +kernel)
theorem f_56_23 : fnd 56 23 = some (23, .iload_n 2, 1, 0, 0, 0, 0) := ceB_eq (by decide +kernel)
theorem f_56_24 : fnd 56 24 = some (24, .iadd, 1, 0, 0, 0, 0) := ceB_eq (by decide +kernel)
theorem f_56_25 : fnd 56 25 = some (25, .putfield 25, 3, 7, 4, 4, 0) := ceB_eq (by decide +kernel)
theorem f_56_28 : fnd 56 28 = some (28, .aload_n 0, 1, 0, 0, 0, 0) := ceB_eq (by decide +kernel)
theorem f_56_29 : fnd 56 29 = some (29, .iconst 0, 1, 0, 0, 0, 0) := ceB_eq (by decide +kernel)
theorem f_56_30 : fnd 56 30 = some (30, .putfield 28, 3, 7, 5, 5, 0) := ceB_eq (by decide +kernel)
theorem f_56_33 : fnd 56 33 = some (33, .aload_n 0, 1, 0, 0, 0, 0) := ceB_eq (by decide +kernel)
theorem f_56_34 : fnd 56 34 = some (34, .iconst 0, 1, 0, 0, 0, 0) := ceB_eq (by decide +kernel)
theorem f_56_35 : fnd 56 35 = some (35, .putfield 31, 3, 7, 6, 6, 0) := ceB_eq (by decide +kernel)
theorem f_56_38 : fnd 56 38 = some (38, .iconst 0, 1, 0, 0, 0, 0) := ceB_eq (by decide +kernel)
theorem f_56_39 : fnd 56 39 = some (39, .istore_n 3, 1, 0, 0, 0, 0) := ceB_eq (by decide +kernel)
theorem f_56_40 : fnd 56 40 = some (40, .iload_n 3, 1, 0, 0, 0, 0) := ceB_eq (by decide +kernel)
theorem f_56_41 : fnd 56 41 = some (41, .bipush 8, 2, 0, 0, 0, 0) := ceB_eq (by decide +kernel)
theorem f_56_43 : fnd 56 43 = some (43, .if_icmp .ge 23, 3, 0, 0, 0, 0) := ceB_eq (by decide +kernel)
theorem f_56_46 : fnd 56 46 = some (46, .aload_n 0, 1, 0, 0, 0, 0) := ceB_eq (by decide +kernel)
theorem f_56_47 : fnd 56 47 = some (47, .getfield 34, 3, 7, 7, 7, 0) := ceB_eq (by decide +kernel)
theorem f_56_50 : fnd 56 50 = some (50, .iload_n 3, 1, 0, 0, 0, 0) := ceB_eq (by decide +kernel)
theorem f_56_51 : fnd 56 51 = some (51, .iconst 0, 1, 0, 0, 0, 0) := ceB_eq (by decide +kernel)
theorem f_56_52 : fnd 56 52 = some (52, .iastore, 1, 0, 0, 0, 0) := ceB_eq (by decide +kernel)
theorem f_56_53 : fnd 56 53 = some (53, .aload_n 0, 1, 0, 0, 0, 0) := ceB_eq (by decide +kernel)
theorem f_56_54 : fnd 56 54 = some (54, .getfield 38, 3, 7, 8, 8, 0) := ceB_eq (by decide +kernel)
theorem f_56_57 : fnd 56 57 = some (57, .iload_n 3, 1, 0, 0, 0, 0) := ceB_eq (by decide +kernel)
theorem f_56_58 : fnd 56 58 = some (58, .iconst (-1), 1, 0, 0, 0, 0) := ceB_eq (by decide +kernel)
theorem f_56_59 : fnd 56 59 = some (59, .iastore, 1, 0, 0, 0, 0) := ceB_eq (by decide +kernel)
theorem f_56_60 : fnd 56 60 = some (60, .iinc 3 1, 3, 0, 0, 0, 0) := ceB_eq (by decide +kernel)
theorem f_56_63 : fnd 56 63 = some (63, .goto (-23), 3, 0, 0, 0, 0) := ceB_eq (by decide +kernel)
theorem f_56_66 : fnd 56 66 = some (66, .return_, 1, 0, 0, 0, 0) := ceB_eq (by decide +kernel)
theorem rk_56 : rkm 56 = 4 := by decide +kernel
theorem ml_56 : (mth 56).2.1 = 4 := by decide +kernel
set_option maxRecDepth 100000 in
theorem T_Room_begin (k0 i0 x1 x2 : Int) (σ : ST) (Q : Option AV → ST → Prop) (h :
  ((1 : Int) = 0 ∨ (1 : Int) = 1) ∧
  ((0 : Int) = 0 ∨ (0 : Int) = 1) ∧
  ((0 : Int) = 0 ∨ (0 : Int) = 1) ∧
  wp m_Room_begin (40, [some (.inr (.inr (17, k0, i0))), some (.inl x1), some (.inl x2), some (.inl 0)], [], (up (up (up (up (up (up (up σ 17 k0 i0 0 1) 17 k0 i0 1 x1) 17 k0 i0 2 x2) 17 k0 i0 3 0) 17 k0 i0 4 (wr (7 + x2))) 17 k0 i0 5 0) 17 k0 i0 6 0)) Q) :
  wpM m_Room_begin [.inr (.inr (17, k0, i0)), .inl x1, .inl x2] σ Q :=
 wpM_of ml_56 (L := [some (.inr (.inr (17, k0, i0))), some (.inl x1), some (.inl x2), none]) rfl
 (w_aload_n (p' := 1) f_56_0 rfl rfl
 (w_iconst (p' := 2) f_56_1 rfl
 (w_putZ (p' := 5) f_56_2 rfl rfl (c' := 0) rfl h.1 rfl
 (w_aload_n (p' := 6) f_56_5 rfl rfl
 (w_iload_n (p' := 7) f_56_6 rfl rfl
 (w_putI (p' := 10) f_56_7 rfl rfl (c' := 1) rfl rfl
 (w_aload_n (p' := 11) f_56_10 rfl rfl
 (w_iload_n (p' := 12) f_56_11 rfl rfl
 (w_putI (p' := 15) f_56_12 rfl rfl (c' := 2) rfl rfl
 (w_aload_n (p' := 16) f_56_15 rfl rfl
 (w_iconst (p' := 17) f_56_16 rfl
 (w_putZ (p' := 20) f_56_17 rfl rfl (c' := 3) rfl h.2.1 rfl
 (w_aload_n (p' := 21) f_56_20 rfl rfl
 (w_bipush (p' := 23) f_56_21 rfl
 (w_iload_n (p' := 24) f_56_23 rfl rfl
 (w_iadd (p' := 25) f_56_24 rfl
 (w_putI (p' := 28) f_56_25 rfl rfl (c' := 4) rfl rfl
 (w_aload_n (p' := 29) f_56_28 rfl rfl
 (w_iconst (p' := 30) f_56_29 rfl
 (w_putI (p' := 33) f_56_30 rfl rfl (c' := 5) rfl rfl
 (w_aload_n (p' := 34) f_56_33 rfl rfl
 (w_iconst (p' := 35) f_56_34 rfl
 (w_putZ (p' := 38) f_56_35 rfl rfl (c' := 6) rfl h.2.2.1 rfl
 (w_iconst (p' := 39) f_56_38 rfl
 (w_istore_n (p' := 40) f_56_39 (L' := [some (.inr (.inr (17, k0, i0))), some (.inl x1), some (.inl x2), some (.inl 0)]) rfl rfl
 (h.2.2.2))))))))))))))))))))))))))
set_option maxRecDepth 100000 in
theorem T_Room_begin_40 (k0 i0 x3 : Int) (o1 o2 : Option AV) (σ : ST) (Q : Option AV → ST → Prop) (h :
  (((8 ≤ x3 : Prop) →
    Q none σ) ∧
  (¬ (8 ≤ x3) →
    ((0 : Int) ≤ x3 ∧ (x3 : Int) < 8) ∧
    ((0 : Int) ≤ x3 ∧ (x3 : Int) < 8) ∧
    wp m_Room_begin (40, [some (.inr (.inr (17, k0, i0))), o1, o2, some (.inl (wr (x3 + 1)))], [], (up (up σ 18 k0 i0 x3 0) 19 k0 i0 x3 (-1))) Q))) :
  wp m_Room_begin (40, [some (.inr (.inr (17, k0, i0))), o1, o2, some (.inl x3)], [], σ) Q :=
 w_iload_n (p' := 41) f_56_40 rfl rfl
 (w_bipush (p' := 43) f_56_41 rfl
 (w_icmp (p' := 66) (q' := 46) f_56_43 rfl rfl
 (fun c101 => w_vret f_56_66 rk_56 (h.1 c101))
 (fun c101 => w_aload_n (p' := 47) f_56_46 rfl rfl
 (w_getfield (p' := 50) f_56_47 rfl (x := .inr (.inr (18, k0, i0))) rfl rfl
 (w_iload_n (p' := 51) f_56_50 rfl rfl
 (w_iconst (p' := 52) f_56_51 rfl
 (w_iastore (p' := 53) f_56_52 rfl (n := 8) rfl (h.2 c101).1 rfl
 (w_aload_n (p' := 54) f_56_53 rfl rfl
 (w_getfield (p' := 57) f_56_54 rfl (x := .inr (.inr (19, k0, i0))) rfl rfl
 (w_iload_n (p' := 58) f_56_57 rfl rfl
 (w_iconst (p' := 59) f_56_58 rfl
 (w_iastore (p' := 60) f_56_59 rfl (n := 8) rfl (h.2 c101).2.1 rfl
 (w_iinc (p' := 63) f_56_60 rfl (L' := [some (.inr (.inr (17, k0, i0))), o1, o2, some (.inl (wr (x3 + 1)))]) rfl rfl
 (w_goto (p' := 40) f_56_63 rfl
 ((h.2 c101).2.2)))))))))))))))
/-! ClosedRooms$Acts.makeRoom(I)I -/
theorem f_57_0 : fnd 57 0 = some (0, .aload_n 0, 1, 0, 0, 0, 0) := ceB_eq (by decide +kernel)
theorem f_57_1 : fnd 57 1 = some (1, .getfield 12, 3, 3, 0, 0, 0) := ceB_eq (by decide +kernel)
theorem f_57_4 : fnd 57 4 = some (4, .getfield 100, 3, 4, 0, 0, 0) := ceB_eq (by decide +kernel)
theorem f_57_7 : fnd 57 7 = some (7, .ifCond .ne 9, 3, 0, 0, 0, 0) := ceB_eq (by decide +kernel)
theorem f_57_10 : fnd 57 10 = some (10, .aload_n 0, 1, 0, 0, 0, 0) := ceB_eq (by decide +kernel)
theorem f_57_11 : fnd 57 11 = some (11, .iconst 0, 1, 0, 0, 0, 0) := ceB_eq (by decide +kernel)
theorem f_57_12 : fnd 57 12 = some (12, .invokevirtual 85, 3, 53, 2, 3, 0) := ceB_eq (by decide +kernel)
theorem f_57_15 : fnd 57 15 = some (15, .ireturn, 1, 0, 0, 0, 0) := ceB_eq (by decide +kernel)
theorem f_57_16 : fnd 57 16 = some (16, .iload_n 1, 1, 0, 0, 0, 0) := ceB_eq (by decide +kernel)
theorem f_57_17 : fnd 57 17 = some (17, .iconst 1, 1, 0, 0, 0, 0) := ceB_eq (by decide +kernel)
theorem f_57_18 : fnd 57 18 = some (18, .if_icmp .lt 9, 3, 0, 0, 0, 0) := ceB_eq (by decide +kernel)
theorem f_57_21 : fnd 57 21 = some (21, .iload_n 1, 1, 0, 0, 0, 0) := ceB_eq (by decide +kernel)
theorem f_57_22 : fnd 57 22 = some (22, .bipush 8, 2, 0, 0, 0, 0) := ceB_eq (by decide +kernel)
theorem f_57_24 : fnd 57 24 = some (24, .if_icmp .le 9, 3, 0, 0, 0, 0) := ceB_eq (by decide +kernel)
theorem f_57_27 : fnd 57 27 = some (27, .aload_n 0, 1, 0, 0, 0, 0) := ceB_eq (by decide +kernel)
theorem f_57_28 : fnd 57 28 = some (28, .iconst 1, 1, 0, 0, 0, 0) := ceB_eq (by decide +kernel)
theorem f_57_29 : fnd 57 29 = some (29, .invokevirtual 85, 3, 53, 2, 3, 0) := ceB_eq (by decide +kernel)
theorem f_57_32 : fnd 57 32 = some (32, .ireturn, 1, 0, 0, 0, 0) := ceB_eq (by decide +kernel)
theorem f_57_33 : fnd 57 33 = some (33, .aload_n 0, 1, 0, 0, 0, 0) := ceB_eq (by decide +kernel)
theorem f_57_34 : fnd 57 34 = some (34, .getfield 12, 3, 3, 0, 0, 0) := ceB_eq (by decide +kernel)
theorem f_57_37 : fnd 57 37 = some (37, .invokevirtual 103, 3, 54, 1, 4, 0) := ceB_eq (by decide +kernel)
theorem f_57_40 : fnd 57 40 = some (40, .istore_n 2, 1, 0, 0, 0, 0) := ceB_eq (by decide +kernel)
theorem f_57_41 : fnd 57 41 = some (41, .aload_n 0, 1, 0, 0, 0, 0) := ceB_eq (by decide +kernel)
theorem f_57_42 : fnd 57 42 = some (42, .getfield 12, 3, 3, 0, 0, 0) := ceB_eq (by decide +kernel)
theorem f_57_45 : fnd 57 45 = some (45, .invokevirtual 106, 3, 55, 1, 4, 0) := ceB_eq (by decide +kernel)
theorem f_57_48 : fnd 57 48 = some (48, .istore_n 3, 1, 0, 0, 0, 0) := ceB_eq (by decide +kernel)
theorem f_57_49 : fnd 57 49 = some (49, .iload_n 2, 1, 0, 0, 0, 0) := ceB_eq (by decide +kernel)
theorem f_57_50 : fnd 57 50 = some (50, .iconst (-1), 1, 0, 0, 0, 0) := ceB_eq (by decide +kernel)
theorem f_57_51 : fnd 57 51 = some (51, .if_icmp .eq 8, 3, 0, 0, 0, 0) := ceB_eq (by decide +kernel)
theorem f_57_54 : fnd 57 54 = some (54, .iload_n 3, 1, 0, 0, 0, 0) := ceB_eq (by decide +kernel)
theorem f_57_55 : fnd 57 55 = some (55, .iconst (-1), 1, 0, 0, 0, 0) := ceB_eq (by decide +kernel)
theorem f_57_56 : fnd 57 56 = some (56, .if_icmp .ne 9, 3, 0, 0, 0, 0) := ceB_eq (by decide +kernel)
theorem f_57_59 : fnd 57 59 = some (59, .aload_n 0, 1, 0, 0, 0, 0) := ceB_eq (by decide +kernel)
theorem f_57_60 : fnd 57 60 = some (60, .iconst 3, 1, 0, 0, 0, 0) := ceB_eq (by decide +kernel)
theorem f_57_61 : fnd 57 61 = some (61, .invokevirtual 85, 3, 53, 2, 3, 0) := ceB_eq (by decide +kernel)
theorem f_57_64 : fnd 57 64 = some (64, .ireturn, 1, 0, 0, 0, 0) := ceB_eq (by decide +kernel)
theorem f_57_65 : fnd 57 65 = some (65, .aload_n 0, 1, 0, 0, 0, 0) := ceB_eq (by decide +kernel)
theorem f_57_66 : fnd 57 66 = some (66, .getfield 12, 3, 3, 0, 0, 0) := ceB_eq (by decide +kernel)
theorem f_57_69 : fnd 57 69 = some (69, .dup, 1, 0, 0, 0, 0) := ceB_eq (by decide +kernel)
theorem f_57_70 : fnd 57 70 = some (70, .getfield 109, 3, 4, 4, 4, 0) := ceB_eq (by decide +kernel)
theorem f_57_73 : fnd 57 73 = some (73, .iconst 1, 1, 0, 0, 0, 0) := ceB_eq (by decide +kernel)
theorem f_57_74 : fnd 57 74 = some (74, .iadd, 1, 0, 0, 0, 0) := ceB_eq (by decide +kernel)
theorem f_57_75 : fnd 57 75 = some (75, .putfield 109, 3, 4, 4, 4, 0) := ceB_eq (by decide +kernel)
theorem f_57_78 : fnd 57 78 = some (78, .aload_n 0, 1, 0, 0, 0, 0) := ceB_eq (by decide +kernel)
theorem f_57_79 : fnd 57 79 = some (79, .getfield 12, 3, 3, 0, 0, 0) := ceB_eq (by decide +kernel)
theorem f_57_82 : fnd 57 82 = some (82, .getfield 112, 3, 4, 6, 6, 0) := ceB_eq (by decide +kernel)
theorem f_57_85 : fnd 57 85 = some (85, .iload_n 3, 1, 0, 0, 0, 0) := ceB_eq (by decide +kernel)
theorem f_57_86 : fnd 57 86 = some (86, .aaload, 1, 0, 0, 0, 0) := ceB_eq (by decide +kernel)
theorem f_57_87 : fnd 57 87 = some (87, .aload_n 0, 1, 0, 0, 0, 0) := ceB_eq (by decide +kernel)
theorem f_57_88 : fnd 57 88 = some (88, .getfield 12, 3, 3, 0, 0, 0) := ceB_eq (by decide +kernel)
theorem f_57_91 : fnd 57 91 = some (91, .getfield 109, 3, 4, 4, 4, 0) := ceB_eq (by decide +kernel)
theorem f_57_94 : fnd 57 94 = some (94, .iload_n 1, 1, 0, 0, 0, 0) := ceB_eq (by decide +kernel)
theorem f_57_95 : fnd 57 95 = some (95, .invokevirtual 116, 3, 56, 3, 7, 0) := ceB_eq (by decide +kernel)
theorem f_57_98 : fnd 57 98 = some (98, .aload_n 0, 1, 0, 0, 0, 0) := ceB_eq (by decide +kernel)
theorem f_57_99 : fnd 57 99 = some (99, .getfield 12, 3, 3, 0, 0, 0) := ceB_eq (by decide +kernel)
theorem f_57_102 : fnd 57 102 = some (102, .getfield 122, 3, 4, 5, 5, 0) := ceB_eq (by decide +kernel)
theorem f_57_105 : fnd 57 105 = some (105, .iload_n 2, 1, 0, 0, 0, 0) := ceB_eq (by decide +kernel)
theorem f_57_106 : fnd 57 106 = some (106, .aaload, 1, 0, 0, 0, 0) := ceB_eq (by decide +kernel)
theorem f_57_107 : fnd 57 107 = some (107, .iconst 1, 1, 0, 0, 0, 0) := ceB_eq (by decide +kernel)
theorem f_57_108 : fnd 57 108 = some (108, .iload_n 3, 1, 0, 0, 0, 0) := ceB_eq (by decide +kernel)
theorem f_57_109 : fnd 57 109 = some (109, .invokevirtual 126, 3, 22, 3, 6, 0) := ceB_eq (by decide +kernel)
theorem f_57_112 : fnd 57 112 = some (112, .iload_n 3, 1, 0, 0, 0, 0) := ceB_eq (by decide +kernel)
theorem f_57_113 : fnd 57 113 = some (113, .ireturn, 1, 0, 0, 0, 0) := ceB_eq (by decide +kernel)
theorem rk_57 : rkm 57 = 0 := by decide +kernel
theorem ml_57 : (mth 57).2.1 = 4 := by decide +kernel
set_option maxRecDepth 100000 in
theorem T_Acts_makeRoom (k0 i0 x1 : Int) (σ : ST) (Q : Option AV → ST → Prop) (h :
  ((((σ 12 k0 0 0) ≠ 0 : Prop) →
    (((x1 < 1 : Prop) →
      wpM m_Acts_refuse [.inr (.inr (11, k0, i0)), .inl 1] σ (asI fun r101 s101 =>
      Q (some (.inl r101)) s101)) ∧
    (¬ (x1 < 1) →
      (((x1 ≤ 8 : Prop) →
        wpM m_World_lowestFreePage [.inr (.inr (12, k0, 0))] σ (asI fun r102 s102 =>
        wpM m_World_lowestRoomNotThere [.inr (.inr (12, k0, 0))] s102 (asI fun r103 s103 =>
        (((r102 = (-1) : Prop) →
          wpM m_Acts_refuse [.inr (.inr (11, k0, i0)), .inl 3] s103 (asI fun r104 s104 =>
          Q (some (.inl r104)) s104)) ∧
        (¬ (r102 = (-1)) →
          (((r103 ≠ (-1) : Prop) →
            ((0 : Int) ≤ r103 ∧ (r103 : Int) < 4) ∧
            wpM m_Room_begin [.inr (.inr (17, k0, r103)), .inl ((up s103 12 k0 0 4 (wr ((s103 12 k0 0 4) + 1))) 12 k0 0 4), .inl x1] (up s103 12 k0 0 4 (wr ((s103 12 k0 0 4) + 1))) (asV fun s105 =>
            ((0 : Int) ≤ r102 ∧ (r102 : Int) < 10) ∧
            wpM m_Page_begin [.inr (.inr (14, k0, r102)), .inl 1, .inl r103] s105 (asV fun s106 =>
            Q (some (.inl r103)) s106))) ∧
          (¬ (r103 ≠ (-1)) →
            wpM m_Acts_refuse [.inr (.inr (11, k0, i0)), .inl 3] s103 (asI fun r107 s107 =>
            Q (some (.inl r107)) s107)))))))) ∧
      (¬ (x1 ≤ 8) →
        wpM m_Acts_refuse [.inr (.inr (11, k0, i0)), .inl 1] σ (asI fun r110 s110 =>
        Q (some (.inl r110)) s110)))))) ∧
  (¬ ((σ 12 k0 0 0) ≠ 0) →
    wpM m_Acts_refuse [.inr (.inr (11, k0, i0)), .inl 0] σ (asI fun r113 s113 =>
    Q (some (.inl r113)) s113)))) :
  wpM m_Acts_makeRoom [.inr (.inr (11, k0, i0)), .inl x1] σ Q :=
 wpM_of ml_57 (L := [some (.inr (.inr (11, k0, i0))), some (.inl x1), none, none]) rfl
 (w_aload_n (p' := 1) f_57_0 rfl rfl
 (w_getfield (p' := 4) f_57_1 rfl (x := .inr (.inr (12, k0, 0))) rfl rfl
 (w_getfield (p' := 7) f_57_4 rfl (x := .inl (σ 12 k0 0 0)) rfl rfl
 (w_if (p' := 16) (q' := 10) f_57_7 rfl rfl
 (fun c114 => w_iload_n (p' := 17) f_57_16 rfl rfl
 (w_iconst (p' := 18) f_57_17 rfl
 (w_icmp (p' := 27) (q' := 21) f_57_18 rfl rfl
 (fun c112 => w_aload_n (p' := 28) f_57_27 rfl rfl
 (w_iconst (p' := 29) f_57_28 rfl
 (w_callV (p' := 32) f_57_29 rfl rfl rfl rfl rfl (r := []) rfl rfl (kI (.inl rk_53) fun r101 s101 h101 =>
 w_iret f_57_32 rk_57 h101) ((h.1 c114).1 c112))))
 (fun c112 => w_iload_n (p' := 22) f_57_21 rfl rfl
 (w_bipush (p' := 24) f_57_22 rfl
 (w_icmp (p' := 33) (q' := 27) f_57_24 rfl rfl
 (fun c111 => w_aload_n (p' := 34) f_57_33 rfl rfl
 (w_getfield (p' := 37) f_57_34 rfl (x := .inr (.inr (12, k0, 0))) rfl rfl
 (w_callV (p' := 40) f_57_37 rfl rfl rfl rfl rfl (r := []) rfl rfl (kI (.inl rk_54) fun r102 s102 h102 =>
 w_istore_n (p' := 41) f_57_40 (L' := [some (.inr (.inr (11, k0, i0))), some (.inl x1), some (.inl r102), none]) rfl rfl
 (w_aload_n (p' := 42) f_57_41 rfl rfl
 (w_getfield (p' := 45) f_57_42 rfl (x := .inr (.inr (12, k0, 0))) rfl rfl
 (w_callV (p' := 48) f_57_45 rfl rfl rfl rfl rfl (r := []) rfl rfl (kI (.inl rk_55) fun r103 s103 h103 =>
 w_istore_n (p' := 49) f_57_48 (L' := [some (.inr (.inr (11, k0, i0))), some (.inl x1), some (.inl r102), some (.inl r103)]) rfl rfl
 (w_iload_n (p' := 50) f_57_49 rfl rfl
 (w_iconst (p' := 51) f_57_50 rfl
 (w_icmp (p' := 59) (q' := 54) f_57_51 rfl rfl
 (fun c109 => w_aload_n (p' := 60) f_57_59 rfl rfl
 (w_iconst (p' := 61) f_57_60 rfl
 (w_callV (p' := 64) f_57_61 rfl rfl rfl rfl rfl (r := []) rfl rfl (kI (.inl rk_53) fun r104 s104 h104 =>
 w_iret f_57_64 rk_57 h104) (h103.1 c109))))
 (fun c109 => w_iload_n (p' := 55) f_57_54 rfl rfl
 (w_iconst (p' := 56) f_57_55 rfl
 (w_icmp (p' := 65) (q' := 59) f_57_56 rfl rfl
 (fun c108 => w_aload_n (p' := 66) f_57_65 rfl rfl
 (w_getfield (p' := 69) f_57_66 rfl (x := .inr (.inr (12, k0, 0))) rfl rfl
 (w_dupR (p' := 70) f_57_69 rfl
 (w_getfield (p' := 73) f_57_70 rfl (x := .inl (s103 12 k0 0 4)) rfl rfl
 (w_iconst (p' := 74) f_57_73 rfl
 (w_iadd (p' := 75) f_57_74 rfl
 (w_putI (p' := 78) f_57_75 rfl rfl (c' := 4) rfl rfl
 (w_aload_n (p' := 79) f_57_78 rfl rfl
 (w_getfield (p' := 82) f_57_79 rfl (x := .inr (.inr (12, k0, 0))) rfl rfl
 (w_getfield (p' := 85) f_57_82 rfl (x := .inr (.inr (16, k0, 0))) rfl rfl
 (w_iload_n (p' := 86) f_57_85 rfl rfl
 (w_aaload (p' := 87) f_57_86 rfl (n := 4) rfl (x := (17, k0, r103)) rfl ((h103.2 c109).1 c108).1 rfl
 (w_aload_n (p' := 88) f_57_87 rfl rfl
 (w_getfield (p' := 91) f_57_88 rfl (x := .inr (.inr (12, k0, 0))) rfl rfl
 (w_getfield (p' := 94) f_57_91 rfl (x := .inl ((up s103 12 k0 0 4 (wr ((s103 12 k0 0 4) + 1))) 12 k0 0 4)) rfl rfl
 (w_iload_n (p' := 95) f_57_94 rfl rfl
 (w_callV (p' := 98) f_57_95 rfl rfl rfl rfl rfl (r := []) rfl rfl (kV rk_56 fun s105 h105 =>
 w_aload_n (p' := 99) f_57_98 rfl rfl
 (w_getfield (p' := 102) f_57_99 rfl (x := .inr (.inr (12, k0, 0))) rfl rfl
 (w_getfield (p' := 105) f_57_102 rfl (x := .inr (.inr (13, k0, 0))) rfl rfl
 (w_iload_n (p' := 106) f_57_105 rfl rfl
 (w_aaload (p' := 107) f_57_106 rfl (n := 10) rfl (x := (14, k0, r102)) rfl h105.1 rfl
 (w_iconst (p' := 108) f_57_107 rfl
 (w_iload_n (p' := 109) f_57_108 rfl rfl
 (w_callV (p' := 112) f_57_109 rfl rfl rfl rfl rfl (r := []) rfl rfl (kV rk_22 fun s106 h106 =>
 w_iload_n (p' := 113) f_57_112 rfl rfl
 (w_iret f_57_113 rk_57 h106)) h105.2)))))))) ((h103.2 c109).1 c108).2)))))))))))))))))
 (fun c108 => w_aload_n (p' := 60) f_57_59 rfl rfl
 (w_iconst (p' := 61) f_57_60 rfl
 (w_callV (p' := 64) f_57_61 rfl rfl rfl rfl rfl (r := []) rfl rfl (kI (.inl rk_53) fun r107 s107 h107 =>
 w_iret f_57_64 rk_57 h107) ((h103.2 c109).2 c108))))))))))) h102)))) (((h.1 c114).2 c112).1 c111))))
 (fun c111 => w_aload_n (p' := 28) f_57_27 rfl rfl
 (w_iconst (p' := 29) f_57_28 rfl
 (w_callV (p' := 32) f_57_29 rfl rfl rfl rfl rfl (r := []) rfl rfl (kI (.inl rk_53) fun r110 s110 h110 =>
 w_iret f_57_32 rk_57 h110) (((h.1 c114).2 c112).2 c111))))))))))
 (fun c114 => w_aload_n (p' := 11) f_57_10 rfl rfl
 (w_iconst (p' := 12) f_57_11 rfl
 (w_callV (p' := 15) f_57_12 rfl rfl rfl rfl rfl (r := []) rfl rfl (kI (.inl rk_53) fun r113 s113 h113 =>
 w_iret f_57_15 rk_57 h113) (h.2 c114))))))))
/-! ClosedRooms$Acts.makeSlots()I -/
theorem f_58_0 : fnd 58 0 = some (0, .aload_n 0, 1, 0, 0, 0, 0) := ceB_eq (by decide +kernel)
theorem f_58_1 : fnd 58 1 = some (1, .getfield 12, 3, 3, 0, 0, 0) := ceB_eq (by decide +kernel)
theorem f_58_4 : fnd 58 4 = some (4, .getfield 100, 3, 4, 0, 0, 0) := ceB_eq (by decide +kernel)
theorem f_58_7 : fnd 58 7 = some (7, .ifCond .ne 9, 3, 0, 0, 0, 0) := ceB_eq (by decide +kernel)
theorem f_58_10 : fnd 58 10 = some (10, .aload_n 0, 1, 0, 0, 0, 0) := ceB_eq (by decide +kernel)
theorem f_58_11 : fnd 58 11 = some (11, .iconst 0, 1, 0, 0, 0, 0) := ceB_eq (by decide +kernel)
theorem f_58_12 : fnd 58 12 = some (12, .invokevirtual 85, 3, 53, 2, 3, 0) := ceB_eq (by decide +kernel)
theorem f_58_15 : fnd 58 15 = some (15, .ireturn, 1, 0, 0, 0, 0) := ceB_eq (by decide +kernel)
theorem f_58_16 : fnd 58 16 = some (16, .aload_n 0, 1, 0, 0, 0, 0) := ceB_eq (by decide +kernel)
theorem f_58_17 : fnd 58 17 = some (17, .getfield 12, 3, 3, 0, 0, 0) := ceB_eq (by decide +kernel)
theorem f_58_20 : fnd 58 20 = some (20, .invokevirtual 103, 3, 54, 1, 4, 0) := ceB_eq (by decide +kernel)
theorem f_58_23 : fnd 58 23 = some (23, .istore_n 1, 1, 0, 0, 0, 0) := ceB_eq (by decide +kernel)
theorem f_58_24 : fnd 58 24 = some (24, .iload_n 1, 1, 0, 0, 0, 0) := ceB_eq (by decide +kernel)
theorem f_58_25 : fnd 58 25 = some (25, .iconst (-1), 1, 0, 0, 0, 0) := ceB_eq (by decide +kernel)
theorem f_58_26 : fnd 58 26 = some (26, .if_icmp .ne 9, 3, 0, 0, 0, 0) := ceB_eq (by decide +kernel)
theorem f_58_29 : fnd 58 29 = some (29, .aload_n 0, 1, 0, 0, 0, 0) := ceB_eq (by decide +kernel)
theorem f_58_30 : fnd 58 30 = some (30, .iconst 3, 1, 0, 0, 0, 0) := ceB_eq (by decide +kernel)
theorem f_58_31 : fnd 58 31 = some (31, .invokevirtual 85, 3, 53, 2, 3, 0) := ceB_eq (by decide +kernel)
theorem f_58_34 : fnd 58 34 = some (34, .ireturn, 1, 0, 0, 0, 0) := ceB_eq (by decide +kernel)
theorem f_58_35 : fnd 58 35 = some (35, .aload_n 0, 1, 0, 0, 0, 0) := ceB_eq (by decide +kernel)
theorem f_58_36 : fnd 58 36 = some (36, .getfield 12, 3, 3, 0, 0, 0) := ceB_eq (by decide +kernel)
theorem f_58_39 : fnd 58 39 = some (39, .getfield 122, 3, 4, 5, 5, 0) := ceB_eq (by decide +kernel)
theorem f_58_42 : fnd 58 42 = some (42, .iload_n 1, 1, 0, 0, 0, 0) := ceB_eq (by decide +kernel)
theorem f_58_43 : fnd 58 43 = some (43, .aaload, 1, 0, 0, 0, 0) := ceB_eq (by decide +kernel)
theorem f_58_44 : fnd 58 44 = some (44, .iconst 4, 1, 0, 0, 0, 0) := ceB_eq (by decide +kernel)
theorem f_58_45 : fnd 58 45 = some (45, .iconst (-1), 1, 0, 0, 0, 0) := ceB_eq (by decide +kernel)
theorem f_58_46 : fnd 58 46 = some (46, .invokevirtual 126, 3, 22, 3, 6, 0) := ceB_eq (by decide +kernel)
theorem f_58_49 : fnd 58 49 = some (49, .iload_n 1, 1, 0, 0, 0, 0) := ceB_eq (by decide +kernel)
theorem f_58_50 : fnd 58 50 = some (50, .ireturn, 1, 0, 0, 0, 0) := ceB_eq (by decide +kernel)
theorem rk_58 : rkm 58 = 0 := by decide +kernel
theorem ml_58 : (mth 58).2.1 = 2 := by decide +kernel
set_option maxRecDepth 100000 in
theorem T_Acts_makeSlots (k0 i0 : Int) (σ : ST) (Q : Option AV → ST → Prop) (h :
  ((((σ 12 k0 0 0) ≠ 0 : Prop) →
    wpM m_World_lowestFreePage [.inr (.inr (12, k0, 0))] σ (asI fun r101 s101 =>
    (((r101 ≠ (-1) : Prop) →
      ((0 : Int) ≤ r101 ∧ (r101 : Int) < 10) ∧
      wpM m_Page_begin [.inr (.inr (14, k0, r101)), .inl 4, .inl (-1)] s101 (asV fun s102 =>
      Q (some (.inl r101)) s102)) ∧
    (¬ (r101 ≠ (-1)) →
      wpM m_Acts_refuse [.inr (.inr (11, k0, i0)), .inl 3] s101 (asI fun r103 s103 =>
      Q (some (.inl r103)) s103))))) ∧
  (¬ ((σ 12 k0 0 0) ≠ 0) →
    wpM m_Acts_refuse [.inr (.inr (11, k0, i0)), .inl 0] σ (asI fun r105 s105 =>
    Q (some (.inl r105)) s105)))) :
  wpM m_Acts_makeSlots [.inr (.inr (11, k0, i0))] σ Q :=
 wpM_of ml_58 (L := [some (.inr (.inr (11, k0, i0))), none]) rfl
 (w_aload_n (p' := 1) f_58_0 rfl rfl
 (w_getfield (p' := 4) f_58_1 rfl (x := .inr (.inr (12, k0, 0))) rfl rfl
 (w_getfield (p' := 7) f_58_4 rfl (x := .inl (σ 12 k0 0 0)) rfl rfl
 (w_if (p' := 16) (q' := 10) f_58_7 rfl rfl
 (fun c106 => w_aload_n (p' := 17) f_58_16 rfl rfl
 (w_getfield (p' := 20) f_58_17 rfl (x := .inr (.inr (12, k0, 0))) rfl rfl
 (w_callV (p' := 23) f_58_20 rfl rfl rfl rfl rfl (r := []) rfl rfl (kI (.inl rk_54) fun r101 s101 h101 =>
 w_istore_n (p' := 24) f_58_23 (L' := [some (.inr (.inr (11, k0, i0))), some (.inl r101)]) rfl rfl
 (w_iload_n (p' := 25) f_58_24 rfl rfl
 (w_iconst (p' := 26) f_58_25 rfl
 (w_icmp (p' := 35) (q' := 29) f_58_26 rfl rfl
 (fun c104 => w_aload_n (p' := 36) f_58_35 rfl rfl
 (w_getfield (p' := 39) f_58_36 rfl (x := .inr (.inr (12, k0, 0))) rfl rfl
 (w_getfield (p' := 42) f_58_39 rfl (x := .inr (.inr (13, k0, 0))) rfl rfl
 (w_iload_n (p' := 43) f_58_42 rfl rfl
 (w_aaload (p' := 44) f_58_43 rfl (n := 10) rfl (x := (14, k0, r101)) rfl (h101.1 c104).1 rfl
 (w_iconst (p' := 45) f_58_44 rfl
 (w_iconst (p' := 46) f_58_45 rfl
 (w_callV (p' := 49) f_58_46 rfl rfl rfl rfl rfl (r := []) rfl rfl (kV rk_22 fun s102 h102 =>
 w_iload_n (p' := 50) f_58_49 rfl rfl
 (w_iret f_58_50 rk_58 h102)) (h101.1 c104).2))))))))
 (fun c104 => w_aload_n (p' := 30) f_58_29 rfl rfl
 (w_iconst (p' := 31) f_58_30 rfl
 (w_callV (p' := 34) f_58_31 rfl rfl rfl rfl rfl (r := []) rfl rfl (kI (.inl rk_53) fun r103 s103 h103 =>
 w_iret f_58_34 rk_58 h103) (h101.2 c104)))))))) (h.1 c106))))
 (fun c106 => w_aload_n (p' := 11) f_58_10 rfl rfl
 (w_iconst (p' := 12) f_58_11 rfl
 (w_callV (p' := 15) f_58_12 rfl rfl rfl rfl rfl (r := []) rfl rfl (kI (.inl rk_53) fun r105 s105 h105 =>
 w_iret f_58_15 rk_58 h105) (h.2 c106))))))))
/-! ClosedRooms$Room.canBeBuilt()Z -/
theorem f_59_0 : fnd 59 0 = some (0, .aload_n 0, 1, 0, 0, 0, 0) := ceB_eq (by decide +kernel)
theorem f_59_1 : fnd 59 1 = some (1, .getfield 22, 3, 7, 3, 3, 0) := ceB_eq (by decide +kernel)
theorem f_59_4 : fnd 59 4 = some (4, .ifCond .ne 14, 3, 0, 0, 0, 0) := ceB_eq (by decide +kernel)
theorem f_59_7 : fnd 59 7 = some (7, .aload_n 0, 1, 0, 0, 0, 0) := ceB_eq (by decide +kernel)
theorem f_59_8 : fnd 59 8 = some (8, .getfield 31, 3, 7, 6, 6, 0) := ceB_eq (by decide +kernel)
theorem f_59_11 : fnd 59 11 = some (11, .ifCond .ne 7, 3, 0, 0, 0, 0) := ceB_eq (by decide +kernel)
theorem f_59_14 : fnd 59 14 = some (14, .iconst 1, 1, 0, 0, 0, 0) := ceB_eq (by decide +kernel)
theorem f_59_15 : fnd 59 15 = some (15, .goto 4, 3, 0, 0, 0, 0) := ceB_eq (by decide +kernel)
theorem f_59_18 : fnd 59 18 = some (18, .iconst 0, 1, 0, 0, 0, 0) := ceB_eq (by decide +kernel)
theorem f_59_19 : fnd 59 19 = some (19, .ireturn, 1, 0, 0, 0, 0) := ceB_eq (by decide +kernel)
theorem rk_59 : rkm 59 = 1 := by decide +kernel
theorem ml_59 : (mth 59).2.1 = 1 := by decide +kernel
set_option maxRecDepth 100000 in
theorem T_Room_canBeBuilt (k0 i0 : Int) (σ : ST) (Q : Option AV → ST → Prop) (h :
  ((((bz (σ 17 k0 i0 3)) ≠ 0 : Prop) →
    ((0 : Int) = 0 ∨ (0 : Int) = 1) ∧ Q (some (.inl 0)) σ) ∧
  (¬ ((bz (σ 17 k0 i0 3)) ≠ 0) →
    ((((bz (σ 17 k0 i0 6)) ≠ 0 : Prop) →
      ((0 : Int) = 0 ∨ (0 : Int) = 1) ∧ Q (some (.inl 0)) σ) ∧
    (¬ ((bz (σ 17 k0 i0 6)) ≠ 0) →
      ((1 : Int) = 0 ∨ (1 : Int) = 1) ∧ Q (some (.inl 1)) σ))))) :
  wpM m_Room_canBeBuilt [.inr (.inr (17, k0, i0))] σ Q :=
 wpM_of ml_59 (L := [some (.inr (.inr (17, k0, i0)))]) rfl
 (w_aload_n (p' := 1) f_59_0 rfl rfl
 (w_getfield (p' := 4) f_59_1 rfl (x := .inl (bz (σ 17 k0 i0 3))) rfl rfl
 (w_if (p' := 18) (q' := 7) f_59_4 rfl rfl
 (fun c102 => w_iconst (p' := 19) f_59_18 rfl
 (w_zret f_59_19 rk_59 (h.1 c102).1 (h.1 c102).2))
 (fun c102 => w_aload_n (p' := 8) f_59_7 rfl rfl
 (w_getfield (p' := 11) f_59_8 rfl (x := .inl (bz (σ 17 k0 i0 6))) rfl rfl
 (w_if (p' := 18) (q' := 14) f_59_11 rfl rfl
 (fun c101 => w_iconst (p' := 19) f_59_18 rfl
 (w_zret f_59_19 rk_59 ((h.2 c102).1 c101).1 ((h.2 c102).1 c101).2))
 (fun c101 => w_iconst (p' := 15) f_59_14 rfl
 (w_goto (p' := 19) f_59_15 rfl
 (w_zret f_59_19 rk_59 ((h.2 c102).2 c101).1 ((h.2 c102).2 c101).2)))))))))
/-! ClosedRooms$Room.settle(II)V -/
theorem f_60_0 : fnd 60 0 = some (0, .aload_n 0, 1, 0, 0, 0, 0) := ceB_eq (by decide +kernel)
theorem f_60_1 : fnd 60 1 = some (1, .iload_n 1, 1, 0, 0, 0, 0) := ceB_eq (by decide +kernel)
theorem f_60_2 : fnd 60 2 = some (2, .invokevirtual 47, 3, 38, 2, 7, 0) := ceB_eq (by decide +kernel)
theorem f_60_5 : fnd 60 5 = some (5, .ifCond .ne 4, 3, 0, 0, 0, 0) := ceB_eq (by decide +kernel)
theorem f_60_8 : fnd 60 8 = some (8, .return_, 1, 0, 0, 0, 0) := ceB_eq (by decide +kernel)
theorem f_60_9 : fnd 60 9 = some (9, .aload_n 0, 1, 0, 0, 0, 0) := ceB_eq (by decide +kernel)
theorem f_60_10 : fnd 60 10 = some (10, .getfield 34, 3, 7, 7, 7, 0) := ceB_eq (by decide +kernel)
theorem f_60_13 : fnd 60 13 = some (13, .iload_n 1, 1, 0, 0, 0, 0) := ceB_eq (by decide +kernel)
theorem f_60_14 : fnd 60 14 = some (14, .iconst 1, 1, 0, 0, 0, 0) := ceB_eq (by decide +kernel)
theorem f_60_15 : fnd 60 15 = some (15, .iastore, 1, 0, 0, 0, 0) := ceB_eq (by decide +kernel)
theorem f_60_16 : fnd 60 16 = some (16, .aload_n 0, 1, 0, 0, 0, 0) := ceB_eq (by decide +kernel)
theorem f_60_17 : fnd 60 17 = some (17, .getfield 38, 3, 7, 8, 8, 0) := ceB_eq (by decide +kernel)
theorem f_60_20 : fnd 60 20 = some (20, .iload_n 1, 1, 0, 0, 0, 0) := ceB_eq (by decide +kernel)
theorem f_60_21 : fnd 60 21 = some (21, .iload_n 2, 1, 0, 0, 0, 0) := ceB_eq (by decide +kernel)
theorem f_60_22 : fnd 60 22 = some (22, .iastore, 1, 0, 0, 0, 0) := ceB_eq (by decide +kernel)
theorem f_60_23 : fnd 60 23 = some (23, .return_, 1, 0, 0, 0, 0) := ceB_eq (by decide +kernel)
theorem rk_60 : rkm 60 = 4 := by decide +kernel
theorem ml_60 : (mth 60).2.1 = 3 := by decide +kernel
set_option maxRecDepth 100000 in
theorem T_Room_settle (k0 i0 x1 x2 : Int) (σ : ST) (Q : Option AV → ST → Prop) (h :
  wpM m_Room_hasAddress [.inr (.inr (17, k0, i0)), .inl x1] σ (asI fun r101 s101 =>
  (((r101 ≠ 0 : Prop) →
    ((0 : Int) ≤ x1 ∧ (x1 : Int) < 8) ∧
    ((0 : Int) ≤ x1 ∧ (x1 : Int) < 8) ∧
    Q none (up (up s101 18 k0 i0 x1 1) 19 k0 i0 x1 x2)) ∧
  (¬ (r101 ≠ 0) →
    Q none s101)))) :
  wpM m_Room_settle [.inr (.inr (17, k0, i0)), .inl x1, .inl x2] σ Q :=
 wpM_of ml_60 (L := [some (.inr (.inr (17, k0, i0))), some (.inl x1), some (.inl x2)]) rfl
 (w_aload_n (p' := 1) f_60_0 rfl rfl
 (w_iload_n (p' := 2) f_60_1 rfl rfl
 (w_callV (p' := 5) f_60_2 rfl rfl rfl rfl rfl (r := []) rfl rfl (kI (.inr rk_38) fun r101 s101 h101 =>
 w_if (p' := 9) (q' := 8) f_60_5 rfl rfl
 (fun c102 => w_aload_n (p' := 10) f_60_9 rfl rfl
 (w_getfield (p' := 13) f_60_10 rfl (x := .inr (.inr (18, k0, i0))) rfl rfl
 (w_iload_n (p' := 14) f_60_13 rfl rfl
 (w_iconst (p' := 15) f_60_14 rfl
 (w_iastore (p' := 16) f_60_15 rfl (n := 8) rfl (h101.1 c102).1 rfl
 (w_aload_n (p' := 17) f_60_16 rfl rfl
 (w_getfield (p' := 20) f_60_17 rfl (x := .inr (.inr (19, k0, i0))) rfl rfl
 (w_iload_n (p' := 21) f_60_20 rfl rfl
 (w_iload_n (p' := 22) f_60_21 rfl rfl
 (w_iastore (p' := 23) f_60_22 rfl (n := 8) rfl (h101.1 c102).2.1 rfl
 (w_vret f_60_23 rk_60 (h101.1 c102).2.2)))))))))))
 (fun c102 => w_vret f_60_8 rk_60 (h101.2 c102))) h)))
/-! ClosedRooms.measureWithAdd(IIII)I -/
theorem f_61_0 : fnd 61 0 = some (0, .bipush 31, 2, 0, 0, 0, 0) := ceB_eq (by decide +kernel)
theorem f_61_2 : fnd 61 2 = some (2, .iload_n 0, 1, 0, 0, 0, 0) := ceB_eq (by decide +kernel)
theorem f_61_3 : fnd 61 3 = some (3, .imul, 1, 0, 0, 0, 0) := ceB_eq (by decide +kernel)
theorem f_61_4 : fnd 61 4 = some (4, .bipush 64, 2, 0, 0, 0, 0) := ceB_eq (by decide +kernel)
theorem f_61_6 : fnd 61 6 = some (6, .iload_n 1, 1, 0, 0, 0, 0) := ceB_eq (by decide +kernel)
theorem f_61_7 : fnd 61 7 = some (7, .imul, 1, 0, 0, 0, 0) := ceB_eq (by decide +kernel)
theorem f_61_8 : fnd 61 8 = some (8, .iadd, 1, 0, 0, 0, 0) := ceB_eq (by decide +kernel)
theorem f_61_9 : fnd 61 9 = some (9, .bipush 8, 2, 0, 0, 0, 0) := ceB_eq (by decide +kernel)
theorem f_61_11 : fnd 61 11 = some (11, .iload_n 2, 1, 0, 0, 0, 0) := ceB_eq (by decide +kernel)
theorem f_61_12 : fnd 61 12 = some (12, .imul, 1, 0, 0, 0, 0) := ceB_eq (by decide +kernel)
theorem f_61_13 : fnd 61 13 = some (13, .iadd, 1, 0, 0, 0, 0) := ceB_eq (by decide +kernel)
theorem f_61_14 : fnd 61 14 = some (14, .iload_n 3, 1, 0, 0, 0, 0) := ceB_eq (by decide +kernel)
theorem f_61_15 : fnd 61 15 = some (15, .iadd, 1, 0, 0, 0, 0) := ceB_eq (by decide +kernel)
theorem f_61_16 : fnd 61 16 = some (16, .ireturn, 1, 0, 0, 0, 0) := ceB_eq (by decide +kernel)
theorem rk_61 : rkm 61 = 0 := by decide +kernel
theorem ml_61 : (mth 61).2.1 = 4 := by decide +kernel
set_option maxRecDepth 100000 in
theorem T_X_measureWithAdd (x1 x2 x3 x4 : Int) (σ : ST) (Q : Option AV → ST → Prop) (h :
  Q (some (.inl (wr ((wr ((wr ((wr (31 * x1)) + (wr (64 * x2)))) + (wr (8 * x3)))) + x4)))) σ) :
  wpM m_X_measureWithAdd [.inl x1, .inl x2, .inl x3, .inl x4] σ Q :=
 wpM_of ml_61 (L := [some (.inl x1), some (.inl x2), some (.inl x3), some (.inl x4)]) rfl
 (w_bipush (p' := 2) f_61_0 rfl
 (w_iload_n (p' := 3) f_61_2 rfl rfl
 (w_imul (p' := 4) f_61_3 rfl
 (w_bipush (p' := 6) f_61_4 rfl
 (w_iload_n (p' := 7) f_61_6 rfl rfl
 (w_imul (p' := 8) f_61_7 rfl
 (w_iadd (p' := 9) f_61_8 rfl
 (w_bipush (p' := 11) f_61_9 rfl
 (w_iload_n (p' := 12) f_61_11 rfl rfl
 (w_imul (p' := 13) f_61_12 rfl
 (w_iadd (p' := 14) f_61_13 rfl
 (w_iload_n (p' := 15) f_61_14 rfl rfl
 (w_iadd (p' := 16) f_61_15 rfl
 (w_iret f_61_16 rk_61 h))))))))))))))
/-! ClosedRooms$Acts.addPage(IIIII)I -/
theorem f_62_0 : fnd 62 0 = some (0, .aload_n 0, 1, 0, 0, 0, 0) := ceB_eq (by decide +kernel)
theorem f_62_1 : fnd 62 1 = some (1, .getfield 12, 3, 3, 0, 0, 0) := ceB_eq (by decide +kernel)
theorem f_62_4 : fnd 62 4 = some (4, .iload_n 1, 1, 0, 0, 0, 0) := ceB_eq (by decide +kernel)
theorem f_62_5 : fnd 62 5 = some (5, .invokevirtual 129, 3, 37, 2, 4, 0) := ceB_eq (by decide +kernel)
theorem f_62_8 : fnd 62 8 = some (8, .ifCond .ne 9, 3, 0, 0, 0, 0) := ceB_eq (by decide +kernel)
theorem f_62_11 : fnd 62 11 = some (11, .aload_n 0, 1, 0, 0, 0, 0) := ceB_eq (by decide +kernel)
theorem f_62_12 : fnd 62 12 = some (12, .iconst 0, 1, 0, 0, 0, 0) := ceB_eq (by decide +kernel)
theorem f_62_13 : fnd 62 13 = some (13, .invokevirtual 85, 3, 53, 2, 3, 0) := ceB_eq (by decide +kernel)
theorem f_62_16 : fnd 62 16 = some (16, .ireturn, 1, 0, 0, 0, 0) := ceB_eq (by decide +kernel)
theorem f_62_17 : fnd 62 17 = some (17, .aload_n 0, 1, 0, 0, 0, 0) := ceB_eq (by decide +kernel)
theorem f_62_18 : fnd 62 18 = some (18, .getfield 12, 3, 3, 0, 0, 0) := ceB_eq (by decide +kernel)
theorem f_62_21 : fnd 62 21 = some (21, .getfield 112, 3, 4, 6, 6, 0) := ceB_eq (by decide +kernel)
theorem f_62_24 : fnd 62 24 = some (24, .iload_n 1, 1, 0, 0, 0, 0) := ceB_eq (by decide +kernel)
theorem f_62_25 : fnd 62 25 = some (25, .aaload, 1, 0, 0, 0, 0) := ceB_eq (by decide +kernel)
theorem f_62_26 : fnd 62 26 = some (26, .astore 6, 2, 0, 0, 0, 0) := ceB_eq (by decide +kernel)
theorem f_62_28 : fnd 62 28 = some (28, .aload 6, 2, 0, 0, 0, 0) := ceB_eq (by decide +kernel)
theorem f_62_30 : fnd 62 30 = some (30, .iload_n 2, 1, 0, 0, 0, 0) := ceB_eq (by decide +kernel)
theorem f_62_31 : fnd 62 31 = some (31, .invokevirtual 133, 3, 38, 2, 7, 0) := ceB_eq (by decide +kernel)
theorem f_62_34 : fnd 62 34 = some (34, .ifCond .eq 12, 3, 0, 0, 0, 0) := ceB_eq (by decide +kernel)
theorem f_62_37 : fnd 62 37 = some (37, .iload_n 3, 1, 0, 0, 0, 0) := ceB_eq (by decide +kernel)
theorem f_62_38 : fnd 62 38 = some (38, .ifCond .lt 8, 3, 0, 0, 0, 0) := ceB_eq (by decide +kernel)
theorem f_62_41 : fnd 62 41 = some (41, .iload_n 3, 1, 0, 0, 0, 0) := ceB_eq (by decide +kernel)
theorem f_62_42 : fnd 62 42 = some (42, .iconst 1, 1, 0, 0, 0, 0) := ceB_eq (by decide +kernel)
theorem f_62_43 : fnd 62 43 = some (43, .if_icmp .le 9, 3, 0, 0, 0, 0) := ceB_eq (by decide +kernel)
theorem f_62_46 : fnd 62 46 = some (46, .aload_n 0, 1, 0, 0, 0, 0) := ceB_eq (by decide +kernel)
theorem f_62_47 : fnd 62 47 = some (47, .iconst 1, 1, 0, 0, 0, 0) := ceB_eq (by decide +kernel)
theorem f_62_48 : fnd 62 48 = some (48, .invokevirtual 85, 3, 53, 2, 3, 0) := ceB_eq (by decide +kernel)
theorem f_62_51 : fnd 62 51 = some (51, .ireturn, 1, 0, 0, 0, 0) := ceB_eq (by decide +kernel)
theorem f_62_52 : fnd 62 52 = some (52, .iload 4, 2, 0, 0, 0, 0) := ceB_eq (by decide +kernel)
theorem f_62_54 : fnd 62 54 = some (54, .iconst 1, 1, 0, 0, 0, 0) := ceB_eq (by decide +kernel)
theorem f_62_55 : fnd 62 55 = some (55, .if_icmp .lt 23, 3, 0, 0, 0, 0) := ceB_eq (by decide +kernel)
theorem f_62_58 : fnd 62 58 = some (58, .iload 4, 2, 0, 0, 0, 0) := ceB_eq (by decide +kernel)
theorem f_62_60 : fnd 62 60 = some (60, .bipush 7, 2, 0, 0, 0, 0) := ceB_eq (by decide +kernel)
theorem f_62_62 : fnd 62 62 = some (62, .if_icmp .gt 16, 3, 0, 0, 0, 0) := ceB_eq (by decide +kernel)
theorem f_62_65 : fnd 62 65 = some (65, .iload 5, 2, 0, 0, 0, 0) := ceB_eq (by decide +kernel)
theorem f_62_67 : fnd 62 67 = some (67, .ifCond .lt 11, 3, 0, 0, 0, 0) := ceB_eq (by decide +kernel)
theorem f_62_70 : fnd 62 70 = some (70, .iload 5, 2, 0, 0, 0, 0) := ceB_eq (by decide +kernel)
theorem f_62_72 : fnd 62 72 = some (72, .sipush 999, 3, 0, 0, 0, 0) := ceB_eq (by decide +kernel)
theorem f_62_75 : fnd 62 75 = some (75, .if_icmp .le 9, 3, 0, 0, 0, 0) := ceB_eq (by decide +kernel)
theorem f_62_78 : fnd 62 78 = some (78, .aload_n 0, 1, 0, 0, 0, 0) := ceB_eq (by decide +kernel)
theorem f_62_79 : fnd 62 79 = some (79, .iconst 1, 1, 0, 0, 0, 0) := ceB_eq (by decide +kernel)
theorem f_62_80 : fnd 62 80 = some (80, .invokevirtual 85, 3, 53, 2, 3, 0) := ceB_eq (by decide +kernel)
theorem f_62_83 : fnd 62 83 = some (83, .ireturn, 1, 0, 0, 0, 0) := ceB_eq (by decide +kernel)
theorem f_62_84 : fnd 62 84 = some (84, .aload 6, 2, 0, 0, 0, 0) := ceB_eq (by decide +kernel)
theorem f_62_86 : fnd 62 86 = some (86, .invokevirtual 136, 3, 59, 1, 7, 0) := ceB_eq (by decide +kernel)
theorem f_62_89 : fnd 62 89 = some (89, .ifCond .eq 13, 3, 0, 0, 0, 0) := ceB_eq (by decide +kernel)
theorem f_62_92 : fnd 62 92 = some (92, .aload 6, 2, 0, 0, 0, 0) := ceB_eq (by decide +kernel)
theorem f_62_94 : fnd 62 94 = some (94, .getfield 140, 3, 7, 7, 7, 0) := ceB_eq (by decide +kernel)
theorem f_62_97 : fnd 62 97 = some (97, .iload_n 2, 1, 0, 0, 0, 0) := ceB_eq (by decide +kernel)
theorem f_62_98 : fnd 62 98 = some (98, .iaload, 1, 0, 0, 0, 0) := ceB_eq (by decide +kernel)
theorem f_62_99 : fnd 62 99 = some (99, .ifCond .eq 9, 3, 0, 0, 0, 0) := ceB_eq (by decide +kernel)
theorem f_62_102 : fnd 62 102 = some (102, .aload_n 0, 1, 0, 0, 0, 0) := ceB_eq (by decide +kernel)
theorem f_62_103 : fnd 62 103 = some (103, .iconst 2, 1, 0, 0, 0, 0) := ceB_eq (by decide +kernel)
theorem f_62_104 : fnd 62 104 = some (104, .invokevirtual 85, 3, 53, 2, 3, 0) := ceB_eq (by decide +kernel)
theorem f_62_107 : fnd 62 107 = some (107, .ireturn, 1, 0, 0, 0, 0) := ceB_eq (by decide +kernel)
theorem f_62_108 : fnd 62 108 = some (108, .aload_n 0, 1, 0, 0, 0, 0) := ceB_eq (by decide +kernel)
theorem f_62_109 : fnd 62 109 = some (109, .getfield 12, 3, 3, 0, 0, 0) := ceB_eq (by decide +kernel)
theorem f_62_112 : fnd 62 112 = some (112, .invokevirtual 103, 3, 54, 1, 4, 0) := ceB_eq (by decide +kernel)
theorem f_62_115 : fnd 62 115 = some (115, .istore 7, 2, 0, 0, 0, 0) := ceB_eq (by decide +kernel)
theorem f_62_117 : fnd 62 117 = some (117, .iload 7, 2, 0, 0, 0, 0) := ceB_eq (by decide +kernel)
theorem f_62_119 : fnd 62 119 = some (119, .iconst (-1), 1, 0, 0, 0, 0) := ceB_eq (by decide +kernel)
theorem f_62_120 : fnd 62 120 = some (120, .if_icmp .ne 9, 3, 0, 0, 0, 0) := ceB_eq (by decide +kernel)
theorem f_62_123 : fnd 62 123 = some (123, .aload_n 0, 1, 0, 0, 0, 0) := ceB_eq (by decide +kernel)
theorem f_62_124 : fnd 62 124 = some (124, .iconst 3, 1, 0, 0, 0, 0) := ceB_eq (by decide +kernel)
theorem f_62_125 : fnd 62 125 = some (125, .invokevirtual 85, 3, 53, 2, 3, 0) := ceB_eq (by decide +kernel)
theorem f_62_128 : fnd 62 128 = some (128, .ireturn, 1, 0, 0, 0, 0) := ceB_eq (by decide +kernel)
theorem f_62_129 : fnd 62 129 = some (129, .aload_n 0, 1, 0, 0, 0, 0) := ceB_eq (by decide +kernel)
theorem f_62_130 : fnd 62 130 = some (130, .getfield 12, 3, 3, 0, 0, 0) := ceB_eq (by decide +kernel)
theorem f_62_133 : fnd 62 133 = some (133, .getfield 122, 3, 4, 5, 5, 0) := ceB_eq (by decide +kernel)
theorem f_62_136 : fnd 62 136 = some (136, .iload 7, 2, 0, 0, 0, 0) := ceB_eq (by decide +kernel)
theorem f_62_138 : fnd 62 138 = some (138, .aaload, 1, 0, 0, 0, 0) := ceB_eq (by decide +kernel)
theorem f_62_139 : fnd 62 139 = some (139, .astore 8, 2, 0, 0, 0, 0) := ceB_eq (by decide +kernel)
theorem f_62_141 : fnd 62 141 = some (141, .aload 8, 2, 0, 0, 0, 0) := ceB_eq (by decide +kernel)
theorem f_62_143 : fnd 62 143 = some (143, .iload_n 3, 1, 0, 0, 0, 0) := ceB_eq (by decide +kernel)
theorem f_62_144 : fnd 62 144 = some (144, .ifCond .ne 7, 3, 0, 0, 0, 0) := ceB_eq (by decide +kernel)
theorem f_62_147 : fnd 62 147 = some (147, .iconst 2, 1, 0, 0, 0, 0) := ceB_eq (by decide +kernel)
theorem f_62_148 : fnd 62 148 = some (148, .goto 4, 3, 0, 0, 0, 0) := ceB_eq (by decide +kernel)
theorem f_62_151 : fnd 62 151 = some (151, .iconst 3, 1, 0, 0, 0, 0) := ceB_eq (by decide +kernel)
theorem f_62_152 : fnd 62 152 = some (152, .iload_n 1, 1, 0, 0, 0, 0) := ceB_eq (by decide +kernel)
theorem f_62_153 : fnd 62 153 = some (153, .invokevirtual 126, 3, 22, 3, 6, 0) := ceB_eq (by decide +kernel)
theorem f_62_156 : fnd 62 156 = some (156, .aload 8, 2, 0, 0, 0, 0) := ceB_eq (by decide +kernel)
theorem f_62_158 : fnd 62 158 = some (158, .iload_n 2, 1, 0, 0, 0, 0) := ceB_eq (by decide +kernel)
theorem f_62_159 : fnd 62 159 = some (159, .putfield 144, 3, 6, 2, 2, 0) := ceB_eq (by decide +kernel)
theorem f_62_162 : fnd 62 162 = some (162, .aload 8, 2, 0, 0, 0, 0) := ceB_eq (by decide +kernel)
theorem f_62_164 : fnd 62 164 = some (164, .iload 4, 2, 0, 0, 0, 0) := ceB_eq (by decide +kernel)
theorem f_62_166 : fnd 62 166 = some (166, .putfield 147, 3, 6, 3, 3, 0) := ceB_eq (by decide +kernel)
theorem f_62_169 : fnd 62 169 = some (169, .aload 8, 2, 0, 0, 0, 0) := ceB_eq (by decide +kernel)
theorem f_62_171 : fnd 62 171 = some (171, .iload 5, 2, 0, 0, 0, 0) := ceB_eq (by decide +kernel)
theorem f_62_173 : fnd 62 173 = some (173, .putfield 150, 3, 6, 4, 4, 0) := ceB_eq (by decide +kernel)
theorem f_62_176 : fnd 62 176 = some (176, .aload 6, 2, 0, 0, 0, 0) := ceB_eq (by decide +kernel)
theorem f_62_178 : fnd 62 178 = some (178, .iload_n 2, 1, 0, 0, 0, 0) := ceB_eq (by decide +kernel)
theorem f_62_179 : fnd 62 179 = some (179, .iload 7, 2, 0, 0, 0, 0) := ceB_eq (by decide +kernel)
theorem f_62_181 : fnd 62 181 = some (181, .invokevirtual 153, 3, 60, 3, 7, 0) := ceB_eq (by decide +kernel)
theorem f_62_184 : fnd 62 184 = some (184, .aload 6, 2, 0, 0, 0, 0) := ceB_eq (by decide +kernel)
theorem f_62_186 : fnd 62 186 = some (186, .aload 6, 2, 0, 0, 0, 0) := ceB_eq (by decide +kernel)
theorem f_62_188 : fnd 62 188 = some (188, .getfield 156, 3, 7, 4, 4, 0) := ceB_eq (by decide +kernel)
theorem f_62_191 : fnd 62 191 = some (191, .iload_n 2, 1, 0, 0, 0, 0) := ceB_eq (by decide +kernel)
theorem f_62_192 : fnd 62 192 = some (192, .iload_n 3, 1, 0, 0, 0, 0) := ceB_eq (by decide +kernel)
theorem f_62_193 : fnd 62 193 = some (193, .iload 4, 2, 0, 0, 0, 0) := ceB_eq (by decide +kernel)
theorem f_62_195 : fnd 62 195 = some (195, .invokestatic 159, 3, 61, 4, 0, 0) := ceB_eq (by decide +kernel)
theorem f_62_198 : fnd 62 198 = some (198, .putfield 156, 3, 7, 4, 4, 0) := ceB_eq (by decide +kernel)
theorem f_62_201 : fnd 62 201 = some (201, .iload 7, 2, 0, 0, 0, 0) := ceB_eq (by decide +kernel)
theorem f_62_203 : fnd 62 203 = some (203, .ireturn, 1, 0, 0, 0, 0) := ceB_eq (by decide +kernel)
theorem rk_62 : rkm 62 = 0 := by decide +kernel
theorem ml_62 : (mth 62).2.1 = 9 := by decide +kernel
set_option maxRecDepth 100000 in
theorem T_Acts_addPage (k0 i0 x1 x2 x3 x4 x5 : Int) (σ : ST) (Q : Option AV → ST → Prop) (h :
  wpM m_World_isRoom [.inr (.inr (12, k0, 0)), .inl x1] σ (asI fun r101 s101 =>
  (((r101 ≠ 0 : Prop) →
    ((0 : Int) ≤ x1 ∧ (x1 : Int) < 4) ∧
    wpM m_Room_hasAddress [.inr (.inr (17, k0, x1)), .inl x2] s101 (asI fun r102 s102 =>
    (((r102 = 0 : Prop) →
      wpM m_Acts_refuse [.inr (.inr (11, k0, i0)), .inl 1] s102 (asI fun r103 s103 =>
      Q (some (.inl r103)) s103)) ∧
    (¬ (r102 = 0) →
      (((x3 < 0 : Prop) →
        wpM m_Acts_refuse [.inr (.inr (11, k0, i0)), .inl 1] s102 (asI fun r104 s104 =>
        Q (some (.inl r104)) s104)) ∧
      (¬ (x3 < 0) →
        (((x3 ≤ 1 : Prop) →
          (((x4 < 1 : Prop) →
            wpM m_Acts_refuse [.inr (.inr (11, k0, i0)), .inl 1] s102 (asI fun r105 s105 =>
            Q (some (.inl r105)) s105)) ∧
          (¬ (x4 < 1) →
            (((7 < x4 : Prop) →
              wpM m_Acts_refuse [.inr (.inr (11, k0, i0)), .inl 1] s102 (asI fun r106 s106 =>
              Q (some (.inl r106)) s106)) ∧
            (¬ (7 < x4) →
              (((x5 < 0 : Prop) →
                wpM m_Acts_refuse [.inr (.inr (11, k0, i0)), .inl 1] s102 (asI fun r107 s107 =>
                Q (some (.inl r107)) s107)) ∧
              (¬ (x5 < 0) →
                (((x5 ≤ 999 : Prop) →
                  wpM m_Room_canBeBuilt [.inr (.inr (17, k0, x1))] s102 (asI fun r108 s108 =>
                  (((r108 = 0 : Prop) →
                    wpM m_Acts_refuse [.inr (.inr (11, k0, i0)), .inl 2] s108 (asI fun r109 s109 =>
                    Q (some (.inl r109)) s109)) ∧
                  (¬ (r108 = 0) →
                    ((0 : Int) ≤ x2 ∧ (x2 : Int) < 8) ∧
                    ((((s108 18 k0 x1 x2) = 0 : Prop) →
                      wpM m_World_lowestFreePage [.inr (.inr (12, k0, 0))] s108 (asI fun r110 s110 =>
                      (((r110 ≠ (-1) : Prop) →
                        ((0 : Int) ≤ r110 ∧ (r110 : Int) < 10) ∧
                        (((x3 ≠ 0 : Prop) →
                          wp m_Acts_addPage (152, [some (.inr (.inr (11, k0, i0))), some (.inl x1), some (.inl x2), some (.inl x3), some (.inl x4), some (.inl x5), some (.inr (.inr (17, k0, x1))), some (.inl r110), some (.inr (.inr (14, k0, r110)))], [.inl 3, .inr (.inr (14, k0, r110))], s110) Q) ∧
                        (¬ (x3 ≠ 0) →
                          wp m_Acts_addPage (152, [some (.inr (.inr (11, k0, i0))), some (.inl x1), some (.inl x2), some (.inl x3), some (.inl x4), some (.inl x5), some (.inr (.inr (17, k0, x1))), some (.inl r110), some (.inr (.inr (14, k0, r110)))], [.inl 2, .inr (.inr (14, k0, r110))], s110) Q))) ∧
                      (¬ (r110 ≠ (-1)) →
                        wpM m_Acts_refuse [.inr (.inr (11, k0, i0)), .inl 3] s110 (asI fun r112 s112 =>
                        Q (some (.inl r112)) s112))))) ∧
                    (¬ ((s108 18 k0 x1 x2) = 0) →
                      wpM m_Acts_refuse [.inr (.inr (11, k0, i0)), .inl 2] s108 (asI fun r114 s114 =>
                      Q (some (.inl r114)) s114))))))) ∧
                (¬ (x5 ≤ 999) →
                  wpM m_Acts_refuse [.inr (.inr (11, k0, i0)), .inl 1] s102 (asI fun r117 s117 =>
                  Q (some (.inl r117)) s117)))))))))) ∧
        (¬ (x3 ≤ 1) →
          wpM m_Acts_refuse [.inr (.inr (11, k0, i0)), .inl 1] s102 (asI fun r122 s122 =>
          Q (some (.inl r122)) s122))))))))) ∧
  (¬ (r101 ≠ 0) →
    wpM m_Acts_refuse [.inr (.inr (11, k0, i0)), .inl 0] s101 (asI fun r126 s126 =>
    Q (some (.inl r126)) s126))))) :
  wpM m_Acts_addPage [.inr (.inr (11, k0, i0)), .inl x1, .inl x2, .inl x3, .inl x4, .inl x5] σ Q :=
 wpM_of ml_62 (L := [some (.inr (.inr (11, k0, i0))), some (.inl x1), some (.inl x2), some (.inl x3), some (.inl x4), some (.inl x5), none, none, none]) rfl
 (w_aload_n (p' := 1) f_62_0 rfl rfl
 (w_getfield (p' := 4) f_62_1 rfl (x := .inr (.inr (12, k0, 0))) rfl rfl
 (w_iload_n (p' := 5) f_62_4 rfl rfl
 (w_callV (p' := 8) f_62_5 rfl rfl rfl rfl rfl (r := []) rfl rfl (kI (.inr rk_37) fun r101 s101 h101 =>
 w_if (p' := 17) (q' := 11) f_62_8 rfl rfl
 (fun c127 => w_aload_n (p' := 18) f_62_17 rfl rfl
 (w_getfield (p' := 21) f_62_18 rfl (x := .inr (.inr (12, k0, 0))) rfl rfl
 (w_getfield (p' := 24) f_62_21 rfl (x := .inr (.inr (16, k0, 0))) rfl rfl
 (w_iload_n (p' := 25) f_62_24 rfl rfl
 (w_aaload (p' := 26) f_62_25 rfl (n := 4) rfl (x := (17, k0, x1)) rfl (h101.1 c127).1 rfl
 (w_astore (p' := 28) f_62_26 (L' := [some (.inr (.inr (11, k0, i0))), some (.inl x1), some (.inl x2), some (.inl x3), some (.inl x4), some (.inl x5), some (.inr (.inr (17, k0, x1))), none, none]) rfl rfl
 (w_aload (p' := 30) f_62_28 rfl rfl
 (w_iload_n (p' := 31) f_62_30 rfl rfl
 (w_callV (p' := 34) f_62_31 rfl rfl rfl rfl rfl (r := []) rfl rfl (kI (.inr rk_38) fun r102 s102 h102 =>
 w_if (p' := 46) (q' := 37) f_62_34 rfl rfl
 (fun c125 => w_aload_n (p' := 47) f_62_46 rfl rfl
 (w_iconst (p' := 48) f_62_47 rfl
 (w_callV (p' := 51) f_62_48 rfl rfl rfl rfl rfl (r := []) rfl rfl (kI (.inl rk_53) fun r103 s103 h103 =>
 w_iret f_62_51 rk_62 h103) (h102.1 c125))))
 (fun c125 => w_iload_n (p' := 38) f_62_37 rfl rfl
 (w_if (p' := 46) (q' := 41) f_62_38 rfl rfl
 (fun c124 => w_aload_n (p' := 47) f_62_46 rfl rfl
 (w_iconst (p' := 48) f_62_47 rfl
 (w_callV (p' := 51) f_62_48 rfl rfl rfl rfl rfl (r := []) rfl rfl (kI (.inl rk_53) fun r104 s104 h104 =>
 w_iret f_62_51 rk_62 h104) ((h102.2 c125).1 c124))))
 (fun c124 => w_iload_n (p' := 42) f_62_41 rfl rfl
 (w_iconst (p' := 43) f_62_42 rfl
 (w_icmp (p' := 52) (q' := 46) f_62_43 rfl rfl
 (fun c123 => w_iload (p' := 54) f_62_52 rfl rfl
 (w_iconst (p' := 55) f_62_54 rfl
 (w_icmp (p' := 78) (q' := 58) f_62_55 rfl rfl
 (fun c121 => w_aload_n (p' := 79) f_62_78 rfl rfl
 (w_iconst (p' := 80) f_62_79 rfl
 (w_callV (p' := 83) f_62_80 rfl rfl rfl rfl rfl (r := []) rfl rfl (kI (.inl rk_53) fun r105 s105 h105 =>
 w_iret f_62_83 rk_62 h105) ((((h102.2 c125).2 c124).1 c123).1 c121))))
 (fun c121 => w_iload (p' := 60) f_62_58 rfl rfl
 (w_bipush (p' := 62) f_62_60 rfl
 (w_icmp (p' := 78) (q' := 65) f_62_62 rfl rfl
 (fun c120 => w_aload_n (p' := 79) f_62_78 rfl rfl
 (w_iconst (p' := 80) f_62_79 rfl
 (w_callV (p' := 83) f_62_80 rfl rfl rfl rfl rfl (r := []) rfl rfl (kI (.inl rk_53) fun r106 s106 h106 =>
 w_iret f_62_83 rk_62 h106) (((((h102.2 c125).2 c124).1 c123).2 c121).1 c120))))
 (fun c120 => w_iload (p' := 67) f_62_65 rfl rfl
 (w_if (p' := 78) (q' := 70) f_62_67 rfl rfl
 (fun c119 => w_aload_n (p' := 79) f_62_78 rfl rfl
 (w_iconst (p' := 80) f_62_79 rfl
 (w_callV (p' := 83) f_62_80 rfl rfl rfl rfl rfl (r := []) rfl rfl (kI (.inl rk_53) fun r107 s107 h107 =>
 w_iret f_62_83 rk_62 h107) ((((((h102.2 c125).2 c124).1 c123).2 c121).2 c120).1 c119))))
 (fun c119 => w_iload (p' := 72) f_62_70 rfl rfl
 (w_sipush (p' := 75) f_62_72 rfl
 (w_icmp (p' := 84) (q' := 78) f_62_75 rfl rfl
 (fun c118 => w_aload (p' := 86) f_62_84 rfl rfl
 (w_callV (p' := 89) f_62_86 rfl rfl rfl rfl rfl (r := []) rfl rfl (kI (.inr rk_59) fun r108 s108 h108 =>
 w_if (p' := 102) (q' := 92) f_62_89 rfl rfl
 (fun c116 => w_aload_n (p' := 103) f_62_102 rfl rfl
 (w_iconst (p' := 104) f_62_103 rfl
 (w_callV (p' := 107) f_62_104 rfl rfl rfl rfl rfl (r := []) rfl rfl (kI (.inl rk_53) fun r109 s109 h109 =>
 w_iret f_62_107 rk_62 h109) (h108.1 c116))))
 (fun c116 => w_aload (p' := 94) f_62_92 rfl rfl
 (w_getfield (p' := 97) f_62_94 rfl (x := .inr (.inr (18, k0, x1))) rfl rfl
 (w_iload_n (p' := 98) f_62_97 rfl rfl
 (w_iaload (p' := 99) f_62_98 rfl (n := 8) rfl (h108.2 c116).1 rfl
 (w_if (p' := 108) (q' := 102) f_62_99 rfl rfl
 (fun c115 => w_aload_n (p' := 109) f_62_108 rfl rfl
 (w_getfield (p' := 112) f_62_109 rfl (x := .inr (.inr (12, k0, 0))) rfl rfl
 (w_callV (p' := 115) f_62_112 rfl rfl rfl rfl rfl (r := []) rfl rfl (kI (.inl rk_54) fun r110 s110 h110 =>
 w_istore (p' := 117) f_62_115 (L' := [some (.inr (.inr (11, k0, i0))), some (.inl x1), some (.inl x2), some (.inl x3), some (.inl x4), some (.inl x5), some (.inr (.inr (17, k0, x1))), some (.inl r110), none]) rfl rfl
 (w_iload (p' := 119) f_62_117 rfl rfl
 (w_iconst (p' := 120) f_62_119 rfl
 (w_icmp (p' := 129) (q' := 123) f_62_120 rfl rfl
 (fun c113 => w_aload_n (p' := 130) f_62_129 rfl rfl
 (w_getfield (p' := 133) f_62_130 rfl (x := .inr (.inr (12, k0, 0))) rfl rfl
 (w_getfield (p' := 136) f_62_133 rfl (x := .inr (.inr (13, k0, 0))) rfl rfl
 (w_iload (p' := 138) f_62_136 rfl rfl
 (w_aaload (p' := 139) f_62_138 rfl (n := 10) rfl (x := (14, k0, r110)) rfl (h110.1 c113).1 rfl
 (w_astore (p' := 141) f_62_139 (L' := [some (.inr (.inr (11, k0, i0))), some (.inl x1), some (.inl x2), some (.inl x3), some (.inl x4), some (.inl x5), some (.inr (.inr (17, k0, x1))), some (.inl r110), some (.inr (.inr (14, k0, r110)))]) rfl rfl
 (w_aload (p' := 143) f_62_141 rfl rfl
 (w_iload_n (p' := 144) f_62_143 rfl rfl
 (w_if (p' := 151) (q' := 147) f_62_144 rfl rfl
 (fun c111 => w_iconst (p' := 152) f_62_151 rfl
 (((h110.1 c113).2.1 c111)))
 (fun c111 => w_iconst (p' := 148) f_62_147 rfl
 (w_goto (p' := 152) f_62_148 rfl
 (((h110.1 c113).2.2 c111)))))))))))))
 (fun c113 => w_aload_n (p' := 124) f_62_123 rfl rfl
 (w_iconst (p' := 125) f_62_124 rfl
 (w_callV (p' := 128) f_62_125 rfl rfl rfl rfl rfl (r := []) rfl rfl (kI (.inl rk_53) fun r112 s112 h112 =>
 w_iret f_62_128 rk_62 h112) (h110.2 c113)))))))) ((h108.2 c116).2.1 c115))))
 (fun c115 => w_aload_n (p' := 103) f_62_102 rfl rfl
 (w_iconst (p' := 104) f_62_103 rfl
 (w_callV (p' := 107) f_62_104 rfl rfl rfl rfl rfl (r := []) rfl rfl (kI (.inl rk_53) fun r114 s114 h114 =>
 w_iret f_62_107 rk_62 h114) ((h108.2 c116).2.2 c115)))))))))) (((((((h102.2 c125).2 c124).1 c123).2 c121).2 c120).2 c119).1 c118)))
 (fun c118 => w_aload_n (p' := 79) f_62_78 rfl rfl
 (w_iconst (p' := 80) f_62_79 rfl
 (w_callV (p' := 83) f_62_80 rfl rfl rfl rfl rfl (r := []) rfl rfl (kI (.inl rk_53) fun r117 s117 h117 =>
 w_iret f_62_83 rk_62 h117) (((((((h102.2 c125).2 c124).1 c123).2 c121).2 c120).2 c119).2 c118)))))))))))))))
 (fun c123 => w_aload_n (p' := 47) f_62_46 rfl rfl
 (w_iconst (p' := 48) f_62_47 rfl
 (w_callV (p' := 51) f_62_48 rfl rfl rfl rfl rfl (r := []) rfl rfl (kI (.inl rk_53) fun r122 s122 h122 =>
 w_iret f_62_51 rk_62 h122) (((h102.2 c125).2 c124).2 c123)))))))))) (h101.1 c127).2)))))))))
 (fun c127 => w_aload_n (p' := 12) f_62_11 rfl rfl
 (w_iconst (p' := 13) f_62_12 rfl
 (w_callV (p' := 16) f_62_13 rfl rfl rfl rfl rfl (r := []) rfl rfl (kI (.inl rk_53) fun r126 s126 h126 =>
 w_iret f_62_16 rk_62 h126) (h101.2 c127))))) h))))
set_option maxRecDepth 100000 in
theorem T_Acts_addPage_152 (x1 x2 x3 x4 x5 k6 i6 x7 k8 i8 t0 kt1 it1 : Int) (o0 : Option AV) (σ : ST) (Q : Option AV → ST → Prop) (h :
  wpM m_Page_begin [.inr (.inr (14, kt1, it1)), .inl t0, .inl x1] σ (asV fun s101 =>
  wpM m_Room_settle [.inr (.inr (17, k6, i6)), .inl x2, .inl x7] (up (up (up s101 14 k8 i8 2 x2) 14 k8 i8 3 x4) 14 k8 i8 4 x5) (asV fun s102 =>
  wpM m_X_measureWithAdd [.inl (s102 17 k6 i6 4), .inl x2, .inl x3, .inl x4] s102 (asI fun r103 s103 =>
  Q (some (.inl x7)) (up s103 17 k6 i6 4 r103))))) :
  wp m_Acts_addPage (152, [o0, some (.inl x1), some (.inl x2), some (.inl x3), some (.inl x4), some (.inl x5), some (.inr (.inr (17, k6, i6))), some (.inl x7), some (.inr (.inr (14, k8, i8)))], [.inl t0, .inr (.inr (14, kt1, it1))], σ) Q :=
 w_iload_n (p' := 153) f_62_152 rfl rfl
 (w_callV (p' := 156) f_62_153 rfl rfl rfl rfl rfl (r := []) rfl rfl (kV rk_22 fun s101 h101 =>
 w_aload (p' := 158) f_62_156 rfl rfl
 (w_iload_n (p' := 159) f_62_158 rfl rfl
 (w_putI (p' := 162) f_62_159 rfl rfl (c' := 2) rfl rfl
 (w_aload (p' := 164) f_62_162 rfl rfl
 (w_iload (p' := 166) f_62_164 rfl rfl
 (w_putI (p' := 169) f_62_166 rfl rfl (c' := 3) rfl rfl
 (w_aload (p' := 171) f_62_169 rfl rfl
 (w_iload (p' := 173) f_62_171 rfl rfl
 (w_putI (p' := 176) f_62_173 rfl rfl (c' := 4) rfl rfl
 (w_aload (p' := 178) f_62_176 rfl rfl
 (w_iload_n (p' := 179) f_62_178 rfl rfl
 (w_iload (p' := 181) f_62_179 rfl rfl
 (w_callV (p' := 184) f_62_181 rfl rfl rfl rfl rfl (r := []) rfl rfl (kV rk_60 fun s102 h102 =>
 w_aload (p' := 186) f_62_184 rfl rfl
 (w_aload (p' := 188) f_62_186 rfl rfl
 (w_getfield (p' := 191) f_62_188 rfl (x := .inl (s102 17 k6 i6 4)) rfl rfl
 (w_iload_n (p' := 192) f_62_191 rfl rfl
 (w_iload_n (p' := 193) f_62_192 rfl rfl
 (w_iload (p' := 195) f_62_193 rfl rfl
 (w_callS (p' := 198) f_62_195 rfl rfl rfl (r := [.inr (.inr (17, k6, i6))]) rfl rfl (kI (.inl rk_61) fun r103 s103 h103 =>
 w_putI (p' := 201) f_62_198 rfl rfl (c' := 4) rfl rfl
 (w_iload (p' := 203) f_62_201 rfl rfl
 (w_iret f_62_203 rk_62 h103))) h102))))))) h101))))))))))))) h)
/-! ClosedRooms$World.pageAt(II)I -/
theorem f_63_0 : fnd 63 0 = some (0, .iconst 0, 1, 0, 0, 0, 0) := ceB_eq (by decide +kernel)
theorem f_63_1 : fnd 63 1 = some (1, .istore_n 3, 1, 0, 0, 0, 0) := ceB_eq (by decide +kernel)
theorem f_63_2 : fnd 63 2 = some (2, .iload_n 3, 1, 0, 0, 0, 0) := ceB_eq (by decide +kernel)
theorem f_63_3 : fnd 63 3 = some (3, .aload_n 0, 1, 0, 0, 0, 0) := ceB_eq (by decide +kernel)
theorem f_63_4 : fnd 63 4 = some (4, .getfield 9, 3, 4, 0, 0, 0) := ceB_eq (by decide +kernel)
theorem f_63_7 : fnd 63 7 = some (7, .if_icmp .ge 43, 3, 0, 0, 0, 0) := ceB_eq (by decide +kernel)
theorem f_63_10 : fnd 63 10 = some (10, .iload_n 3, 1, 0, 0, 0, 0) := ceB_eq (by decide +kernel)
theorem f_63_11 : fnd 63 11 = some (11, .bipush 10, 2, 0, 0, 0, 0) := ceB_eq (by decide +kernel)
theorem f_63_13 : fnd 63 13 = some (13, .if_icmp .ge 37, 3, 0, 0, 0, 0) := ceB_eq (by decide +kernel)
theorem f_63_16 : fnd 63 16 = some (16, .aload_n 0, 1, 0, 0, 0, 0) := ceB_eq (by decide +kernel)
theorem f_63_17 : fnd 63 17 = some (17, .getfield 29, 3, 4, 5, 5, 0) := ceB_eq (by decide +kernel)
theorem f_63_20 : fnd 63 20 = some (20, .iload_n 3, 1, 0, 0, 0, 0) := ceB_eq (by decide +kernel)
theorem f_63_21 : fnd 63 21 = some (21, .aaload, 1, 0, 0, 0, 0) := ceB_eq (by decide +kernel)
theorem f_63_22 : fnd 63 22 = some (22, .getfield 97, 3, 6, 1, 1, 0) := ceB_eq (by decide +kernel)
theorem f_63_25 : fnd 63 25 = some (25, .iload_n 1, 1, 0, 0, 0, 0) := ceB_eq (by decide +kernel)
theorem f_63_26 : fnd 63 26 = some (26, .if_icmp .ne 18, 3, 0, 0, 0, 0) := ceB_eq (by decide +kernel)
theorem f_63_29 : fnd 63 29 = some (29, .aload_n 0, 1, 0, 0, 0, 0) := ceB_eq (by decide +kernel)
theorem f_63_30 : fnd 63 30 = some (30, .getfield 29, 3, 4, 5, 5, 0) := ceB_eq (by decide +kernel)
theorem f_63_33 : fnd 63 33 = some (33, .iload_n 3, 1, 0, 0, 0, 0) := ceB_eq (by decide +kernel)
theorem f_63_34 : fnd 63 34 = some (34, .aaload, 1, 0, 0, 0, 0) := ceB_eq (by decide +kernel)
theorem f_63_35 : fnd 63 35 = some (35, .getfield 100, 3, 6, 2, 2, 0) := ceB_eq (by decide +kernel)
theorem f_63_38 : fnd 63 38 = some (38, .iload_n 2, 1, 0, 0, 0, 0) := ceB_eq (by decide +kernel)
theorem f_63_39 : fnd 63 39 = some (39, .if_icmp .ne 5, 3, 0, 0, 0, 0) := ceB_eq (by decide +kernel)
theorem f_63_42 : fnd 63 42 = some (42, .iload_n 3, 1, 0, 0, 0, 0) := ceB_eq (by decide +kernel)
theorem f_63_43 : fnd 63 43 = some (43, .ireturn, 1, 0, 0, 0, 0) := ceB_eq (by decide +kernel)
theorem f_63_44 : fnd 63 44 = some (44, .iinc 3 1, 3, 0, 0, 0, 0) := ceB_eq (by decide +kernel)
theorem f_63_47 : fnd 63 47 = some (47, .goto (-45), 3, 0, 0, 0, 0) := ceB_eq (by decide +kernel)
theorem f_63_50 : fnd 63 50 = some (50, .iconst (-1), 1, 0, 0, 0, 0) := ceB_eq (by decide +kernel)
theorem f_63_51 : fnd 63 51 = some (51, .ireturn, 1, 0, 0, 0, 0) := ceB_eq (by decide +kernel)
theorem rk_63 : rkm 63 = 0 := by decide +kernel
theorem ml_63 : (mth 63).2.1 = 4 := by decide +kernel
set_option maxRecDepth 100000 in
theorem T_World_pageAt (k0 i0 x1 x2 : Int) (σ : ST) (Q : Option AV → ST → Prop) (h :
  wp m_World_pageAt (2, [some (.inr (.inr (12, k0, i0))), some (.inl x1), some (.inl x2), some (.inl 0)], [], σ) Q) :
  wpM m_World_pageAt [.inr (.inr (12, k0, i0)), .inl x1, .inl x2] σ Q :=
 wpM_of ml_63 (L := [some (.inr (.inr (12, k0, i0))), some (.inl x1), some (.inl x2), none]) rfl
 (w_iconst (p' := 1) f_63_0 rfl
 (w_istore_n (p' := 2) f_63_1 (L' := [some (.inr (.inr (12, k0, i0))), some (.inl x1), some (.inl x2), some (.inl 0)]) rfl rfl
 (h)))
set_option maxRecDepth 100000 in
theorem T_World_pageAt_2 (k0 i0 x1 x2 x3 : Int) (σ : ST) (Q : Option AV → ST → Prop) (h :
  ((((σ 12 k0 i0 0) ≤ x3 : Prop) →
    Q (some (.inl (-1))) σ) ∧
  (¬ ((σ 12 k0 i0 0) ≤ x3) →
    (((10 ≤ x3 : Prop) →
      Q (some (.inl (-1))) σ) ∧
    (¬ (10 ≤ x3) →
      ((0 : Int) ≤ x3 ∧ (x3 : Int) < 10) ∧
      ((((σ 14 k0 x3 1) ≠ x1 : Prop) →
        wp m_World_pageAt (2, [some (.inr (.inr (12, k0, i0))), some (.inl x1), some (.inl x2), some (.inl (wr (x3 + 1)))], [], σ) Q) ∧
      (¬ ((σ 14 k0 x3 1) ≠ x1) →
        ((0 : Int) ≤ x3 ∧ (x3 : Int) < 10) ∧
        ((((σ 14 k0 x3 2) ≠ x2 : Prop) →
          wp m_World_pageAt (2, [some (.inr (.inr (12, k0, i0))), some (.inl x1), some (.inl x2), some (.inl (wr (x3 + 1)))], [], σ) Q) ∧
        (¬ ((σ 14 k0 x3 2) ≠ x2) →
          Q (some (.inl x3)) σ))))))))) :
  wp m_World_pageAt (2, [some (.inr (.inr (12, k0, i0))), some (.inl x1), some (.inl x2), some (.inl x3)], [], σ) Q :=
 w_iload_n (p' := 3) f_63_2 rfl rfl
 (w_aload_n (p' := 4) f_63_3 rfl rfl
 (w_getfield (p' := 7) f_63_4 rfl (x := .inl (σ 12 k0 i0 0)) rfl rfl
 (w_icmp (p' := 50) (q' := 10) f_63_7 rfl rfl
 (fun c104 => w_iconst (p' := 51) f_63_50 rfl
 (w_iret f_63_51 rk_63 (h.1 c104)))
 (fun c104 => w_iload_n (p' := 11) f_63_10 rfl rfl
 (w_bipush (p' := 13) f_63_11 rfl
 (w_icmp (p' := 50) (q' := 16) f_63_13 rfl rfl
 (fun c103 => w_iconst (p' := 51) f_63_50 rfl
 (w_iret f_63_51 rk_63 ((h.2 c104).1 c103)))
 (fun c103 => w_aload_n (p' := 17) f_63_16 rfl rfl
 (w_getfield (p' := 20) f_63_17 rfl (x := .inr (.inr (13, k0, 0))) rfl rfl
 (w_iload_n (p' := 21) f_63_20 rfl rfl
 (w_aaload (p' := 22) f_63_21 rfl (n := 10) rfl (x := (14, k0, x3)) rfl ((h.2 c104).2 c103).1 rfl
 (w_getfield (p' := 25) f_63_22 rfl (x := .inl (σ 14 k0 x3 1)) rfl rfl
 (w_iload_n (p' := 26) f_63_25 rfl rfl
 (w_icmp (p' := 44) (q' := 29) f_63_26 rfl rfl
 (fun c102 => w_iinc (p' := 47) f_63_44 rfl (L' := [some (.inr (.inr (12, k0, i0))), some (.inl x1), some (.inl x2), some (.inl (wr (x3 + 1)))]) rfl rfl
 (w_goto (p' := 2) f_63_47 rfl
 ((((h.2 c104).2 c103).2.1 c102))))
 (fun c102 => w_aload_n (p' := 30) f_63_29 rfl rfl
 (w_getfield (p' := 33) f_63_30 rfl (x := .inr (.inr (13, k0, 0))) rfl rfl
 (w_iload_n (p' := 34) f_63_33 rfl rfl
 (w_aaload (p' := 35) f_63_34 rfl (n := 10) rfl (x := (14, k0, x3)) rfl (((h.2 c104).2 c103).2.2 c102).1 rfl
 (w_getfield (p' := 38) f_63_35 rfl (x := .inl (σ 14 k0 x3 2)) rfl rfl
 (w_iload_n (p' := 39) f_63_38 rfl rfl
 (w_icmp (p' := 44) (q' := 42) f_63_39 rfl rfl
 (fun c101 => w_iinc (p' := 47) f_63_44 rfl (L' := [some (.inr (.inr (12, k0, i0))), some (.inl x1), some (.inl x2), some (.inl (wr (x3 + 1)))]) rfl rfl
 (w_goto (p' := 2) f_63_47 rfl
 (((((h.2 c104).2 c103).2.2 c102).2.1 c101))))
 (fun c101 => w_iload_n (p' := 43) f_63_42 rfl rfl
 (w_iret f_63_43 rk_63 ((((h.2 c104).2 c103).2.2 c102).2.2 c101)))))))))))))))))))))))
/-! ClosedRooms.measureWithExtend(II)I -/
theorem f_64_0 : fnd 64 0 = some (0, .bipush 31, 2, 0, 0, 0, 0) := ceB_eq (by decide +kernel)
theorem f_64_2 : fnd 64 2 = some (2, .iload_n 0, 1, 0, 0, 0, 0) := ceB_eq (by decide +kernel)
theorem f_64_3 : fnd 64 3 = some (3, .imul, 1, 0, 0, 0, 0) := ceB_eq (by decide +kernel)
theorem f_64_4 : fnd 64 4 = some (4, .sipush 1000, 3, 0, 0, 0, 0) := ceB_eq (by decide +kernel)
theorem f_64_7 : fnd 64 7 = some (7, .iadd, 1, 0, 0, 0, 0) := ceB_eq (by decide +kernel)
theorem f_64_8 : fnd 64 8 = some (8, .iload_n 1, 1, 0, 0, 0, 0) := ceB_eq (by decide +kernel)
theorem f_64_9 : fnd 64 9 = some (9, .iadd, 1, 0, 0, 0, 0) := ceB_eq (by decide +kernel)
theorem f_64_10 : fnd 64 10 = some (10, .ireturn, 1, 0, 0, 0, 0) := ceB_eq (by decide +kernel)
theorem rk_64 : rkm 64 = 0 := by decide +kernel
theorem ml_64 : (mth 64).2.1 = 2 := by decide +kernel
set_option maxRecDepth 100000 in
theorem T_X_measureWithExtend (x1 x2 : Int) (σ : ST) (Q : Option AV → ST → Prop) (h :
  Q (some (.inl (wr ((wr ((wr (31 * x1)) + 1000)) + x2)))) σ) :
  wpM m_X_measureWithExtend [.inl x1, .inl x2] σ Q :=
 wpM_of ml_64 (L := [some (.inl x1), some (.inl x2)]) rfl
 (w_bipush (p' := 2) f_64_0 rfl
 (w_iload_n (p' := 3) f_64_2 rfl rfl
 (w_imul (p' := 4) f_64_3 rfl
 (w_sipush (p' := 7) f_64_4 rfl
 (w_iadd (p' := 8) f_64_7 rfl
 (w_iload_n (p' := 9) f_64_8 rfl rfl
 (w_iadd (p' := 10) f_64_9 rfl
 (w_iret f_64_10 rk_64 h))))))))
/-! ClosedRooms$Acts.extendBy(II)I -/
theorem f_65_0 : fnd 65 0 = some (0, .aload_n 0, 1, 0, 0, 0, 0) := ceB_eq (by decide +kernel)
theorem f_65_1 : fnd 65 1 = some (1, .getfield 12, 3, 3, 0, 0, 0) := ceB_eq (by decide +kernel)
theorem f_65_4 : fnd 65 4 = some (4, .iload_n 1, 1, 0, 0, 0, 0) := ceB_eq (by decide +kernel)
theorem f_65_5 : fnd 65 5 = some (5, .invokevirtual 129, 3, 37, 2, 4, 0) := ceB_eq (by decide +kernel)
theorem f_65_8 : fnd 65 8 = some (8, .ifCond .ne 9, 3, 0, 0, 0, 0) := ceB_eq (by decide +kernel)
theorem f_65_11 : fnd 65 11 = some (11, .aload_n 0, 1, 0, 0, 0, 0) := ceB_eq (by decide +kernel)
theorem f_65_12 : fnd 65 12 = some (12, .iconst 0, 1, 0, 0, 0, 0) := ceB_eq (by decide +kernel)
theorem f_65_13 : fnd 65 13 = some (13, .invokevirtual 85, 3, 53, 2, 3, 0) := ceB_eq (by decide +kernel)
theorem f_65_16 : fnd 65 16 = some (16, .ireturn, 1, 0, 0, 0, 0) := ceB_eq (by decide +kernel)
theorem f_65_17 : fnd 65 17 = some (17, .aload_n 0, 1, 0, 0, 0, 0) := ceB_eq (by decide +kernel)
theorem f_65_18 : fnd 65 18 = some (18, .getfield 12, 3, 3, 0, 0, 0) := ceB_eq (by decide +kernel)
theorem f_65_21 : fnd 65 21 = some (21, .getfield 112, 3, 4, 6, 6, 0) := ceB_eq (by decide +kernel)
theorem f_65_24 : fnd 65 24 = some (24, .iload_n 1, 1, 0, 0, 0, 0) := ceB_eq (by decide +kernel)
theorem f_65_25 : fnd 65 25 = some (25, .aaload, 1, 0, 0, 0, 0) := ceB_eq (by decide +kernel)
theorem f_65_26 : fnd 65 26 = some (26, .astore_n 3, 1, 0, 0, 0, 0) := ceB_eq (by decide +kernel)
theorem f_65_27 : fnd 65 27 = some (27, .aload_n 3, 1, 0, 0, 0, 0) := ceB_eq (by decide +kernel)
theorem f_65_28 : fnd 65 28 = some (28, .iload_n 2, 1, 0, 0, 0, 0) := ceB_eq (by decide +kernel)
theorem f_65_29 : fnd 65 29 = some (29, .invokevirtual 133, 3, 38, 2, 7, 0) := ceB_eq (by decide +kernel)
theorem f_65_32 : fnd 65 32 = some (32, .ifCond .ne 9, 3, 0, 0, 0, 0) := ceB_eq (by decide +kernel)
theorem f_65_35 : fnd 65 35 = some (35, .aload_n 0, 1, 0, 0, 0, 0) := ceB_eq (by decide +kernel)
theorem f_65_36 : fnd 65 36 = some (36, .iconst 1, 1, 0, 0, 0, 0) := ceB_eq (by decide +kernel)
theorem f_65_37 : fnd 65 37 = some (37, .invokevirtual 85, 3, 53, 2, 3, 0) := ceB_eq (by decide +kernel)
theorem f_65_40 : fnd 65 40 = some (40, .ireturn, 1, 0, 0, 0, 0) := ceB_eq (by decide +kernel)
theorem f_65_41 : fnd 65 41 = some (41, .aload_n 0, 1, 0, 0, 0, 0) := ceB_eq (by decide +kernel)
theorem f_65_42 : fnd 65 42 = some (42, .getfield 12, 3, 3, 0, 0, 0) := ceB_eq (by decide +kernel)
theorem f_65_45 : fnd 65 45 = some (45, .iload_n 1, 1, 0, 0, 0, 0) := ceB_eq (by decide +kernel)
theorem f_65_46 : fnd 65 46 = some (46, .iload_n 2, 1, 0, 0, 0, 0) := ceB_eq (by decide +kernel)
theorem f_65_47 : fnd 65 47 = some (47, .invokevirtual 162, 3, 63, 3, 4, 0) := ceB_eq (by decide +kernel)
theorem f_65_50 : fnd 65 50 = some (50, .istore 4, 2, 0, 0, 0, 0) := ceB_eq (by decide +kernel)
theorem f_65_52 : fnd 65 52 = some (52, .aload_n 3, 1, 0, 0, 0, 0) := ceB_eq (by decide +kernel)
theorem f_65_53 : fnd 65 53 = some (53, .invokevirtual 136, 3, 59, 1, 7, 0) := ceB_eq (by decide +kernel)
theorem f_65_56 : fnd 65 56 = some (56, .ifCond .eq 9, 3, 0, 0, 0, 0) := ceB_eq (by decide +kernel)
theorem f_65_59 : fnd 65 59 = some (59, .iload 4, 2, 0, 0, 0, 0) := ceB_eq (by decide +kernel)
theorem f_65_61 : fnd 65 61 = some (61, .iconst (-1), 1, 0, 0, 0, 0) := ceB_eq (by decide +kernel)
theorem f_65_62 : fnd 65 62 = some (62, .if_icmp .ne 9, 3, 0, 0, 0, 0) := ceB_eq (by decide +kernel)
theorem f_65_65 : fnd 65 65 = some (65, .aload_n 0, 1, 0, 0, 0, 0) := ceB_eq (by decide +kernel)
theorem f_65_66 : fnd 65 66 = some (66, .iconst 2, 1, 0, 0, 0, 0) := ceB_eq (by decide +kernel)
theorem f_65_67 : fnd 65 67 = some (67, .invokevirtual 85, 3, 53, 2, 3, 0) := ceB_eq (by decide +kernel)
theorem f_65_70 : fnd 65 70 = some (70, .ireturn, 1, 0, 0, 0, 0) := ceB_eq (by decide +kernel)
theorem f_65_71 : fnd 65 71 = some (71, .aload_n 3, 1, 0, 0, 0, 0) := ceB_eq (by decide +kernel)
theorem f_65_72 : fnd 65 72 = some (72, .aload_n 3, 1, 0, 0, 0, 0) := ceB_eq (by decide +kernel)
theorem f_65_73 : fnd 65 73 = some (73, .getfield 156, 3, 7, 4, 4, 0) := ceB_eq (by decide +kernel)
theorem f_65_76 : fnd 65 76 = some (76, .aload_n 0, 1, 0, 0, 0, 0) := ceB_eq (by decide +kernel)
theorem f_65_77 : fnd 65 77 = some (77, .getfield 12, 3, 3, 0, 0, 0) := ceB_eq (by decide +kernel)
theorem f_65_80 : fnd 65 80 = some (80, .getfield 122, 3, 4, 5, 5, 0) := ceB_eq (by decide +kernel)
theorem f_65_83 : fnd 65 83 = some (83, .iload 4, 2, 0, 0, 0, 0) := ceB_eq (by decide +kernel)
theorem f_65_85 : fnd 65 85 = some (85, .aaload, 1, 0, 0, 0, 0) := ceB_eq (by decide +kernel)
theorem f_65_86 : fnd 65 86 = some (86, .getfield 150, 3, 6, 4, 4, 0) := ceB_eq (by decide +kernel)
theorem f_65_89 : fnd 65 89 = some (89, .invokestatic 165, 3, 64, 2, 0, 0) := ceB_eq (by decide +kernel)
theorem f_65_92 : fnd 65 92 = some (92, .putfield 156, 3, 7, 4, 4, 0) := ceB_eq (by decide +kernel)
theorem f_65_95 : fnd 65 95 = some (95, .aload_n 3, 1, 0, 0, 0, 0) := ceB_eq (by decide +kernel)
theorem f_65_96 : fnd 65 96 = some (96, .getfield 156, 3, 7, 4, 4, 0) := ceB_eq (by decide +kernel)
theorem f_65_99 : fnd 65 99 = some (99, .ireturn, 1, 0, 0, 0, 0) := ceB_eq (by decide +kernel)
theorem rk_65 : rkm 65 = 0 := by decide +kernel
theorem ml_65 : (mth 65).2.1 = 5 := by decide +kernel
set_option maxRecDepth 100000 in
theorem T_Acts_extendBy (k0 i0 x1 x2 : Int) (σ : ST) (Q : Option AV → ST → Prop) (h :
  wpM m_World_isRoom [.inr (.inr (12, k0, 0)), .inl x1] σ (asI fun r101 s101 =>
  (((r101 ≠ 0 : Prop) →
    ((0 : Int) ≤ x1 ∧ (x1 : Int) < 4) ∧
    wpM m_Room_hasAddress [.inr (.inr (17, k0, x1)), .inl x2] s101 (asI fun r102 s102 =>
    (((r102 ≠ 0 : Prop) →
      wpM m_World_pageAt [.inr (.inr (12, k0, 0)), .inl x1, .inl x2] s102 (asI fun r103 s103 =>
      wpM m_Room_canBeBuilt [.inr (.inr (17, k0, x1))] s103 (asI fun r104 s104 =>
      (((r104 = 0 : Prop) →
        wpM m_Acts_refuse [.inr (.inr (11, k0, i0)), .inl 2] s104 (asI fun r105 s105 =>
        Q (some (.inl r105)) s105)) ∧
      (¬ (r104 = 0) →
        (((r103 ≠ (-1) : Prop) →
          ((0 : Int) ≤ r103 ∧ (r103 : Int) < 10) ∧
          wpM m_X_measureWithExtend [.inl (s104 17 k0 x1 4), .inl (s104 14 k0 r103 4)] s104 (asI fun r106 s106 =>
          Q (some (.inl ((up s106 17 k0 x1 4 r106) 17 k0 x1 4))) (up s106 17 k0 x1 4 r106))) ∧
        (¬ (r103 ≠ (-1)) →
          wpM m_Acts_refuse [.inr (.inr (11, k0, i0)), .inl 2] s104 (asI fun r107 s107 =>
          Q (some (.inl r107)) s107)))))))) ∧
    (¬ (r102 ≠ 0) →
      wpM m_Acts_refuse [.inr (.inr (11, k0, i0)), .inl 1] s102 (asI fun r110 s110 =>
      Q (some (.inl r110)) s110))))) ∧
  (¬ (r101 ≠ 0) →
    wpM m_Acts_refuse [.inr (.inr (11, k0, i0)), .inl 0] s101 (asI fun r112 s112 =>
    Q (some (.inl r112)) s112))))) :
  wpM m_Acts_extendBy [.inr (.inr (11, k0, i0)), .inl x1, .inl x2] σ Q :=
 wpM_of ml_65 (L := [some (.inr (.inr (11, k0, i0))), some (.inl x1), some (.inl x2), none, none]) rfl
 (w_aload_n (p' := 1) f_65_0 rfl rfl
 (w_getfield (p' := 4) f_65_1 rfl (x := .inr (.inr (12, k0, 0))) rfl rfl
 (w_iload_n (p' := 5) f_65_4 rfl rfl
 (w_callV (p' := 8) f_65_5 rfl rfl rfl rfl rfl (r := []) rfl rfl (kI (.inr rk_37) fun r101 s101 h101 =>
 w_if (p' := 17) (q' := 11) f_65_8 rfl rfl
 (fun c113 => w_aload_n (p' := 18) f_65_17 rfl rfl
 (w_getfield (p' := 21) f_65_18 rfl (x := .inr (.inr (12, k0, 0))) rfl rfl
 (w_getfield (p' := 24) f_65_21 rfl (x := .inr (.inr (16, k0, 0))) rfl rfl
 (w_iload_n (p' := 25) f_65_24 rfl rfl
 (w_aaload (p' := 26) f_65_25 rfl (n := 4) rfl (x := (17, k0, x1)) rfl (h101.1 c113).1 rfl
 (w_astore_n (p' := 27) f_65_26 (L' := [some (.inr (.inr (11, k0, i0))), some (.inl x1), some (.inl x2), some (.inr (.inr (17, k0, x1))), none]) rfl rfl
 (w_aload_n (p' := 28) f_65_27 rfl rfl
 (w_iload_n (p' := 29) f_65_28 rfl rfl
 (w_callV (p' := 32) f_65_29 rfl rfl rfl rfl rfl (r := []) rfl rfl (kI (.inr rk_38) fun r102 s102 h102 =>
 w_if (p' := 41) (q' := 35) f_65_32 rfl rfl
 (fun c111 => w_aload_n (p' := 42) f_65_41 rfl rfl
 (w_getfield (p' := 45) f_65_42 rfl (x := .inr (.inr (12, k0, 0))) rfl rfl
 (w_iload_n (p' := 46) f_65_45 rfl rfl
 (w_iload_n (p' := 47) f_65_46 rfl rfl
 (w_callV (p' := 50) f_65_47 rfl rfl rfl rfl rfl (r := []) rfl rfl (kI (.inl rk_63) fun r103 s103 h103 =>
 w_istore (p' := 52) f_65_50 (L' := [some (.inr (.inr (11, k0, i0))), some (.inl x1), some (.inl x2), some (.inr (.inr (17, k0, x1))), some (.inl r103)]) rfl rfl
 (w_aload_n (p' := 53) f_65_52 rfl rfl
 (w_callV (p' := 56) f_65_53 rfl rfl rfl rfl rfl (r := []) rfl rfl (kI (.inr rk_59) fun r104 s104 h104 =>
 w_if (p' := 65) (q' := 59) f_65_56 rfl rfl
 (fun c109 => w_aload_n (p' := 66) f_65_65 rfl rfl
 (w_iconst (p' := 67) f_65_66 rfl
 (w_callV (p' := 70) f_65_67 rfl rfl rfl rfl rfl (r := []) rfl rfl (kI (.inl rk_53) fun r105 s105 h105 =>
 w_iret f_65_70 rk_65 h105) (h104.1 c109))))
 (fun c109 => w_iload (p' := 61) f_65_59 rfl rfl
 (w_iconst (p' := 62) f_65_61 rfl
 (w_icmp (p' := 71) (q' := 65) f_65_62 rfl rfl
 (fun c108 => w_aload_n (p' := 72) f_65_71 rfl rfl
 (w_aload_n (p' := 73) f_65_72 rfl rfl
 (w_getfield (p' := 76) f_65_73 rfl (x := .inl (s104 17 k0 x1 4)) rfl rfl
 (w_aload_n (p' := 77) f_65_76 rfl rfl
 (w_getfield (p' := 80) f_65_77 rfl (x := .inr (.inr (12, k0, 0))) rfl rfl
 (w_getfield (p' := 83) f_65_80 rfl (x := .inr (.inr (13, k0, 0))) rfl rfl
 (w_iload (p' := 85) f_65_83 rfl rfl
 (w_aaload (p' := 86) f_65_85 rfl (n := 10) rfl (x := (14, k0, r103)) rfl ((h104.2 c109).1 c108).1 rfl
 (w_getfield (p' := 89) f_65_86 rfl (x := .inl (s104 14 k0 r103 4)) rfl rfl
 (w_callS (p' := 92) f_65_89 rfl rfl rfl (r := [.inr (.inr (17, k0, x1))]) rfl rfl (kI (.inl rk_64) fun r106 s106 h106 =>
 w_putI (p' := 95) f_65_92 rfl rfl (c' := 4) rfl rfl
 (w_aload_n (p' := 96) f_65_95 rfl rfl
 (w_getfield (p' := 99) f_65_96 rfl (x := .inl ((up s106 17 k0 x1 4 r106) 17 k0 x1 4)) rfl rfl
 (w_iret f_65_99 rk_65 h106)))) ((h104.2 c109).1 c108).2))))))))))
 (fun c108 => w_aload_n (p' := 66) f_65_65 rfl rfl
 (w_iconst (p' := 67) f_65_66 rfl
 (w_callV (p' := 70) f_65_67 rfl rfl rfl rfl rfl (r := []) rfl rfl (kI (.inl rk_53) fun r107 s107 h107 =>
 w_iret f_65_70 rk_65 h107) ((h104.2 c109).2 c108)))))))) h103))) (h102.1 c111))))))
 (fun c111 => w_aload_n (p' := 36) f_65_35 rfl rfl
 (w_iconst (p' := 37) f_65_36 rfl
 (w_callV (p' := 40) f_65_37 rfl rfl rfl rfl rfl (r := []) rfl rfl (kI (.inl rk_53) fun r110 s110 h110 =>
 w_iret f_65_40 rk_65 h110) (h102.2 c111))))) (h101.1 c113).2)))))))))
 (fun c113 => w_aload_n (p' := 12) f_65_11 rfl rfl
 (w_iconst (p' := 13) f_65_12 rfl
 (w_callV (p' := 16) f_65_13 rfl rfl rfl rfl rfl (r := []) rfl rfl (kI (.inl rk_53) fun r112 s112 h112 =>
 w_iret f_65_16 rk_65 h112) (h101.2 c113))))) h))))
/-! ClosedRooms$Acts.sealRoom(II)I -/
theorem f_66_0 : fnd 66 0 = some (0, .aload_n 0, 1, 0, 0, 0, 0) := ceB_eq (by decide +kernel)
theorem f_66_1 : fnd 66 1 = some (1, .getfield 12, 3, 3, 0, 0, 0) := ceB_eq (by decide +kernel)
theorem f_66_4 : fnd 66 4 = some (4, .iload_n 1, 1, 0, 0, 0, 0) := ceB_eq (by decide +kernel)
theorem f_66_5 : fnd 66 5 = some (5, .invokevirtual 129, 3, 37, 2, 4, 0) := ceB_eq (by decide +kernel)
theorem f_66_8 : fnd 66 8 = some (8, .ifCond .ne 9, 3, 0, 0, 0, 0) := ceB_eq (by decide +kernel)
theorem f_66_11 : fnd 66 11 = some (11, .aload_n 0, 1, 0, 0, 0, 0) := ceB_eq (by decide +kernel)
theorem f_66_12 : fnd 66 12 = some (12, .iconst 0, 1, 0, 0, 0, 0) := ceB_eq (by decide +kernel)
theorem f_66_13 : fnd 66 13 = some (13, .invokevirtual 85, 3, 53, 2, 3, 0) := ceB_eq (by decide +kernel)
theorem f_66_16 : fnd 66 16 = some (16, .ireturn, 1, 0, 0, 0, 0) := ceB_eq (by decide +kernel)
theorem f_66_17 : fnd 66 17 = some (17, .aload_n 0, 1, 0, 0, 0, 0) := ceB_eq (by decide +kernel)
theorem f_66_18 : fnd 66 18 = some (18, .getfield 12, 3, 3, 0, 0, 0) := ceB_eq (by decide +kernel)
theorem f_66_21 : fnd 66 21 = some (21, .getfield 112, 3, 4, 6, 6, 0) := ceB_eq (by decide +kernel)
theorem f_66_24 : fnd 66 24 = some (24, .iload_n 1, 1, 0, 0, 0, 0) := ceB_eq (by decide +kernel)
theorem f_66_25 : fnd 66 25 = some (25, .aaload, 1, 0, 0, 0, 0) := ceB_eq (by decide +kernel)
theorem f_66_26 : fnd 66 26 = some (26, .astore_n 3, 1, 0, 0, 0, 0) := ceB_eq (by decide +kernel)
theorem f_66_27 : fnd 66 27 = some (27, .aload_n 3, 1, 0, 0, 0, 0) := ceB_eq (by decide +kernel)
theorem f_66_28 : fnd 66 28 = some (28, .invokevirtual 136, 3, 59, 1, 7, 0) := ceB_eq (by decide +kernel)
theorem f_66_31 : fnd 66 31 = some (31, .ifCond .ne 9, 3, 0, 0, 0, 0) := ceB_eq (by decide +kernel)
theorem f_66_34 : fnd 66 34 = some (34, .aload_n 0, 1, 0, 0, 0, 0) := ceB_eq (by decide +kernel)
theorem f_66_35 : fnd 66 35 = some (35, .iconst 2, 1, 0, 0, 0, 0) := ceB_eq (by decide +kernel)
theorem f_66_36 : fnd 66 36 = some (36, .invokevirtual 85, 3, 53, 2, 3, 0) := ceB_eq (by decide +kernel)
theorem f_66_39 : fnd 66 39 = some (39, .ireturn, 1, 0, 0, 0, 0) := ceB_eq (by decide +kernel)
theorem f_66_40 : fnd 66 40 = some (40, .aload_n 3, 1, 0, 0, 0, 0) := ceB_eq (by decide +kernel)
theorem f_66_41 : fnd 66 41 = some (41, .getfield 156, 3, 7, 4, 4, 0) := ceB_eq (by decide +kernel)
theorem f_66_44 : fnd 66 44 = some (44, .iload_n 2, 1, 0, 0, 0, 0) := ceB_eq (by decide +kernel)
theorem f_66_45 : fnd 66 45 = some (45, .if_icmp .eq 9, 3, 0, 0, 0, 0) := ceB_eq (by decide +kernel)
theorem f_66_48 : fnd 66 48 = some (48, .aload_n 0, 1, 0, 0, 0, 0) := ceB_eq (by decide +kernel)
theorem f_66_49 : fnd 66 49 = some (49, .iconst 4, 1, 0, 0, 0, 0) := ceB_eq (by decide +kernel)
theorem f_66_50 : fnd 66 50 = some (50, .invokevirtual 85, 3, 53, 2, 3, 0) := ceB_eq (by decide +kernel)
theorem f_66_53 : fnd 66 53 = some (53, .ireturn, 1, 0, 0, 0, 0) := ceB_eq (by decide +kernel)
theorem f_66_54 : fnd 66 54 = some (54, .aload_n 3, 1, 0, 0, 0, 0) := ceB_eq (by decide +kernel)
theorem f_66_55 : fnd 66 55 = some (55, .iconst 1, 1, 0, 0, 0, 0) := ceB_eq (by decide +kernel)
theorem f_66_56 : fnd 66 56 = some (56, .putfield 168, 3, 7, 3, 3, 0) := ceB_eq (by decide +kernel)
theorem f_66_59 : fnd 66 59 = some (59, .aload_n 3, 1, 0, 0, 0, 0) := ceB_eq (by decide +kernel)
theorem f_66_60 : fnd 66 60 = some (60, .getfield 172, 3, 7, 1, 1, 0) := ceB_eq (by decide +kernel)
theorem f_66_63 : fnd 66 63 = some (63, .ireturn, 1, 0, 0, 0, 0) := ceB_eq (by decide +kernel)
theorem rk_66 : rkm 66 = 0 := by decide +kernel
theorem ml_66 : (mth 66).2.1 = 4 := by decide +kernel
set_option maxRecDepth 100000 in
theorem T_Acts_sealRoom (k0 i0 x1 x2 : Int) (σ : ST) (Q : Option AV → ST → Prop) (h :
  wpM m_World_isRoom [.inr (.inr (12, k0, 0)), .inl x1] σ (asI fun r101 s101 =>
  (((r101 ≠ 0 : Prop) →
    ((0 : Int) ≤ x1 ∧ (x1 : Int) < 4) ∧
    wpM m_Room_canBeBuilt [.inr (.inr (17, k0, x1))] s101 (asI fun r102 s102 =>
    (((r102 ≠ 0 : Prop) →
      ((((s102 17 k0 x1 4) = x2 : Prop) →
        ((1 : Int) = 0 ∨ (1 : Int) = 1) ∧
        Q (some (.inl ((up s102 17 k0 x1 3 1) 17 k0 x1 1))) (up s102 17 k0 x1 3 1)) ∧
      (¬ ((s102 17 k0 x1 4) = x2) →
        wpM m_Acts_refuse [.inr (.inr (11, k0, i0)), .inl 4] s102 (asI fun r103 s103 =>
        Q (some (.inl r103)) s103)))) ∧
    (¬ (r102 ≠ 0) →
      wpM m_Acts_refuse [.inr (.inr (11, k0, i0)), .inl 2] s102 (asI fun r105 s105 =>
      Q (some (.inl r105)) s105))))) ∧
  (¬ (r101 ≠ 0) →
    wpM m_Acts_refuse [.inr (.inr (11, k0, i0)), .inl 0] s101 (asI fun r107 s107 =>
    Q (some (.inl r107)) s107))))) :
  wpM m_Acts_sealRoom [.inr (.inr (11, k0, i0)), .inl x1, .inl x2] σ Q :=
 wpM_of ml_66 (L := [some (.inr (.inr (11, k0, i0))), some (.inl x1), some (.inl x2), none]) rfl
 (w_aload_n (p' := 1) f_66_0 rfl rfl
 (w_getfield (p' := 4) f_66_1 rfl (x := .inr (.inr (12, k0, 0))) rfl rfl
 (w_iload_n (p' := 5) f_66_4 rfl rfl
 (w_callV (p' := 8) f_66_5 rfl rfl rfl rfl rfl (r := []) rfl rfl (kI (.inr rk_37) fun r101 s101 h101 =>
 w_if (p' := 17) (q' := 11) f_66_8 rfl rfl
 (fun c108 => w_aload_n (p' := 18) f_66_17 rfl rfl
 (w_getfield (p' := 21) f_66_18 rfl (x := .inr (.inr (12, k0, 0))) rfl rfl
 (w_getfield (p' := 24) f_66_21 rfl (x := .inr (.inr (16, k0, 0))) rfl rfl
 (w_iload_n (p' := 25) f_66_24 rfl rfl
 (w_aaload (p' := 26) f_66_25 rfl (n := 4) rfl (x := (17, k0, x1)) rfl (h101.1 c108).1 rfl
 (w_astore_n (p' := 27) f_66_26 (L' := [some (.inr (.inr (11, k0, i0))), some (.inl x1), some (.inl x2), some (.inr (.inr (17, k0, x1)))]) rfl rfl
 (w_aload_n (p' := 28) f_66_27 rfl rfl
 (w_callV (p' := 31) f_66_28 rfl rfl rfl rfl rfl (r := []) rfl rfl (kI (.inr rk_59) fun r102 s102 h102 =>
 w_if (p' := 40) (q' := 34) f_66_31 rfl rfl
 (fun c106 => w_aload_n (p' := 41) f_66_40 rfl rfl
 (w_getfield (p' := 44) f_66_41 rfl (x := .inl (s102 17 k0 x1 4)) rfl rfl
 (w_iload_n (p' := 45) f_66_44 rfl rfl
 (w_icmp (p' := 54) (q' := 48) f_66_45 rfl rfl
 (fun c104 => w_aload_n (p' := 55) f_66_54 rfl rfl
 (w_iconst (p' := 56) f_66_55 rfl
 (w_putZ (p' := 59) f_66_56 rfl rfl (c' := 3) rfl ((h102.1 c106).1 c104).1 rfl
 (w_aload_n (p' := 60) f_66_59 rfl rfl
 (w_getfield (p' := 63) f_66_60 rfl (x := .inl ((up s102 17 k0 x1 3 1) 17 k0 x1 1)) rfl rfl
 (w_iret f_66_63 rk_66 ((h102.1 c106).1 c104).2))))))
 (fun c104 => w_aload_n (p' := 49) f_66_48 rfl rfl
 (w_iconst (p' := 50) f_66_49 rfl
 (w_callV (p' := 53) f_66_50 rfl rfl rfl rfl rfl (r := []) rfl rfl (kI (.inl rk_53) fun r103 s103 h103 =>
 w_iret f_66_53 rk_66 h103) ((h102.1 c106).2 c104))))))))
 (fun c106 => w_aload_n (p' := 35) f_66_34 rfl rfl
 (w_iconst (p' := 36) f_66_35 rfl
 (w_callV (p' := 39) f_66_36 rfl rfl rfl rfl rfl (r := []) rfl rfl (kI (.inl rk_53) fun r105 s105 h105 =>
 w_iret f_66_39 rk_66 h105) (h102.2 c106))))) (h101.1 c108).2))))))))
 (fun c108 => w_aload_n (p' := 12) f_66_11 rfl rfl
 (w_iconst (p' := 13) f_66_12 rfl
 (w_callV (p' := 16) f_66_13 rfl rfl rfl rfl rfl (r := []) rfl rfl (kI (.inl rk_53) fun r107 s107 h107 =>
 w_iret f_66_16 rk_66 h107) (h101.2 c108))))) h))))
/-! ClosedRooms$World.isPageOf(III)Z -/
theorem f_67_0 : fnd 67 0 = some (0, .aload_n 0, 1, 0, 0, 0, 0) := ceB_eq (by decide +kernel)
theorem f_67_1 : fnd 67 1 = some (1, .iload_n 1, 1, 0, 0, 0, 0) := ceB_eq (by decide +kernel)
theorem f_67_2 : fnd 67 2 = some (2, .invokevirtual 90, 3, 32, 2, 4, 0) := ceB_eq (by decide +kernel)
theorem f_67_5 : fnd 67 5 = some (5, .ifCond .eq 38, 3, 0, 0, 0, 0) := ceB_eq (by decide +kernel)
theorem f_67_8 : fnd 67 8 = some (8, .iload_n 3, 1, 0, 0, 0, 0) := ceB_eq (by decide +kernel)
theorem f_67_9 : fnd 67 9 = some (9, .iconst (-1), 1, 0, 0, 0, 0) := ceB_eq (by decide +kernel)
theorem f_67_10 : fnd 67 10 = some (10, .if_icmp .eq 33, 3, 0, 0, 0, 0) := ceB_eq (by decide +kernel)
theorem f_67_13 : fnd 67 13 = some (13, .aload_n 0, 1, 0, 0, 0, 0) := ceB_eq (by decide +kernel)
theorem f_67_14 : fnd 67 14 = some (14, .getfield 29, 3, 4, 5, 5, 0) := ceB_eq (by decide +kernel)
theorem f_67_17 : fnd 67 17 = some (17, .iload_n 1, 1, 0, 0, 0, 0) := ceB_eq (by decide +kernel)
theorem f_67_18 : fnd 67 18 = some (18, .aaload, 1, 0, 0, 0, 0) := ceB_eq (by decide +kernel)
theorem f_67_19 : fnd 67 19 = some (19, .getfield 97, 3, 6, 1, 1, 0) := ceB_eq (by decide +kernel)
theorem f_67_22 : fnd 67 22 = some (22, .iload_n 2, 1, 0, 0, 0, 0) := ceB_eq (by decide +kernel)
theorem f_67_23 : fnd 67 23 = some (23, .if_icmp .ne 20, 3, 0, 0, 0, 0) := ceB_eq (by decide +kernel)
theorem f_67_26 : fnd 67 26 = some (26, .aload_n 0, 1, 0, 0, 0, 0) := ceB_eq (by decide +kernel)
theorem f_67_27 : fnd 67 27 = some (27, .getfield 29, 3, 4, 5, 5, 0) := ceB_eq (by decide +kernel)
theorem f_67_30 : fnd 67 30 = some (30, .iload_n 1, 1, 0, 0, 0, 0) := ceB_eq (by decide +kernel)
theorem f_67_31 : fnd 67 31 = some (31, .aaload, 1, 0, 0, 0, 0) := ceB_eq (by decide +kernel)
theorem f_67_32 : fnd 67 32 = some (32, .getfield 100, 3, 6, 2, 2, 0) := ceB_eq (by decide +kernel)
theorem f_67_35 : fnd 67 35 = some (35, .iload_n 3, 1, 0, 0, 0, 0) := ceB_eq (by decide +kernel)
theorem f_67_36 : fnd 67 36 = some (36, .if_icmp .ne 7, 3, 0, 0, 0, 0) := ceB_eq (by decide +kernel)
theorem f_67_39 : fnd 67 39 = some (39, .iconst 1, 1, 0, 0, 0, 0) := ceB_eq (by decide +kernel)
theorem f_67_40 : fnd 67 40 = some (40, .goto 4, 3, 0, 0, 0, 0) := ceB_eq (by decide +kernel)
theorem f_67_43 : fnd 67 43 = some (43, .iconst 0, 1, 0, 0, 0, 0) := ceB_eq (by decide +kernel)
theorem f_67_44 : fnd 67 44 = some (44, .ireturn, 1, 0, 0, 0, 0) := ceB_eq (by decide +kernel)
theorem rk_67 : rkm 67 = 1 := by decide +kernel
theorem ml_67 : (mth 67).2.1 = 4 := by decide +kernel
set_option maxRecDepth 100000 in
theorem T_World_isPageOf (k0 i0 x1 x2 x3 : Int) (σ : ST) (Q : Option AV → ST → Prop) (h :
  wpM m_World_isPage [.inr (.inr (12, k0, i0)), .inl x1] σ (asI fun r101 s101 =>
  (((r101 = 0 : Prop) →
    ((0 : Int) = 0 ∨ (0 : Int) = 1) ∧ Q (some (.inl 0)) s101) ∧
  (¬ (r101 = 0) →
    (((x3 = (-1) : Prop) →
      ((0 : Int) = 0 ∨ (0 : Int) = 1) ∧ Q (some (.inl 0)) s101) ∧
    (¬ (x3 = (-1)) →
      ((0 : Int) ≤ x1 ∧ (x1 : Int) < 10) ∧
      ((((s101 14 k0 x1 1) ≠ x2 : Prop) →
        ((0 : Int) = 0 ∨ (0 : Int) = 1) ∧ Q (some (.inl 0)) s101) ∧
      (¬ ((s101 14 k0 x1 1) ≠ x2) →
        ((0 : Int) ≤ x1 ∧ (x1 : Int) < 10) ∧
        ((((s101 14 k0 x1 2) ≠ x3 : Prop) →
          ((0 : Int) = 0 ∨ (0 : Int) = 1) ∧ Q (some (.inl 0)) s101) ∧
        (¬ ((s101 14 k0 x1 2) ≠ x3) →
          ((1 : Int) = 0 ∨ (1 : Int) = 1) ∧ Q (some (.inl 1)) s101)))))))))) :
  wpM m_World_isPageOf [.inr (.inr (12, k0, i0)), .inl x1, .inl x2, .inl x3] σ Q :=
 wpM_of ml_67 (L := [some (.inr (.inr (12, k0, i0))), some (.inl x1), some (.inl x2), some (.inl x3)]) rfl
 (w_aload_n (p' := 1) f_67_0 rfl rfl
 (w_iload_n (p' := 2) f_67_1 rfl rfl
 (w_callV (p' := 5) f_67_2 rfl rfl rfl rfl rfl (r := []) rfl rfl (kI (.inr rk_32) fun r101 s101 h101 =>
 w_if (p' := 43) (q' := 8) f_67_5 rfl rfl
 (fun c105 => w_iconst (p' := 44) f_67_43 rfl
 (w_zret f_67_44 rk_67 (h101.1 c105).1 (h101.1 c105).2))
 (fun c105 => w_iload_n (p' := 9) f_67_8 rfl rfl
 (w_iconst (p' := 10) f_67_9 rfl
 (w_icmp (p' := 43) (q' := 13) f_67_10 rfl rfl
 (fun c104 => w_iconst (p' := 44) f_67_43 rfl
 (w_zret f_67_44 rk_67 ((h101.2 c105).1 c104).1 ((h101.2 c105).1 c104).2))
 (fun c104 => w_aload_n (p' := 14) f_67_13 rfl rfl
 (w_getfield (p' := 17) f_67_14 rfl (x := .inr (.inr (13, k0, 0))) rfl rfl
 (w_iload_n (p' := 18) f_67_17 rfl rfl
 (w_aaload (p' := 19) f_67_18 rfl (n := 10) rfl (x := (14, k0, x1)) rfl ((h101.2 c105).2 c104).1 rfl
 (w_getfield (p' := 22) f_67_19 rfl (x := .inl (s101 14 k0 x1 1)) rfl rfl
 (w_iload_n (p' := 23) f_67_22 rfl rfl
 (w_icmp (p' := 43) (q' := 26) f_67_23 rfl rfl
 (fun c103 => w_iconst (p' := 44) f_67_43 rfl
 (w_zret f_67_44 rk_67 (((h101.2 c105).2 c104).2.1 c103).1 (((h101.2 c105).2 c104).2.1 c103).2))
 (fun c103 => w_aload_n (p' := 27) f_67_26 rfl rfl
 (w_getfield (p' := 30) f_67_27 rfl (x := .inr (.inr (13, k0, 0))) rfl rfl
 (w_iload_n (p' := 31) f_67_30 rfl rfl
 (w_aaload (p' := 32) f_67_31 rfl (n := 10) rfl (x := (14, k0, x1)) rfl (((h101.2 c105).2 c104).2.2 c103).1 rfl
 (w_getfield (p' := 35) f_67_32 rfl (x := .inl (s101 14 k0 x1 2)) rfl rfl
 (w_iload_n (p' := 36) f_67_35 rfl rfl
 (w_icmp (p' := 43) (q' := 39) f_67_36 rfl rfl
 (fun c102 => w_iconst (p' := 44) f_67_43 rfl
 (w_zret f_67_44 rk_67 ((((h101.2 c105).2 c104).2.2 c103).2.1 c102).1 ((((h101.2 c105).2 c104).2.2 c103).2.1 c102).2))
 (fun c102 => w_iconst (p' := 40) f_67_39 rfl
 (w_goto (p' := 44) f_67_40 rfl
 (w_zret f_67_44 rk_67 ((((h101.2 c105).2 c104).2.2 c103).2.2 c102).1 ((((h101.2 c105).2 c104).2.2 c103).2.2 c102).2))))))))))))))))))))) h)))
/-! ClosedRooms$Core.goInside(III)V -/
theorem f_68_0 : fnd 68 0 = some (0, .aload_n 0, 1, 0, 0, 0, 0) := ceB_eq (by decide +kernel)
theorem f_68_1 : fnd 68 1 = some (1, .iload_n 1, 1, 0, 0, 0, 0) := ceB_eq (by decide +kernel)
theorem f_68_2 : fnd 68 2 = some (2, .putfield 15, 3, 8, 1, 1, 0) := ceB_eq (by decide +kernel)
theorem f_68_5 : fnd 68 5 = some (5, .aload_n 0, 1, 0, 0, 0, 0) := ceB_eq (by decide +kernel)
theorem f_68_6 : fnd 68 6 = some (6, .iload_n 2, 1, 0, 0, 0, 0) := ceB_eq (by decide +kernel)
theorem f_68_7 : fnd 68 7 = some (7, .putfield 18, 3, 8, 2, 2, 0) := ceB_eq (by decide +kernel)
theorem f_68_10 : fnd 68 10 = some (10, .aload_n 0, 1, 0, 0, 0, 0) := ceB_eq (by decide +kernel)
theorem f_68_11 : fnd 68 11 = some (11, .iload_n 3, 1, 0, 0, 0, 0) := ceB_eq (by decide +kernel)
theorem f_68_12 : fnd 68 12 = some (12, .putfield 21, 3, 8, 3, 3, 0) := ceB_eq (by decide +kernel)
theorem f_68_15 : fnd 68 15 = some (15, .aload_n 0, 1, 0, 0, 0, 0) := ceB_eq (by decide +kernel)
theorem f_68_16 : fnd 68 16 = some (16, .iconst 0, 1, 0, 0, 0, 0) := ceB_eq (by decide +kernel)
theorem f_68_17 : fnd 68 17 = some (17, .putfield 24, 3, 8, 4, 4, 0) := ceB_eq (by decide +kernel)
theorem f_68_20 : fnd 68 20 = some (20, .return_, 1, 0, 0, 0, 0) := ceB_eq (by decide +kernel)
theorem rk_68 : rkm 68 = 4 := by decide +kernel
theorem ml_68 : (mth 68).2.1 = 4 := by decide +kernel
set_option maxRecDepth 100000 in
theorem T_Core_goInside (k0 i0 x1 x2 x3 : Int) (σ : ST) (Q : Option AV → ST → Prop) (h :
  Q none (up (up (up (up σ 21 k0 i0 1 x1) 21 k0 i0 2 x2) 21 k0 i0 3 x3) 21 k0 i0 4 0)) :
  wpM m_Core_goInside [.inr (.inr (21, k0, i0)), .inl x1, .inl x2, .inl x3] σ Q :=
 wpM_of ml_68 (L := [some (.inr (.inr (21, k0, i0))), some (.inl x1), some (.inl x2), some (.inl x3)]) rfl
 (w_aload_n (p' := 1) f_68_0 rfl rfl
 (w_iload_n (p' := 2) f_68_1 rfl rfl
 (w_putI (p' := 5) f_68_2 rfl rfl (c' := 1) rfl rfl
 (w_aload_n (p' := 6) f_68_5 rfl rfl
 (w_iload_n (p' := 7) f_68_6 rfl rfl
 (w_putI (p' := 10) f_68_7 rfl rfl (c' := 2) rfl rfl
 (w_aload_n (p' := 11) f_68_10 rfl rfl
 (w_iload_n (p' := 12) f_68_11 rfl rfl
 (w_putI (p' := 15) f_68_12 rfl rfl (c' := 3) rfl rfl
 (w_aload_n (p' := 16) f_68_15 rfl rfl
 (w_iconst (p' := 17) f_68_16 rfl
 (w_putI (p' := 20) f_68_17 rfl rfl (c' := 4) rfl rfl
 (w_vret f_68_20 rk_68 h)))))))))))))
/-! ClosedRooms$Acts.goIn(IIII)I -/
theorem f_69_0 : fnd 69 0 = some (0, .aload_n 0, 1, 0, 0, 0, 0) := ceB_eq (by decide +kernel)
theorem f_69_1 : fnd 69 1 = some (1, .getfield 12, 3, 3, 0, 0, 0) := ceB_eq (by decide +kernel)
theorem f_69_4 : fnd 69 4 = some (4, .iload_n 1, 1, 0, 0, 0, 0) := ceB_eq (by decide +kernel)
theorem f_69_5 : fnd 69 5 = some (5, .invokevirtual 175, 3, 40, 2, 4, 0) := ceB_eq (by decide +kernel)
theorem f_69_8 : fnd 69 8 = some (8, .ifCond .eq 14, 3, 0, 0, 0, 0) := ceB_eq (by decide +kernel)
theorem f_69_11 : fnd 69 11 = some (11, .aload_n 0, 1, 0, 0, 0, 0) := ceB_eq (by decide +kernel)
theorem f_69_12 : fnd 69 12 = some (12, .getfield 12, 3, 3, 0, 0, 0) := ceB_eq (by decide +kernel)
theorem f_69_15 : fnd 69 15 = some (15, .iload_n 2, 1, 0, 0, 0, 0) := ceB_eq (by decide +kernel)
theorem f_69_16 : fnd 69 16 = some (16, .invokevirtual 129, 3, 37, 2, 4, 0) := ceB_eq (by decide +kernel)
theorem f_69_19 : fnd 69 19 = some (19, .ifCond .ne 9, 3, 0, 0, 0, 0) := ceB_eq (by decide +kernel)
theorem f_69_22 : fnd 69 22 = some (22, .aload_n 0, 1, 0, 0, 0, 0) := ceB_eq (by decide +kernel)
theorem f_69_23 : fnd 69 23 = some (23, .iconst 0, 1, 0, 0, 0, 0) := ceB_eq (by decide +kernel)
theorem f_69_24 : fnd 69 24 = some (24, .invokevirtual 85, 3, 53, 2, 3, 0) := ceB_eq (by decide +kernel)
theorem f_69_27 : fnd 69 27 = some (27, .ireturn, 1, 0, 0, 0, 0) := ceB_eq (by decide +kernel)
theorem f_69_28 : fnd 69 28 = some (28, .aload_n 0, 1, 0, 0, 0, 0) := ceB_eq (by decide +kernel)
theorem f_69_29 : fnd 69 29 = some (29, .getfield 12, 3, 3, 0, 0, 0) := ceB_eq (by decide +kernel)
theorem f_69_32 : fnd 69 32 = some (32, .getfield 112, 3, 4, 6, 6, 0) := ceB_eq (by decide +kernel)
theorem f_69_35 : fnd 69 35 = some (35, .iload_n 2, 1, 0, 0, 0, 0) := ceB_eq (by decide +kernel)
theorem f_69_36 : fnd 69 36 = some (36, .aaload, 1, 0, 0, 0, 0) := ceB_eq (by decide +kernel)
theorem f_69_37 : fnd 69 37 = some (37, .astore 5, 2, 0, 0, 0, 0) := ceB_eq (by decide +kernel)
theorem f_69_39 : fnd 69 39 = some (39, .aload_n 0, 1, 0, 0, 0, 0) := ceB_eq (by decide +kernel)
theorem f_69_40 : fnd 69 40 = some (40, .getfield 12, 3, 3, 0, 0, 0) := ceB_eq (by decide +kernel)
theorem f_69_43 : fnd 69 43 = some (43, .getfield 178, 3, 4, 7, 7, 0) := ceB_eq (by decide +kernel)
theorem f_69_46 : fnd 69 46 = some (46, .iload_n 1, 1, 0, 0, 0, 0) := ceB_eq (by decide +kernel)
theorem f_69_47 : fnd 69 47 = some (47, .aaload, 1, 0, 0, 0, 0) := ceB_eq (by decide +kernel)
theorem f_69_48 : fnd 69 48 = some (48, .astore 6, 2, 0, 0, 0, 0) := ceB_eq (by decide +kernel)
theorem f_69_50 : fnd 69 50 = some (50, .aload 5, 2, 0, 0, 0, 0) := ceB_eq (by decide +kernel)
theorem f_69_52 : fnd 69 52 = some (52, .iload_n 3, 1, 0, 0, 0, 0) := ceB_eq (by decide +kernel)
theorem f_69_53 : fnd 69 53 = some (53, .invokevirtual 133, 3, 38, 2, 7, 0) := ceB_eq (by decide +kernel)
theorem f_69_56 : fnd 69 56 = some (56, .ifCond .ne 9, 3, 0, 0, 0, 0) := ceB_eq (by decide +kernel)
theorem f_69_59 : fnd 69 59 = some (59, .aload_n 0, 1, 0, 0, 0, 0) := ceB_eq (by decide +kernel)
theorem f_69_60 : fnd 69 60 = some (60, .iconst 1, 1, 0, 0, 0, 0) := ceB_eq (by decide +kernel)
theorem f_69_61 : fnd 69 61 = some (61, .invokevirtual 85, 3, 53, 2, 3, 0) := ceB_eq (by decide +kernel)
theorem f_69_64 : fnd 69 64 = some (64, .ireturn, 1, 0, 0, 0, 0) := ceB_eq (by decide +kernel)
theorem f_69_65 : fnd 69 65 = some (65, .aload 6, 2, 0, 0, 0, 0) := ceB_eq (by decide +kernel)
theorem f_69_67 : fnd 69 67 = some (67, .getfield 182, 3, 8, 1, 1, 0) := ceB_eq (by decide +kernel)
theorem f_69_70 : fnd 69 70 = some (70, .iconst (-1), 1, 0, 0, 0, 0) := ceB_eq (by decide +kernel)
theorem f_69_71 : fnd 69 71 = some (71, .if_icmp .ne 19, 3, 0, 0, 0, 0) := ceB_eq (by decide +kernel)
theorem f_69_74 : fnd 69 74 = some (74, .aload 5, 2, 0, 0, 0, 0) := ceB_eq (by decide +kernel)
theorem f_69_76 : fnd 69 76 = some (76, .getfield 168, 3, 7, 3, 3, 0) := ceB_eq (by decide +kernel)
theorem f_69_79 : fnd 69 79 = some (79, .ifCond .eq 11, 3, 0, 0, 0, 0) := ceB_eq (by decide +kernel)
theorem f_69_82 : fnd 69 82 = some (82, .aload 5, 2, 0, 0, 0, 0) := ceB_eq (by decide +kernel)
theorem f_69_84 : fnd 69 84 = some (84, .getfield 187, 3, 7, 6, 6, 0) := ceB_eq (by decide +kernel)
theorem f_69_87 : fnd 69 87 = some (87, .ifCond .eq 9, 3, 0, 0, 0, 0) := ceB_eq (by decide +kernel)
theorem f_69_90 : fnd 69 90 = some (90, .aload_n 0, 1, 0, 0, 0, 0) := ceB_eq (by decide +kernel)
theorem f_69_91 : fnd 69 91 = some (91, .iconst 2, 1, 0, 0, 0, 0) := ceB_eq (by decide +kernel)
theorem f_69_92 : fnd 69 92 = some (92, .invokevirtual 85, 3, 53, 2, 3, 0) := ceB_eq (by decide +kernel)
theorem f_69_95 : fnd 69 95 = some (95, .ireturn, 1, 0, 0, 0, 0) := ceB_eq (by decide +kernel)
theorem f_69_96 : fnd 69 96 = some (96, .aload 5, 2, 0, 0, 0, 0) := ceB_eq (by decide +kernel)
theorem f_69_98 : fnd 69 98 = some (98, .getfield 190, 3, 7, 8, 8, 0) := ceB_eq (by decide +kernel)
theorem f_69_101 : fnd 69 101 = some (101, .iload_n 3, 1, 0, 0, 0, 0) := ceB_eq (by decide +kernel)
theorem f_69_102 : fnd 69 102 = some (102, .iaload, 1, 0, 0, 0, 0) := ceB_eq (by decide +kernel)
theorem f_69_103 : fnd 69 103 = some (103, .istore 7, 2, 0, 0, 0, 0) := ceB_eq (by decide +kernel)
theorem f_69_105 : fnd 69 105 = some (105, .aload_n 0, 1, 0, 0, 0, 0) := ceB_eq (by decide +kernel)
theorem f_69_106 : fnd 69 106 = some (106, .getfield 12, 3, 3, 0, 0, 0) := ceB_eq (by decide +kernel)
theorem f_69_109 : fnd 69 109 = some (109, .iload 7, 2, 0, 0, 0, 0) := ceB_eq (by decide +kernel)
theorem f_69_111 : fnd 69 111 = some (111, .iload_n 2, 1, 0, 0, 0, 0) := ceB_eq (by decide +kernel)
theorem f_69_112 : fnd 69 112 = some (112, .iload_n 3, 1, 0, 0, 0, 0) := ceB_eq (by decide +kernel)
theorem f_69_113 : fnd 69 113 = some (113, .invokevirtual 193, 3, 67, 4, 4, 0) := ceB_eq (by decide +kernel)
theorem f_69_116 : fnd 69 116 = some (116, .ifCond .ne 9, 3, 0, 0, 0, 0) := ceB_eq (by decide +kernel)
theorem f_69_119 : fnd 69 119 = some (119, .aload_n 0, 1, 0, 0, 0, 0) := ceB_eq (by decide +kernel)
theorem f_69_120 : fnd 69 120 = some (120, .iconst 4, 1, 0, 0, 0, 0) := ceB_eq (by decide +kernel)
theorem f_69_121 : fnd 69 121 = some (121, .invokevirtual 85, 3, 53, 2, 3, 0) := ceB_eq (by decide +kernel)
theorem f_69_124 : fnd 69 124 = some (124, .ireturn, 1, 0, 0, 0, 0) := ceB_eq (by decide +kernel)
theorem f_69_125 : fnd 69 125 = some (125, .aload_n 0, 1, 0, 0, 0, 0) := ceB_eq (by decide +kernel)
theorem f_69_126 : fnd 69 126 = some (126, .getfield 12, 3, 3, 0, 0, 0) := ceB_eq (by decide +kernel)
theorem f_69_129 : fnd 69 129 = some (129, .getfield 122, 3, 4, 5, 5, 0) := ceB_eq (by decide +kernel)
theorem f_69_132 : fnd 69 132 = some (132, .iload 7, 2, 0, 0, 0, 0) := ceB_eq (by decide +kernel)
theorem f_69_134 : fnd 69 134 = some (134, .aaload, 1, 0, 0, 0, 0) := ceB_eq (by decide +kernel)
theorem f_69_135 : fnd 69 135 = some (135, .astore 8, 2, 0, 0, 0, 0) := ceB_eq (by decide +kernel)
theorem f_69_137 : fnd 69 137 = some (137, .aload 8, 2, 0, 0, 0, 0) := ceB_eq (by decide +kernel)
theorem f_69_139 : fnd 69 139 = some (139, .getfield 197, 3, 6, 0, 0, 0) := ceB_eq (by decide +kernel)
theorem f_69_142 : fnd 69 142 = some (142, .iconst 3, 1, 0, 0, 0, 0) := ceB_eq (by decide +kernel)
theorem f_69_143 : fnd 69 143 = some (143, .if_icmp .ne 13, 3, 0, 0, 0, 0) := ceB_eq (by decide +kernel)
theorem f_69_146 : fnd 69 146 = some (146, .aload 8, 2, 0, 0, 0, 0) := ceB_eq (by decide +kernel)
theorem f_69_148 : fnd 69 148 = some (148, .getfield 200, 3, 6, 7, 7, 0) := ceB_eq (by decide +kernel)
theorem f_69_151 : fnd 69 151 = some (151, .iload 4, 2, 0, 0, 0, 0) := ceB_eq (by decide +kernel)
theorem f_69_153 : fnd 69 153 = some (153, .if_icmp .eq 9, 3, 0, 0, 0, 0) := ceB_eq (by decide +kernel)
theorem f_69_156 : fnd 69 156 = some (156, .aload_n 0, 1, 0, 0, 0, 0) := ceB_eq (by decide +kernel)
theorem f_69_157 : fnd 69 157 = some (157, .iconst 2, 1, 0, 0, 0, 0) := ceB_eq (by decide +kernel)
theorem f_69_158 : fnd 69 158 = some (158, .invokevirtual 85, 3, 53, 2, 3, 0) := ceB_eq (by decide +kernel)
theorem f_69_161 : fnd 69 161 = some (161, .ireturn, 1, 0, 0, 0, 0) := ceB_eq (by decide +kernel)
theorem f_69_162 : fnd 69 162 = some (162, .aload 8, 2, 0, 0, 0, 0) := ceB_eq (by decide +kernel)
theorem f_69_164 : fnd 69 164 = some (164, .getfield 203, 3, 6, 5, 5, 0) := ceB_eq (by decide +kernel)
theorem f_69_167 : fnd 69 167 = some (167, .ifCond .eq 9, 3, 0, 0, 0, 0) := ceB_eq (by decide +kernel)
theorem f_69_170 : fnd 69 170 = some (170, .aload_n 0, 1, 0, 0, 0, 0) := ceB_eq (by decide +kernel)
theorem f_69_171 : fnd 69 171 = some (171, .iconst 4, 1, 0, 0, 0, 0) := ceB_eq (by decide +kernel)
theorem f_69_172 : fnd 69 172 = some (172, .invokevirtual 85, 3, 53, 2, 3, 0) := ceB_eq (by decide +kernel)
theorem f_69_175 : fnd 69 175 = some (175, .ireturn, 1, 0, 0, 0, 0) := ceB_eq (by decide +kernel)
theorem f_69_176 : fnd 69 176 = some (176, .aload 8, 2, 0, 0, 0, 0) := ceB_eq (by decide +kernel)
theorem f_69_178 : fnd 69 178 = some (178, .iconst 1, 1, 0, 0, 0, 0) := ceB_eq (by decide +kernel)
theorem f_69_179 : fnd 69 179 = some (179, .putfield 200, 3, 6, 7, 7, 0) := ceB_eq (by decide +kernel)
theorem f_69_182 : fnd 69 182 = some (182, .aload 6, 2, 0, 0, 0, 0) := ceB_eq (by decide +kernel)
theorem f_69_184 : fnd 69 184 = some (184, .iload_n 2, 1, 0, 0, 0, 0) := ceB_eq (by decide +kernel)
theorem f_69_185 : fnd 69 185 = some (185, .iload 7, 2, 0, 0, 0, 0) := ceB_eq (by decide +kernel)
theorem f_69_187 : fnd 69 187 = some (187, .aload 5, 2, 0, 0, 0, 0) := ceB_eq (by decide +kernel)
theorem f_69_189 : fnd 69 189 = some (189, .getfield 206, 3, 7, 5, 5, 0) := ceB_eq (by decide +kernel)
theorem f_69_192 : fnd 69 192 = some (192, .invokevirtual 209, 3, 68, 4, 8, 0) := ceB_eq (by decide +kernel)
theorem f_69_195 : fnd 69 195 = some (195, .iload 4, 2, 0, 0, 0, 0) := ceB_eq (by decide +kernel)
theorem f_69_197 : fnd 69 197 = some (197, .ifCond .ne 6, 3, 0, 0, 0, 0) := ceB_eq (by decide +kernel)
theorem f_69_200 : fnd 69 200 = some (200, .iload 7, 2, 0, 0, 0, 0) := ceB_eq (by decide +kernel)
theorem f_69_202 : fnd 69 202 = some (202, .ireturn, 1, 0, 0, 0, 0) := ceB_eq (by decide +kernel)
theorem f_69_203 : fnd 69 203 = some (203, .aload 6, 2, 0, 0, 0, 0) := ceB_eq (by decide +kernel)
theorem f_69_205 : fnd 69 205 = some (205, .aload 8, 2, 0, 0, 0, 0) := ceB_eq (by decide +kernel)
theorem f_69_207 : fnd 69 207 = some (207, .getfield 150, 3, 6, 4, 4, 0) := ceB_eq (by decide +kernel)
theorem f_69_210 : fnd 69 210 = some (210, .putfield 213, 3, 8, 0, 0, 0) := ceB_eq (by decide +kernel)
theorem f_69_213 : fnd 69 213 = some (213, .aload 8, 2, 0, 0, 0, 0) := ceB_eq (by decide +kernel)
theorem f_69_215 : fnd 69 215 = some (215, .iconst 0, 1, 0, 0, 0, 0) := ceB_eq (by decide +kernel)
theorem f_69_216 : fnd 69 216 = some (216, .putfield 150, 3, 6, 4, 4, 0) := ceB_eq (by decide +kernel)
theorem f_69_219 : fnd 69 219 = some (219, .aload 6, 2, 0, 0, 0, 0) := ceB_eq (by decide +kernel)
theorem f_69_221 : fnd 69 221 = some (221, .getfield 213, 3, 8, 0, 0, 0) := ceB_eq (by decide +kernel)
theorem f_69_224 : fnd 69 224 = some (224, .ireturn, 1, 0, 0, 0, 0) := ceB_eq (by decide +kernel)
theorem rk_69 : rkm 69 = 0 := by decide +kernel
theorem ml_69 : (mth 69).2.1 = 9 := by decide +kernel
set_option maxRecDepth 100000 in
theorem T_Acts_goIn (k0 i0 x1 x2 x3 x4 : Int) (σ : ST) (Q : Option AV → ST → Prop) (h :
  wpM m_World_isCore [.inr (.inr (12, k0, 0)), .inl x1] σ (asI fun r101 s101 =>
  (((r101 = 0 : Prop) →
    wpM m_Acts_refuse [.inr (.inr (11, k0, i0)), .inl 0] s101 (asI fun r102 s102 =>
    Q (some (.inl r102)) s102)) ∧
  (¬ (r101 = 0) →
    wpM m_World_isRoom [.inr (.inr (12, k0, 0)), .inl x2] s101 (asI fun r103 s103 =>
    (((r103 ≠ 0 : Prop) →
      ((0 : Int) ≤ x2 ∧ (x2 : Int) < 4) ∧
      ((0 : Int) ≤ x1 ∧ (x1 : Int) < 3) ∧
      wpM m_Room_hasAddress [.inr (.inr (17, k0, x2)), .inl x3] s103 (asI fun r104 s104 =>
      (((r104 ≠ 0 : Prop) →
        ((((s104 21 k0 x1 1) ≠ (-1) : Prop) →
          wpM m_Acts_refuse [.inr (.inr (11, k0, i0)), .inl 2] s104 (asI fun r105 s105 =>
          Q (some (.inl r105)) s105)) ∧
        (¬ ((s104 21 k0 x1 1) ≠ (-1)) →
          ((((bz (s104 17 k0 x2 3)) = 0 : Prop) →
            wpM m_Acts_refuse [.inr (.inr (11, k0, i0)), .inl 2] s104 (asI fun r106 s106 =>
            Q (some (.inl r106)) s106)) ∧
          (¬ ((bz (s104 17 k0 x2 3)) = 0) →
            ((((bz (s104 17 k0 x2 6)) = 0 : Prop) →
              ((0 : Int) ≤ x3 ∧ (x3 : Int) < 8) ∧
              wpM m_World_isPageOf [.inr (.inr (12, k0, 0)), .inl (s104 19 k0 x2 x3), .inl x2, .inl x3] s104 (asI fun r107 s107 =>
              (((r107 ≠ 0 : Prop) →
                ((0 : Int) ≤ (s104 19 k0 x2 x3) ∧ ((s104 19 k0 x2 x3) : Int) < 10) ∧
                ((((s107 14 k0 (s104 19 k0 x2 x3) 0) ≠ 3 : Prop) →
                  wpM m_Acts_refuse [.inr (.inr (11, k0, i0)), .inl 2] s107 (asI fun r108 s108 =>
                  Q (some (.inl r108)) s108)) ∧
                (¬ ((s107 14 k0 (s104 19 k0 x2 x3) 0) ≠ 3) →
                  ((((s107 14 k0 (s104 19 k0 x2 x3) 7) = x4 : Prop) →
                    ((((bz (s107 14 k0 (s104 19 k0 x2 x3) 5)) = 0 : Prop) →
                      wpM m_Core_goInside [.inr (.inr (21, k0, x1)), .inl x2, .inl (s104 19 k0 x2 x3), .inl ((up s107 14 k0 (s104 19 k0 x2 x3) 7 1) 17 k0 x2 5)] (up s107 14 k0 (s104 19 k0 x2 x3) 7 1) (asV fun s109 =>
                      (((x4 ≠ 0 : Prop) →
                        Q (some (.inl ((up (up s109 21 k0 x1 0 (s109 14 k0 (s104 19 k0 x2 x3) 4)) 14 k0 (s104 19 k0 x2 x3) 4 0) 21 k0 x1 0))) (up (up s109 21 k0 x1 0 (s109 14 k0 (s104 19 k0 x2 x3) 4)) 14 k0 (s104 19 k0 x2 x3) 4 0)) ∧
                      (¬ (x4 ≠ 0) →
                        Q (some (.inl (s104 19 k0 x2 x3))) s109)))) ∧
                    (¬ ((bz (s107 14 k0 (s104 19 k0 x2 x3) 5)) = 0) →
                      wpM m_Acts_refuse [.inr (.inr (11, k0, i0)), .inl 4] s107 (asI fun r111 s111 =>
                      Q (some (.inl r111)) s111)))) ∧
                  (¬ ((s107 14 k0 (s104 19 k0 x2 x3) 7) = x4) →
                    wpM m_Acts_refuse [.inr (.inr (11, k0, i0)), .inl 2] s107 (asI fun r113 s113 =>
                    Q (some (.inl r113)) s113)))))) ∧
              (¬ (r107 ≠ 0) →
                wpM m_Acts_refuse [.inr (.inr (11, k0, i0)), .inl 4] s107 (asI fun r116 s116 =>
                Q (some (.inl r116)) s116))))) ∧
            (¬ ((bz (s104 17 k0 x2 6)) = 0) →
              wpM m_Acts_refuse [.inr (.inr (11, k0, i0)), .inl 2] s104 (asI fun r118 s118 =>
              Q (some (.inl r118)) s118)))))))) ∧
      (¬ (r104 ≠ 0) →
        wpM m_Acts_refuse [.inr (.inr (11, k0, i0)), .inl 1] s104 (asI fun r122 s122 =>
        Q (some (.inl r122)) s122))))) ∧
    (¬ (r103 ≠ 0) →
      wpM m_Acts_refuse [.inr (.inr (11, k0, i0)), .inl 0] s103 (asI fun r124 s124 =>
      Q (some (.inl r124)) s124)))))))) :
  wpM m_Acts_goIn [.inr (.inr (11, k0, i0)), .inl x1, .inl x2, .inl x3, .inl x4] σ Q :=
 wpM_of ml_69 (L := [some (.inr (.inr (11, k0, i0))), some (.inl x1), some (.inl x2), some (.inl x3), some (.inl x4), none, none, none, none]) rfl
 (w_aload_n (p' := 1) f_69_0 rfl rfl
 (w_getfield (p' := 4) f_69_1 rfl (x := .inr (.inr (12, k0, 0))) rfl rfl
 (w_iload_n (p' := 5) f_69_4 rfl rfl
 (w_callV (p' := 8) f_69_5 rfl rfl rfl rfl rfl (r := []) rfl rfl (kI (.inr rk_40) fun r101 s101 h101 =>
 w_if (p' := 22) (q' := 11) f_69_8 rfl rfl
 (fun c126 => w_aload_n (p' := 23) f_69_22 rfl rfl
 (w_iconst (p' := 24) f_69_23 rfl
 (w_callV (p' := 27) f_69_24 rfl rfl rfl rfl rfl (r := []) rfl rfl (kI (.inl rk_53) fun r102 s102 h102 =>
 w_iret f_69_27 rk_69 h102) (h101.1 c126))))
 (fun c126 => w_aload_n (p' := 12) f_69_11 rfl rfl
 (w_getfield (p' := 15) f_69_12 rfl (x := .inr (.inr (12, k0, 0))) rfl rfl
 (w_iload_n (p' := 16) f_69_15 rfl rfl
 (w_callV (p' := 19) f_69_16 rfl rfl rfl rfl rfl (r := []) rfl rfl (kI (.inr rk_37) fun r103 s103 h103 =>
 w_if (p' := 28) (q' := 22) f_69_19 rfl rfl
 (fun c125 => w_aload_n (p' := 29) f_69_28 rfl rfl
 (w_getfield (p' := 32) f_69_29 rfl (x := .inr (.inr (12, k0, 0))) rfl rfl
 (w_getfield (p' := 35) f_69_32 rfl (x := .inr (.inr (16, k0, 0))) rfl rfl
 (w_iload_n (p' := 36) f_69_35 rfl rfl
 (w_aaload (p' := 37) f_69_36 rfl (n := 4) rfl (x := (17, k0, x2)) rfl (h103.1 c125).1 rfl
 (w_astore (p' := 39) f_69_37 (L' := [some (.inr (.inr (11, k0, i0))), some (.inl x1), some (.inl x2), some (.inl x3), some (.inl x4), some (.inr (.inr (17, k0, x2))), none, none, none]) rfl rfl
 (w_aload_n (p' := 40) f_69_39 rfl rfl
 (w_getfield (p' := 43) f_69_40 rfl (x := .inr (.inr (12, k0, 0))) rfl rfl
 (w_getfield (p' := 46) f_69_43 rfl (x := .inr (.inr (20, k0, 0))) rfl rfl
 (w_iload_n (p' := 47) f_69_46 rfl rfl
 (w_aaload (p' := 48) f_69_47 rfl (n := 3) rfl (x := (21, k0, x1)) rfl (h103.1 c125).2.1 rfl
 (w_astore (p' := 50) f_69_48 (L' := [some (.inr (.inr (11, k0, i0))), some (.inl x1), some (.inl x2), some (.inl x3), some (.inl x4), some (.inr (.inr (17, k0, x2))), some (.inr (.inr (21, k0, x1))), none, none]) rfl rfl
 (w_aload (p' := 52) f_69_50 rfl rfl
 (w_iload_n (p' := 53) f_69_52 rfl rfl
 (w_callV (p' := 56) f_69_53 rfl rfl rfl rfl rfl (r := []) rfl rfl (kI (.inr rk_38) fun r104 s104 h104 =>
 w_if (p' := 65) (q' := 59) f_69_56 rfl rfl
 (fun c123 => w_aload (p' := 67) f_69_65 rfl rfl
 (w_getfield (p' := 70) f_69_67 rfl (x := .inl (s104 21 k0 x1 1)) rfl rfl
 (w_iconst (p' := 71) f_69_70 rfl
 (w_icmp (p' := 90) (q' := 74) f_69_71 rfl rfl
 (fun c121 => w_aload_n (p' := 91) f_69_90 rfl rfl
 (w_iconst (p' := 92) f_69_91 rfl
 (w_callV (p' := 95) f_69_92 rfl rfl rfl rfl rfl (r := []) rfl rfl (kI (.inl rk_53) fun r105 s105 h105 =>
 w_iret f_69_95 rk_69 h105) ((h104.1 c123).1 c121))))
 (fun c121 => w_aload (p' := 76) f_69_74 rfl rfl
 (w_getfield (p' := 79) f_69_76 rfl (x := .inl (bz (s104 17 k0 x2 3))) rfl rfl
 (w_if (p' := 90) (q' := 82) f_69_79 rfl rfl
 (fun c120 => w_aload_n (p' := 91) f_69_90 rfl rfl
 (w_iconst (p' := 92) f_69_91 rfl
 (w_callV (p' := 95) f_69_92 rfl rfl rfl rfl rfl (r := []) rfl rfl (kI (.inl rk_53) fun r106 s106 h106 =>
 w_iret f_69_95 rk_69 h106) (((h104.1 c123).2 c121).1 c120))))
 (fun c120 => w_aload (p' := 84) f_69_82 rfl rfl
 (w_getfield (p' := 87) f_69_84 rfl (x := .inl (bz (s104 17 k0 x2 6))) rfl rfl
 (w_if (p' := 96) (q' := 90) f_69_87 rfl rfl
 (fun c119 => w_aload (p' := 98) f_69_96 rfl rfl
 (w_getfield (p' := 101) f_69_98 rfl (x := .inr (.inr (19, k0, x2))) rfl rfl
 (w_iload_n (p' := 102) f_69_101 rfl rfl
 (w_iaload (p' := 103) f_69_102 rfl (n := 8) rfl ((((h104.1 c123).2 c121).2 c120).1 c119).1 rfl
 (w_istore (p' := 105) f_69_103 (L' := [some (.inr (.inr (11, k0, i0))), some (.inl x1), some (.inl x2), some (.inl x3), some (.inl x4), some (.inr (.inr (17, k0, x2))), some (.inr (.inr (21, k0, x1))), some (.inl (s104 19 k0 x2 x3)), none]) rfl rfl
 (w_aload_n (p' := 106) f_69_105 rfl rfl
 (w_getfield (p' := 109) f_69_106 rfl (x := .inr (.inr (12, k0, 0))) rfl rfl
 (w_iload (p' := 111) f_69_109 rfl rfl
 (w_iload_n (p' := 112) f_69_111 rfl rfl
 (w_iload_n (p' := 113) f_69_112 rfl rfl
 (w_callV (p' := 116) f_69_113 rfl rfl rfl rfl rfl (r := []) rfl rfl (kI (.inr rk_67) fun r107 s107 h107 =>
 w_if (p' := 125) (q' := 119) f_69_116 rfl rfl
 (fun c117 => w_aload_n (p' := 126) f_69_125 rfl rfl
 (w_getfield (p' := 129) f_69_126 rfl (x := .inr (.inr (12, k0, 0))) rfl rfl
 (w_getfield (p' := 132) f_69_129 rfl (x := .inr (.inr (13, k0, 0))) rfl rfl
 (w_iload (p' := 134) f_69_132 rfl rfl
 (w_aaload (p' := 135) f_69_134 rfl (n := 10) rfl (x := (14, k0, (s104 19 k0 x2 x3))) rfl (h107.1 c117).1 rfl
 (w_astore (p' := 137) f_69_135 (L' := [some (.inr (.inr (11, k0, i0))), some (.inl x1), some (.inl x2), some (.inl x3), some (.inl x4), some (.inr (.inr (17, k0, x2))), some (.inr (.inr (21, k0, x1))), some (.inl (s104 19 k0 x2 x3)), some (.inr (.inr (14, k0, (s104 19 k0 x2 x3))))]) rfl rfl
 (w_aload (p' := 139) f_69_137 rfl rfl
 (w_getfield (p' := 142) f_69_139 rfl (x := .inl (s107 14 k0 (s104 19 k0 x2 x3) 0)) rfl rfl
 (w_iconst (p' := 143) f_69_142 rfl
 (w_icmp (p' := 156) (q' := 146) f_69_143 rfl rfl
 (fun c115 => w_aload_n (p' := 157) f_69_156 rfl rfl
 (w_iconst (p' := 158) f_69_157 rfl
 (w_callV (p' := 161) f_69_158 rfl rfl rfl rfl rfl (r := []) rfl rfl (kI (.inl rk_53) fun r108 s108 h108 =>
 w_iret f_69_161 rk_69 h108) ((h107.1 c117).2.1 c115))))
 (fun c115 => w_aload (p' := 148) f_69_146 rfl rfl
 (w_getfield (p' := 151) f_69_148 rfl (x := .inl (s107 14 k0 (s104 19 k0 x2 x3) 7)) rfl rfl
 (w_iload (p' := 153) f_69_151 rfl rfl
 (w_icmp (p' := 162) (q' := 156) f_69_153 rfl rfl
 (fun c114 => w_aload (p' := 164) f_69_162 rfl rfl
 (w_getfield (p' := 167) f_69_164 rfl (x := .inl (bz (s107 14 k0 (s104 19 k0 x2 x3) 5))) rfl rfl
 (w_if (p' := 176) (q' := 170) f_69_167 rfl rfl
 (fun c112 => w_aload (p' := 178) f_69_176 rfl rfl
 (w_iconst (p' := 179) f_69_178 rfl
 (w_putI (p' := 182) f_69_179 rfl rfl (c' := 7) rfl rfl
 (w_aload (p' := 184) f_69_182 rfl rfl
 (w_iload_n (p' := 185) f_69_184 rfl rfl
 (w_iload (p' := 187) f_69_185 rfl rfl
 (w_aload (p' := 189) f_69_187 rfl rfl
 (w_getfield (p' := 192) f_69_189 rfl (x := .inl ((up s107 14 k0 (s104 19 k0 x2 x3) 7 1) 17 k0 x2 5)) rfl rfl
 (w_callV (p' := 195) f_69_192 rfl rfl rfl rfl rfl (r := []) rfl rfl (kV rk_68 fun s109 h109 =>
 w_iload (p' := 197) f_69_195 rfl rfl
 (w_if (p' := 203) (q' := 200) f_69_197 rfl rfl
 (fun c110 => w_aload (p' := 205) f_69_203 rfl rfl
 (w_aload (p' := 207) f_69_205 rfl rfl
 (w_getfield (p' := 210) f_69_207 rfl (x := .inl (s109 14 k0 (s104 19 k0 x2 x3) 4)) rfl rfl
 (w_putI (p' := 213) f_69_210 rfl rfl (c' := 0) rfl rfl
 (w_aload (p' := 215) f_69_213 rfl rfl
 (w_iconst (p' := 216) f_69_215 rfl
 (w_putI (p' := 219) f_69_216 rfl rfl (c' := 4) rfl rfl
 (w_aload (p' := 221) f_69_219 rfl rfl
 (w_getfield (p' := 224) f_69_221 rfl (x := .inl ((up (up s109 21 k0 x1 0 (s109 14 k0 (s104 19 k0 x2 x3) 4)) 14 k0 (s104 19 k0 x2 x3) 4 0) 21 k0 x1 0)) rfl rfl
 (w_iret f_69_224 rk_69 (h109.1 c110)))))))))))
 (fun c110 => w_iload (p' := 202) f_69_200 rfl rfl
 (w_iret f_69_202 rk_69 (h109.2 c110))))) ((((h107.1 c117).2.2 c115).1 c114).1 c112))))))))))
 (fun c112 => w_aload_n (p' := 171) f_69_170 rfl rfl
 (w_iconst (p' := 172) f_69_171 rfl
 (w_callV (p' := 175) f_69_172 rfl rfl rfl rfl rfl (r := []) rfl rfl (kI (.inl rk_53) fun r111 s111 h111 =>
 w_iret f_69_175 rk_69 h111) ((((h107.1 c117).2.2 c115).1 c114).2 c112)))))))
 (fun c114 => w_aload_n (p' := 157) f_69_156 rfl rfl
 (w_iconst (p' := 158) f_69_157 rfl
 (w_callV (p' := 161) f_69_158 rfl rfl rfl rfl rfl (r := []) rfl rfl (kI (.inl rk_53) fun r113 s113 h113 =>
 w_iret f_69_161 rk_69 h113) (((h107.1 c117).2.2 c115).2 c114))))))))))))))))))
 (fun c117 => w_aload_n (p' := 120) f_69_119 rfl rfl
 (w_iconst (p' := 121) f_69_120 rfl
 (w_callV (p' := 124) f_69_121 rfl rfl rfl rfl rfl (r := []) rfl rfl (kI (.inl rk_53) fun r116 s116 h116 =>
 w_iret f_69_124 rk_69 h116) (h107.2 c117))))) ((((h104.1 c123).2 c121).2 c120).1 c119).2)))))))))))
 (fun c119 => w_aload_n (p' := 91) f_69_90 rfl rfl
 (w_iconst (p' := 92) f_69_91 rfl
 (w_callV (p' := 95) f_69_92 rfl rfl rfl rfl rfl (r := []) rfl rfl (kI (.inl rk_53) fun r118 s118 h118 =>
 w_iret f_69_95 rk_69 h118) ((((h104.1 c123).2 c121).2 c120).2 c119))))))))))))))
 (fun c123 => w_aload_n (p' := 60) f_69_59 rfl rfl
 (w_iconst (p' := 61) f_69_60 rfl
 (w_callV (p' := 64) f_69_61 rfl rfl rfl rfl rfl (r := []) rfl rfl (kI (.inl rk_53) fun r122 s122 h122 =>
 w_iret f_69_64 rk_69 h122) (h104.2 c123))))) (h103.1 c125).2.2)))))))))))))))
 (fun c125 => w_aload_n (p' := 23) f_69_22 rfl rfl
 (w_iconst (p' := 24) f_69_23 rfl
 (w_callV (p' := 27) f_69_24 rfl rfl rfl rfl rfl (r := []) rfl rfl (kI (.inl rk_53) fun r124 s124 h124 =>
 w_iret f_69_27 rk_69 h124) (h103.2 c125))))) (h101.2 c126)))))) h))))
/-! ClosedRooms$World.isInside(I)Z -/
theorem f_70_0 : fnd 70 0 = some (0, .aload_n 0, 1, 0, 0, 0, 0) := ceB_eq (by decide +kernel)
theorem f_70_1 : fnd 70 1 = some (1, .iload_n 1, 1, 0, 0, 0, 0) := ceB_eq (by decide +kernel)
theorem f_70_2 : fnd 70 2 = some (2, .invokevirtual 103, 3, 40, 2, 4, 0) := ceB_eq (by decide +kernel)
theorem f_70_5 : fnd 70 5 = some (5, .ifCond .eq 23, 3, 0, 0, 0, 0) := ceB_eq (by decide +kernel)
theorem f_70_8 : fnd 70 8 = some (8, .aload_n 0, 1, 0, 0, 0, 0) := ceB_eq (by decide +kernel)
theorem f_70_9 : fnd 70 9 = some (9, .aload_n 0, 1, 0, 0, 0, 0) := ceB_eq (by decide +kernel)
theorem f_70_10 : fnd 70 10 = some (10, .getfield 41, 3, 4, 7, 7, 0) := ceB_eq (by decide +kernel)
theorem f_70_13 : fnd 70 13 = some (13, .iload_n 1, 1, 0, 0, 0, 0) := ceB_eq (by decide +kernel)
theorem f_70_14 : fnd 70 14 = some (14, .aaload, 1, 0, 0, 0, 0) := ceB_eq (by decide +kernel)
theorem f_70_15 : fnd 70 15 = some (15, .getfield 106, 3, 8, 1, 1, 0) := ceB_eq (by decide +kernel)
theorem f_70_18 : fnd 70 18 = some (18, .invokevirtual 107, 3, 37, 2, 4, 0) := ceB_eq (by decide +kernel)
theorem f_70_21 : fnd 70 21 = some (21, .ifCond .eq 7, 3, 0, 0, 0, 0) := ceB_eq (by decide +kernel)
theorem f_70_24 : fnd 70 24 = some (24, .iconst 1, 1, 0, 0, 0, 0) := ceB_eq (by decide +kernel)
theorem f_70_25 : fnd 70 25 = some (25, .goto 4, 3, 0, 0, 0, 0) := ceB_eq (by decide +kernel)
theorem f_70_28 : fnd 70 28 = some (28, .iconst 0, 1, 0, 0, 0, 0) := ceB_eq (by decide +kernel)
theorem f_70_29 : fnd 70 29 = some (29, .ireturn, 1, 0, 0, 0, 0) := ceB_eq (by decide +kernel)
theorem rk_70 : rkm 70 = 1 := by decide +kernel
theorem ml_70 : (mth 70).2.1 = 2 := by decide +kernel
set_option maxRecDepth 100000 in
theorem T_World_isInside (k0 i0 x1 : Int) (σ : ST) (Q : Option AV → ST → Prop) (h :
  wpM m_World_isCore [.inr (.inr (12, k0, i0)), .inl x1] σ (asI fun r101 s101 =>
  (((r101 = 0 : Prop) →
    ((0 : Int) = 0 ∨ (0 : Int) = 1) ∧ Q (some (.inl 0)) s101) ∧
  (¬ (r101 = 0) →
    ((0 : Int) ≤ x1 ∧ (x1 : Int) < 3) ∧
    wpM m_World_isRoom [.inr (.inr (12, k0, i0)), .inl (s101 21 k0 x1 1)] s101 (asI fun r102 s102 =>
    (((r102 = 0 : Prop) →
      ((0 : Int) = 0 ∨ (0 : Int) = 1) ∧ Q (some (.inl 0)) s102) ∧
    (¬ (r102 = 0) →
      ((1 : Int) = 0 ∨ (1 : Int) = 1) ∧ Q (some (.inl 1)) s102))))))) :
  wpM m_World_isInside [.inr (.inr (12, k0, i0)), .inl x1] σ Q :=
 wpM_of ml_70 (L := [some (.inr (.inr (12, k0, i0))), some (.inl x1)]) rfl
 (w_aload_n (p' := 1) f_70_0 rfl rfl
 (w_iload_n (p' := 2) f_70_1 rfl rfl
 (w_callV (p' := 5) f_70_2 rfl rfl rfl rfl rfl (r := []) rfl rfl (kI (.inr rk_40) fun r101 s101 h101 =>
 w_if (p' := 28) (q' := 8) f_70_5 rfl rfl
 (fun c104 => w_iconst (p' := 29) f_70_28 rfl
 (w_zret f_70_29 rk_70 (h101.1 c104).1 (h101.1 c104).2))
 (fun c104 => w_aload_n (p' := 9) f_70_8 rfl rfl
 (w_aload_n (p' := 10) f_70_9 rfl rfl
 (w_getfield (p' := 13) f_70_10 rfl (x := .inr (.inr (20, k0, 0))) rfl rfl
 (w_iload_n (p' := 14) f_70_13 rfl rfl
 (w_aaload (p' := 15) f_70_14 rfl (n := 3) rfl (x := (21, k0, x1)) rfl (h101.2 c104).1 rfl
 (w_getfield (p' := 18) f_70_15 rfl (x := .inl (s101 21 k0 x1 1)) rfl rfl
 (w_callV (p' := 21) f_70_18 rfl rfl rfl rfl rfl (r := []) rfl rfl (kI (.inr rk_37) fun r102 s102 h102 =>
 w_if (p' := 28) (q' := 24) f_70_21 rfl rfl
 (fun c103 => w_iconst (p' := 29) f_70_28 rfl
 (w_zret f_70_29 rk_70 (h102.1 c103).1 (h102.1 c103).2))
 (fun c103 => w_iconst (p' := 25) f_70_24 rfl
 (w_goto (p' := 29) f_70_25 rfl
 (w_zret f_70_29 rk_70 (h102.2 c103).1 (h102.2 c103).2)))) (h101.2 c104).2)))))))) h)))
/-! ClosedRooms$Acts.goOut(I)I -/
theorem f_71_0 : fnd 71 0 = some (0, .aload_n 0, 1, 0, 0, 0, 0) := ceB_eq (by decide +kernel)
theorem f_71_1 : fnd 71 1 = some (1, .getfield 12, 3, 3, 0, 0, 0) := ceB_eq (by decide +kernel)
theorem f_71_4 : fnd 71 4 = some (4, .iload_n 1, 1, 0, 0, 0, 0) := ceB_eq (by decide +kernel)
theorem f_71_5 : fnd 71 5 = some (5, .invokevirtual 175, 3, 40, 2, 4, 0) := ceB_eq (by decide +kernel)
theorem f_71_8 : fnd 71 8 = some (8, .ifCond .ne 9, 3, 0, 0, 0, 0) := ceB_eq (by decide +kernel)
theorem f_71_11 : fnd 71 11 = some (11, .aload_n 0, 1, 0, 0, 0, 0) := ceB_eq (by decide +kernel)
theorem f_71_12 : fnd 71 12 = some (12, .iconst 0, 1, 0, 0, 0, 0) := ceB_eq (by decide +kernel)
theorem f_71_13 : fnd 71 13 = some (13, .invokevirtual 85, 3, 53, 2, 3, 0) := ceB_eq (by decide +kernel)
theorem f_71_16 : fnd 71 16 = some (16, .ireturn, 1, 0, 0, 0, 0) := ceB_eq (by decide +kernel)
theorem f_71_17 : fnd 71 17 = some (17, .aload_n 0, 1, 0, 0, 0, 0) := ceB_eq (by decide +kernel)
theorem f_71_18 : fnd 71 18 = some (18, .getfield 12, 3, 3, 0, 0, 0) := ceB_eq (by decide +kernel)
theorem f_71_21 : fnd 71 21 = some (21, .iload_n 1, 1, 0, 0, 0, 0) := ceB_eq (by decide +kernel)
theorem f_71_22 : fnd 71 22 = some (22, .invokevirtual 216, 3, 70, 2, 4, 0) := ceB_eq (by decide +kernel)
theorem f_71_25 : fnd 71 25 = some (25, .ifCond .ne 9, 3, 0, 0, 0, 0) := ceB_eq (by decide +kernel)
theorem f_71_28 : fnd 71 28 = some (28, .aload_n 0, 1, 0, 0, 0, 0) := ceB_eq (by decide +kernel)
theorem f_71_29 : fnd 71 29 = some (29, .iconst 2, 1, 0, 0, 0, 0) := ceB_eq (by decide +kernel)
theorem f_71_30 : fnd 71 30 = some (30, .invokevirtual 85, 3, 53, 2, 3, 0) := ceB_eq (by decide +kernel)
theorem f_71_33 : fnd 71 33 = some (33, .ireturn, 1, 0, 0, 0, 0) := ceB_eq (by decide +kernel)
theorem f_71_34 : fnd 71 34 = some (34, .aload_n 0, 1, 0, 0, 0, 0) := ceB_eq (by decide +kernel)
theorem f_71_35 : fnd 71 35 = some (35, .getfield 12, 3, 3, 0, 0, 0) := ceB_eq (by decide +kernel)
theorem f_71_38 : fnd 71 38 = some (38, .getfield 178, 3, 4, 7, 7, 0) := ceB_eq (by decide +kernel)
theorem f_71_41 : fnd 71 41 = some (41, .iload_n 1, 1, 0, 0, 0, 0) := ceB_eq (by decide +kernel)
theorem f_71_42 : fnd 71 42 = some (42, .aaload, 1, 0, 0, 0, 0) := ceB_eq (by decide +kernel)
theorem f_71_43 : fnd 71 43 = some (43, .astore_n 2, 1, 0, 0, 0, 0) := ceB_eq (by decide +kernel)
theorem f_71_44 : fnd 71 44 = some (44, .aload_n 0, 1, 0, 0, 0, 0) := ceB_eq (by decide +kernel)
theorem f_71_45 : fnd 71 45 = some (45, .getfield 12, 3, 3, 0, 0, 0) := ceB_eq (by decide +kernel)
theorem f_71_48 : fnd 71 48 = some (48, .aload_n 2, 1, 0, 0, 0, 0) := ceB_eq (by decide +kernel)
theorem f_71_49 : fnd 71 49 = some (49, .getfield 219, 3, 8, 2, 2, 0) := ceB_eq (by decide +kernel)
theorem f_71_52 : fnd 71 52 = some (52, .invokevirtual 220, 3, 32, 2, 4, 0) := ceB_eq (by decide +kernel)
theorem f_71_55 : fnd 71 55 = some (55, .ifCond .eq 19, 3, 0, 0, 0, 0) := ceB_eq (by decide +kernel)
theorem f_71_58 : fnd 71 58 = some (58, .aload_n 0, 1, 0, 0, 0, 0) := ceB_eq (by decide +kernel)
theorem f_71_59 : fnd 71 59 = some (59, .getfield 12, 3, 3, 0, 0, 0) := ceB_eq (by decide +kernel)
theorem f_71_62 : fnd 71 62 = some (62, .getfield 122, 3, 4, 5, 5, 0) := ceB_eq (by decide +kernel)
theorem f_71_65 : fnd 71 65 = some (65, .aload_n 2, 1, 0, 0, 0, 0) := ceB_eq (by decide +kernel)
theorem f_71_66 : fnd 71 66 = some (66, .getfield 219, 3, 8, 2, 2, 0) := ceB_eq (by decide +kernel)
theorem f_71_69 : fnd 71 69 = some (69, .aaload, 1, 0, 0, 0, 0) := ceB_eq (by decide +kernel)
theorem f_71_70 : fnd 71 70 = some (70, .iconst 0, 1, 0, 0, 0, 0) := ceB_eq (by decide +kernel)
theorem f_71_71 : fnd 71 71 = some (71, .putfield 200, 3, 6, 7, 7, 0) := ceB_eq (by decide +kernel)
theorem f_71_74 : fnd 71 74 = some (74, .aload_n 2, 1, 0, 0, 0, 0) := ceB_eq (by decide +kernel)
theorem f_71_75 : fnd 71 75 = some (75, .invokevirtual 223, 3, 23, 1, 8, 0) := ceB_eq (by decide +kernel)
theorem f_71_78 : fnd 71 78 = some (78, .aload_n 2, 1, 0, 0, 0, 0) := ceB_eq (by decide +kernel)
theorem f_71_79 : fnd 71 79 = some (79, .getfield 213, 3, 8, 0, 0, 0) := ceB_eq (by decide +kernel)
theorem f_71_82 : fnd 71 82 = some (82, .ireturn, 1, 0, 0, 0, 0) := ceB_eq (by decide +kernel)
theorem rk_71 : rkm 71 = 0 := by decide +kernel
theorem ml_71 : (mth 71).2.1 = 3 := by decide +kernel
set_option maxRecDepth 100000 in
theorem T_Acts_goOut (k0 i0 x1 : Int) (σ : ST) (Q : Option AV → ST → Prop) (h :
  wpM m_World_isCore [.inr (.inr (12, k0, 0)), .inl x1] σ (asI fun r101 s101 =>
  (((r101 ≠ 0 : Prop) →
    wpM m_World_isInside [.inr (.inr (12, k0, 0)), .inl x1] s101 (asI fun r102 s102 =>
    (((r102 ≠ 0 : Prop) →
      ((0 : Int) ≤ x1 ∧ (x1 : Int) < 3) ∧
      wpM m_World_isPage [.inr (.inr (12, k0, 0)), .inl (s102 21 k0 x1 2)] s102 (asI fun r103 s103 =>
      (((r103 = 0 : Prop) →
        wpM m_Core_goOutside [.inr (.inr (21, k0, x1))] s103 (asV fun s104 =>
        Q (some (.inl (s104 21 k0 x1 0))) s104)) ∧
      (¬ (r103 = 0) →
        ((0 : Int) ≤ (s103 21 k0 x1 2) ∧ ((s103 21 k0 x1 2) : Int) < 10) ∧
        wpM m_Core_goOutside [.inr (.inr (21, k0, x1))] (up s103 14 k0 (s103 21 k0 x1 2) 7 0) (asV fun s105 =>
        Q (some (.inl (s105 21 k0 x1 0))) s105))))) ∧
    (¬ (r102 ≠ 0) →
      wpM m_Acts_refuse [.inr (.inr (11, k0, i0)), .inl 2] s102 (asI fun r107 s107 =>
      Q (some (.inl r107)) s107))))) ∧
  (¬ (r101 ≠ 0) →
    wpM m_Acts_refuse [.inr (.inr (11, k0, i0)), .inl 0] s101 (asI fun r109 s109 =>
    Q (some (.inl r109)) s109))))) :
  wpM m_Acts_goOut [.inr (.inr (11, k0, i0)), .inl x1] σ Q :=
 wpM_of ml_71 (L := [some (.inr (.inr (11, k0, i0))), some (.inl x1), none]) rfl
 (w_aload_n (p' := 1) f_71_0 rfl rfl
 (w_getfield (p' := 4) f_71_1 rfl (x := .inr (.inr (12, k0, 0))) rfl rfl
 (w_iload_n (p' := 5) f_71_4 rfl rfl
 (w_callV (p' := 8) f_71_5 rfl rfl rfl rfl rfl (r := []) rfl rfl (kI (.inr rk_40) fun r101 s101 h101 =>
 w_if (p' := 17) (q' := 11) f_71_8 rfl rfl
 (fun c110 => w_aload_n (p' := 18) f_71_17 rfl rfl
 (w_getfield (p' := 21) f_71_18 rfl (x := .inr (.inr (12, k0, 0))) rfl rfl
 (w_iload_n (p' := 22) f_71_21 rfl rfl
 (w_callV (p' := 25) f_71_22 rfl rfl rfl rfl rfl (r := []) rfl rfl (kI (.inr rk_70) fun r102 s102 h102 =>
 w_if (p' := 34) (q' := 28) f_71_25 rfl rfl
 (fun c108 => w_aload_n (p' := 35) f_71_34 rfl rfl
 (w_getfield (p' := 38) f_71_35 rfl (x := .inr (.inr (12, k0, 0))) rfl rfl
 (w_getfield (p' := 41) f_71_38 rfl (x := .inr (.inr (20, k0, 0))) rfl rfl
 (w_iload_n (p' := 42) f_71_41 rfl rfl
 (w_aaload (p' := 43) f_71_42 rfl (n := 3) rfl (x := (21, k0, x1)) rfl (h102.1 c108).1 rfl
 (w_astore_n (p' := 44) f_71_43 (L' := [some (.inr (.inr (11, k0, i0))), some (.inl x1), some (.inr (.inr (21, k0, x1)))]) rfl rfl
 (w_aload_n (p' := 45) f_71_44 rfl rfl
 (w_getfield (p' := 48) f_71_45 rfl (x := .inr (.inr (12, k0, 0))) rfl rfl
 (w_aload_n (p' := 49) f_71_48 rfl rfl
 (w_getfield (p' := 52) f_71_49 rfl (x := .inl (s102 21 k0 x1 2)) rfl rfl
 (w_callV (p' := 55) f_71_52 rfl rfl rfl rfl rfl (r := []) rfl rfl (kI (.inr rk_32) fun r103 s103 h103 =>
 w_if (p' := 74) (q' := 58) f_71_55 rfl rfl
 (fun c106 => w_aload_n (p' := 75) f_71_74 rfl rfl
 (w_callV (p' := 78) f_71_75 rfl rfl rfl rfl rfl (r := []) rfl rfl (kV rk_23 fun s104 h104 =>
 w_aload_n (p' := 79) f_71_78 rfl rfl
 (w_getfield (p' := 82) f_71_79 rfl (x := .inl (s104 21 k0 x1 0)) rfl rfl
 (w_iret f_71_82 rk_71 h104))) (h103.1 c106)))
 (fun c106 => w_aload_n (p' := 59) f_71_58 rfl rfl
 (w_getfield (p' := 62) f_71_59 rfl (x := .inr (.inr (12, k0, 0))) rfl rfl
 (w_getfield (p' := 65) f_71_62 rfl (x := .inr (.inr (13, k0, 0))) rfl rfl
 (w_aload_n (p' := 66) f_71_65 rfl rfl
 (w_getfield (p' := 69) f_71_66 rfl (x := .inl (s103 21 k0 x1 2)) rfl rfl
 (w_aaload (p' := 70) f_71_69 rfl (n := 10) rfl (x := (14, k0, (s103 21 k0 x1 2))) rfl (h103.2 c106).1 rfl
 (w_iconst (p' := 71) f_71_70 rfl
 (w_putI (p' := 74) f_71_71 rfl rfl (c' := 7) rfl rfl
 (w_aload_n (p' := 75) f_71_74 rfl rfl
 (w_callV (p' := 78) f_71_75 rfl rfl rfl rfl rfl (r := []) rfl rfl (kV rk_23 fun s105 h105 =>
 w_aload_n (p' := 79) f_71_78 rfl rfl
 (w_getfield (p' := 82) f_71_79 rfl (x := .inl (s105 21 k0 x1 0)) rfl rfl
 (w_iret f_71_82 rk_71 h105))) (h103.2 c106).2))))))))))) (h102.1 c108).2)))))))))))
 (fun c108 => w_aload_n (p' := 29) f_71_28 rfl rfl
 (w_iconst (p' := 30) f_71_29 rfl
 (w_callV (p' := 33) f_71_30 rfl rfl rfl rfl rfl (r := []) rfl rfl (kI (.inl rk_53) fun r107 s107 h107 =>
 w_iret f_71_33 rk_71 h107) (h102.2 c108))))) (h101.1 c110)))))
 (fun c110 => w_aload_n (p' := 12) f_71_11 rfl rfl
 (w_iconst (p' := 13) f_71_12 rfl
 (w_callV (p' := 16) f_71_13 rfl rfl rfl rfl rfl (r := []) rfl rfl (kI (.inl rk_53) fun r109 s109 h109 =>
 w_iret f_71_16 rk_71 h109) (h101.2 c110))))) h))))
/-! ClosedRooms$Acts.goOutInHaste(I)I -/
theorem f_72_0 : fnd 72 0 = some (0, .aload_n 0, 1, 0, 0, 0, 0) := ceB_eq (by decide +kernel)
theorem f_72_1 : fnd 72 1 = some (1, .getfield 12, 3, 3, 0, 0, 0) := ceB_eq (by decide +kernel)
theorem f_72_4 : fnd 72 4 = some (4, .iload_n 1, 1, 0, 0, 0, 0) := ceB_eq (by decide +kernel)
theorem f_72_5 : fnd 72 5 = some (5, .invokevirtual 175, 3, 40, 2, 4, 0) := ceB_eq (by decide +kernel)
theorem f_72_8 : fnd 72 8 = some (8, .ifCond .ne 9, 3, 0, 0, 0, 0) := ceB_eq (by decide +kernel)
theorem f_72_11 : fnd 72 11 = some (11, .aload_n 0, 1, 0, 0, 0, 0) := ceB_eq (by decide +kernel)
theorem f_72_12 : fnd 72 12 = some (12, .iconst 0, 1, 0, 0, 0, 0) := ceB_eq (by decide +kernel)
theorem f_72_13 : fnd 72 13 = some (13, .invokevirtual 85, 3, 53, 2, 3, 0) := ceB_eq (by decide +kernel)
theorem f_72_16 : fnd 72 16 = some (16, .ireturn, 1, 0, 0, 0, 0) := ceB_eq (by decide +kernel)
theorem f_72_17 : fnd 72 17 = some (17, .aload_n 0, 1, 0, 0, 0, 0) := ceB_eq (by decide +kernel)
theorem f_72_18 : fnd 72 18 = some (18, .getfield 12, 3, 3, 0, 0, 0) := ceB_eq (by decide +kernel)
theorem f_72_21 : fnd 72 21 = some (21, .getfield 178, 3, 4, 7, 7, 0) := ceB_eq (by decide +kernel)
theorem f_72_24 : fnd 72 24 = some (24, .iload_n 1, 1, 0, 0, 0, 0) := ceB_eq (by decide +kernel)
theorem f_72_25 : fnd 72 25 = some (25, .aaload, 1, 0, 0, 0, 0) := ceB_eq (by decide +kernel)
theorem f_72_26 : fnd 72 26 = some (26, .astore_n 2, 1, 0, 0, 0, 0) := ceB_eq (by decide +kernel)
theorem f_72_27 : fnd 72 27 = some (27, .aload_n 2, 1, 0, 0, 0, 0) := ceB_eq (by decide +kernel)
theorem f_72_28 : fnd 72 28 = some (28, .getfield 219, 3, 8, 2, 2, 0) := ceB_eq (by decide +kernel)
theorem f_72_31 : fnd 72 31 = some (31, .istore_n 3, 1, 0, 0, 0, 0) := ceB_eq (by decide +kernel)
theorem f_72_32 : fnd 72 32 = some (32, .aload_n 0, 1, 0, 0, 0, 0) := ceB_eq (by decide +kernel)
theorem f_72_33 : fnd 72 33 = some (33, .getfield 12, 3, 3, 0, 0, 0) := ceB_eq (by decide +kernel)
theorem f_72_36 : fnd 72 36 = some (36, .iload_n 1, 1, 0, 0, 0, 0) := ceB_eq (by decide +kernel)
theorem f_72_37 : fnd 72 37 = some (37, .invokevirtual 216, 3, 70, 2, 4, 0) := ceB_eq (by decide +kernel)
theorem f_72_40 : fnd 72 40 = some (40, .ifCond .eq 14, 3, 0, 0, 0, 0) := ceB_eq (by decide +kernel)
theorem f_72_43 : fnd 72 43 = some (43, .aload_n 0, 1, 0, 0, 0, 0) := ceB_eq (by decide +kernel)
theorem f_72_44 : fnd 72 44 = some (44, .getfield 12, 3, 3, 0, 0, 0) := ceB_eq (by decide +kernel)
theorem f_72_47 : fnd 72 47 = some (47, .iload_n 3, 1, 0, 0, 0, 0) := ceB_eq (by decide +kernel)
theorem f_72_48 : fnd 72 48 = some (48, .invokevirtual 220, 3, 32, 2, 4, 0) := ceB_eq (by decide +kernel)
theorem f_72_51 : fnd 72 51 = some (51, .ifCond .ne 9, 3, 0, 0, 0, 0) := ceB_eq (by decide +kernel)
theorem f_72_54 : fnd 72 54 = some (54, .aload_n 0, 1, 0, 0, 0, 0) := ceB_eq (by decide +kernel)
theorem f_72_55 : fnd 72 55 = some (55, .iconst 2, 1, 0, 0, 0, 0) := ceB_eq (by decide +kernel)
theorem f_72_56 : fnd 72 56 = some (56, .invokevirtual 85, 3, 53, 2, 3, 0) := ceB_eq (by decide +kernel)
theorem f_72_59 : fnd 72 59 = some (59, .ireturn, 1, 0, 0, 0, 0) := ceB_eq (by decide +kernel)
theorem f_72_60 : fnd 72 60 = some (60, .aload_n 0, 1, 0, 0, 0, 0) := ceB_eq (by decide +kernel)
theorem f_72_61 : fnd 72 61 = some (61, .getfield 12, 3, 3, 0, 0, 0) := ceB_eq (by decide +kernel)
theorem f_72_64 : fnd 72 64 = some (64, .getfield 122, 3, 4, 5, 5, 0) := ceB_eq (by decide +kernel)
theorem f_72_67 : fnd 72 67 = some (67, .iload_n 3, 1, 0, 0, 0, 0) := ceB_eq (by decide +kernel)
theorem f_72_68 : fnd 72 68 = some (68, .aaload, 1, 0, 0, 0, 0) := ceB_eq (by decide +kernel)
theorem f_72_69 : fnd 72 69 = some (69, .astore 4, 2, 0, 0, 0, 0) := ceB_eq (by decide +kernel)
theorem f_72_71 : fnd 72 71 = some (71, .aload 4, 2, 0, 0, 0, 0) := ceB_eq (by decide +kernel)
theorem f_72_73 : fnd 72 73 = some (73, .iconst 2, 1, 0, 0, 0, 0) := ceB_eq (by decide +kernel)
theorem f_72_74 : fnd 72 74 = some (74, .putfield 200, 3, 6, 7, 7, 0) := ceB_eq (by decide +kernel)
theorem f_72_77 : fnd 72 77 = some (77, .aload 4, 2, 0, 0, 0, 0) := ceB_eq (by decide +kernel)
theorem f_72_79 : fnd 72 79 = some (79, .aload_n 2, 1, 0, 0, 0, 0) := ceB_eq (by decide +kernel)
theorem f_72_80 : fnd 72 80 = some (80, .getfield 213, 3, 8, 0, 0, 0) := ceB_eq (by decide +kernel)
theorem f_72_83 : fnd 72 83 = some (83, .putfield 150, 3, 6, 4, 4, 0) := ceB_eq (by decide +kernel)
theorem f_72_86 : fnd 72 86 = some (86, .aload_n 2, 1, 0, 0, 0, 0) := ceB_eq (by decide +kernel)
theorem f_72_87 : fnd 72 87 = some (87, .iconst 0, 1, 0, 0, 0, 0) := ceB_eq (by decide +kernel)
theorem f_72_88 : fnd 72 88 = some (88, .putfield 213, 3, 8, 0, 0, 0) := ceB_eq (by decide +kernel)
theorem f_72_91 : fnd 72 91 = some (91, .aload_n 2, 1, 0, 0, 0, 0) := ceB_eq (by decide +kernel)
theorem f_72_92 : fnd 72 92 = some (92, .invokevirtual 223, 3, 23, 1, 8, 0) := ceB_eq (by decide +kernel)
theorem f_72_95 : fnd 72 95 = some (95, .iload_n 3, 1, 0, 0, 0, 0) := ceB_eq (by decide +kernel)
theorem f_72_96 : fnd 72 96 = some (96, .ireturn, 1, 0, 0, 0, 0) := ceB_eq (by decide +kernel)
theorem rk_72 : rkm 72 = 0 := by decide +kernel
theorem ml_72 : (mth 72).2.1 = 5 := by decide +kernel
set_option maxRecDepth 100000 in
theorem T_Acts_goOutInHaste (k0 i0 x1 : Int) (σ : ST) (Q : Option AV → ST → Prop) (h :
  wpM m_World_isCore [.inr (.inr (12, k0, 0)), .inl x1] σ (asI fun r101 s101 =>
  (((r101 ≠ 0 : Prop) →
    ((0 : Int) ≤ x1 ∧ (x1 : Int) < 3) ∧
    wpM m_World_isInside [.inr (.inr (12, k0, 0)), .inl x1] s101 (asI fun r102 s102 =>
    (((r102 = 0 : Prop) →
      wpM m_Acts_refuse [.inr (.inr (11, k0, i0)), .inl 2] s102 (asI fun r103 s103 =>
      Q (some (.inl r103)) s103)) ∧
    (¬ (r102 = 0) →
      wpM m_World_isPage [.inr (.inr (12, k0, 0)), .inl (s101 21 k0 x1 2)] s102 (asI fun r104 s104 =>
      (((r104 ≠ 0 : Prop) →
        ((0 : Int) ≤ (s101 21 k0 x1 2) ∧ ((s101 21 k0 x1 2) : Int) < 10) ∧
        wpM m_Core_goOutside [.inr (.inr (21, k0, x1))] (up (up (up s104 14 k0 (s101 21 k0 x1 2) 7 2) 14 k0 (s101 21 k0 x1 2) 4 ((up s104 14 k0 (s101 21 k0 x1 2) 7 2) 21 k0 x1 0)) 21 k0 x1 0 0) (asV fun s105 =>
        Q (some (.inl (s101 21 k0 x1 2))) s105)) ∧
      (¬ (r104 ≠ 0) →
        wpM m_Acts_refuse [.inr (.inr (11, k0, i0)), .inl 2] s104 (asI fun r106 s106 =>
        Q (some (.inl r106)) s106)))))))) ∧
  (¬ (r101 ≠ 0) →
    wpM m_Acts_refuse [.inr (.inr (11, k0, i0)), .inl 0] s101 (asI fun r109 s109 =>
    Q (some (.inl r109)) s109))))) :
  wpM m_Acts_goOutInHaste [.inr (.inr (11, k0, i0)), .inl x1] σ Q :=
 wpM_of ml_72 (L := [some (.inr (.inr (11, k0, i0))), some (.inl x1), none, none, none]) rfl
 (w_aload_n (p' := 1) f_72_0 rfl rfl
 (w_getfield (p' := 4) f_72_1 rfl (x := .inr (.inr (12, k0, 0))) rfl rfl
 (w_iload_n (p' := 5) f_72_4 rfl rfl
 (w_callV (p' := 8) f_72_5 rfl rfl rfl rfl rfl (r := []) rfl rfl (kI (.inr rk_40) fun r101 s101 h101 =>
 w_if (p' := 17) (q' := 11) f_72_8 rfl rfl
 (fun c110 => w_aload_n (p' := 18) f_72_17 rfl rfl
 (w_getfield (p' := 21) f_72_18 rfl (x := .inr (.inr (12, k0, 0))) rfl rfl
 (w_getfield (p' := 24) f_72_21 rfl (x := .inr (.inr (20, k0, 0))) rfl rfl
 (w_iload_n (p' := 25) f_72_24 rfl rfl
 (w_aaload (p' := 26) f_72_25 rfl (n := 3) rfl (x := (21, k0, x1)) rfl (h101.1 c110).1 rfl
 (w_astore_n (p' := 27) f_72_26 (L' := [some (.inr (.inr (11, k0, i0))), some (.inl x1), some (.inr (.inr (21, k0, x1))), none, none]) rfl rfl
 (w_aload_n (p' := 28) f_72_27 rfl rfl
 (w_getfield (p' := 31) f_72_28 rfl (x := .inl (s101 21 k0 x1 2)) rfl rfl
 (w_istore_n (p' := 32) f_72_31 (L' := [some (.inr (.inr (11, k0, i0))), some (.inl x1), some (.inr (.inr (21, k0, x1))), some (.inl (s101 21 k0 x1 2)), none]) rfl rfl
 (w_aload_n (p' := 33) f_72_32 rfl rfl
 (w_getfield (p' := 36) f_72_33 rfl (x := .inr (.inr (12, k0, 0))) rfl rfl
 (w_iload_n (p' := 37) f_72_36 rfl rfl
 (w_callV (p' := 40) f_72_37 rfl rfl rfl rfl rfl (r := []) rfl rfl (kI (.inr rk_70) fun r102 s102 h102 =>
 w_if (p' := 54) (q' := 43) f_72_40 rfl rfl
 (fun c108 => w_aload_n (p' := 55) f_72_54 rfl rfl
 (w_iconst (p' := 56) f_72_55 rfl
 (w_callV (p' := 59) f_72_56 rfl rfl rfl rfl rfl (r := []) rfl rfl (kI (.inl rk_53) fun r103 s103 h103 =>
 w_iret f_72_59 rk_72 h103) (h102.1 c108))))
 (fun c108 => w_aload_n (p' := 44) f_72_43 rfl rfl
 (w_getfield (p' := 47) f_72_44 rfl (x := .inr (.inr (12, k0, 0))) rfl rfl
 (w_iload_n (p' := 48) f_72_47 rfl rfl
 (w_callV (p' := 51) f_72_48 rfl rfl rfl rfl rfl (r := []) rfl rfl (kI (.inr rk_32) fun r104 s104 h104 =>
 w_if (p' := 60) (q' := 54) f_72_51 rfl rfl
 (fun c107 => w_aload_n (p' := 61) f_72_60 rfl rfl
 (w_getfield (p' := 64) f_72_61 rfl (x := .inr (.inr (12, k0, 0))) rfl rfl
 (w_getfield (p' := 67) f_72_64 rfl (x := .inr (.inr (13, k0, 0))) rfl rfl
 (w_iload_n (p' := 68) f_72_67 rfl rfl
 (w_aaload (p' := 69) f_72_68 rfl (n := 10) rfl (x := (14, k0, (s101 21 k0 x1 2))) rfl (h104.1 c107).1 rfl
 (w_astore (p' := 71) f_72_69 (L' := [some (.inr (.inr (11, k0, i0))), some (.inl x1), some (.inr (.inr (21, k0, x1))), some (.inl (s101 21 k0 x1 2)), some (.inr (.inr (14, k0, (s101 21 k0 x1 2))))]) rfl rfl
 (w_aload (p' := 73) f_72_71 rfl rfl
 (w_iconst (p' := 74) f_72_73 rfl
 (w_putI (p' := 77) f_72_74 rfl rfl (c' := 7) rfl rfl
 (w_aload (p' := 79) f_72_77 rfl rfl
 (w_aload_n (p' := 80) f_72_79 rfl rfl
 (w_getfield (p' := 83) f_72_80 rfl (x := .inl ((up s104 14 k0 (s101 21 k0 x1 2) 7 2) 21 k0 x1 0)) rfl rfl
 (w_putI (p' := 86) f_72_83 rfl rfl (c' := 4) rfl rfl
 (w_aload_n (p' := 87) f_72_86 rfl rfl
 (w_iconst (p' := 88) f_72_87 rfl
 (w_putI (p' := 91) f_72_88 rfl rfl (c' := 0) rfl rfl
 (w_aload_n (p' := 92) f_72_91 rfl rfl
 (w_callV (p' := 95) f_72_92 rfl rfl rfl rfl rfl (r := []) rfl rfl (kV rk_23 fun s105 h105 =>
 w_iload_n (p' := 96) f_72_95 rfl rfl
 (w_iret f_72_96 rk_72 h105)) (h104.1 c107).2))))))))))))))))))
 (fun c107 => w_aload_n (p' := 55) f_72_54 rfl rfl
 (w_iconst (p' := 56) f_72_55 rfl
 (w_callV (p' := 59) f_72_56 rfl rfl rfl rfl rfl (r := []) rfl rfl (kI (.inl rk_53) fun r106 s106 h106 =>
 w_iret f_72_59 rk_72 h106) (h104.2 c107))))) (h102.2 c108)))))) (h101.1 c110).2)))))))))))))
 (fun c110 => w_aload_n (p' := 12) f_72_11 rfl rfl
 (w_iconst (p' := 13) f_72_12 rfl
 (w_callV (p' := 16) f_72_13 rfl rfl rfl rfl rfl (r := []) rfl rfl (kI (.inl rk_53) fun r109 s109 h109 =>
 w_iret f_72_16 rk_72 h109) (h101.2 c110))))) h))))
/-! ClosedRooms$Core.pageSeenAt(I)I -/
theorem f_73_0 : fnd 73 0 = some (0, .iconst 0, 1, 0, 0, 0, 0) := ceB_eq (by decide +kernel)
theorem f_73_1 : fnd 73 1 = some (1, .istore_n 2, 1, 0, 0, 0, 0) := ceB_eq (by decide +kernel)
theorem f_73_2 : fnd 73 2 = some (2, .iload_n 2, 1, 0, 0, 0, 0) := ceB_eq (by decide +kernel)
theorem f_73_3 : fnd 73 3 = some (3, .aload_n 0, 1, 0, 0, 0, 0) := ceB_eq (by decide +kernel)
theorem f_73_4 : fnd 73 4 = some (4, .getfield 24, 3, 8, 4, 4, 0) := ceB_eq (by decide +kernel)
theorem f_73_7 : fnd 73 7 = some (7, .if_icmp .ge 31, 3, 0, 0, 0, 0) := ceB_eq (by decide +kernel)
theorem f_73_10 : fnd 73 10 = some (10, .iload_n 2, 1, 0, 0, 0, 0) := ceB_eq (by decide +kernel)
theorem f_73_11 : fnd 73 11 = some (11, .iconst 3, 1, 0, 0, 0, 0) := ceB_eq (by decide +kernel)
theorem f_73_12 : fnd 73 12 = some (12, .if_icmp .ge 26, 3, 0, 0, 0, 0) := ceB_eq (by decide +kernel)
theorem f_73_15 : fnd 73 15 = some (15, .aload_n 0, 1, 0, 0, 0, 0) := ceB_eq (by decide +kernel)
theorem f_73_16 : fnd 73 16 = some (16, .getfield 27, 3, 8, 5, 5, 0) := ceB_eq (by decide +kernel)
theorem f_73_19 : fnd 73 19 = some (19, .iload_n 2, 1, 0, 0, 0, 0) := ceB_eq (by decide +kernel)
theorem f_73_20 : fnd 73 20 = some (20, .iaload, 1, 0, 0, 0, 0) := ceB_eq (by decide +kernel)
theorem f_73_21 : fnd 73 21 = some (21, .iload_n 1, 1, 0, 0, 0, 0) := ceB_eq (by decide +kernel)
theorem f_73_22 : fnd 73 22 = some (22, .if_icmp .ne 10, 3, 0, 0, 0, 0) := ceB_eq (by decide +kernel)
theorem f_73_25 : fnd 73 25 = some (25, .aload_n 0, 1, 0, 0, 0, 0) := ceB_eq (by decide +kernel)
theorem f_73_26 : fnd 73 26 = some (26, .getfield 31, 3, 8, 6, 6, 0) := ceB_eq (by decide +kernel)
theorem f_73_29 : fnd 73 29 = some (29, .iload_n 2, 1, 0, 0, 0, 0) := ceB_eq (by decide +kernel)
theorem f_73_30 : fnd 73 30 = some (30, .iaload, 1, 0, 0, 0, 0) := ceB_eq (by decide +kernel)
theorem f_73_31 : fnd 73 31 = some (31, .ireturn, 1, 0, 0, 0, 0) := ceB_eq (by decide +kernel)
theorem f_73_32 : fnd 73 32 = some (32, .iinc 2 1, 3, 0, 0, 0, 0) := ceB_eq (by decide +kernel)
theorem f_73_35 : fnd 73 35 = some (35, .goto (-33), 3, 0, 0, 0, 0) := ceB_eq (by decide +kernel)
theorem f_73_38 : fnd 73 38 = some (38, .iconst (-1), 1, 0, 0, 0, 0) := ceB_eq (by decide +kernel)
theorem f_73_39 : fnd 73 39 = some (39, .ireturn, 1, 0, 0, 0, 0) := ceB_eq (by decide +kernel)
theorem rk_73 : rkm 73 = 0 := by decide +kernel
theorem ml_73 : (mth 73).2.1 = 3 := by decide +kernel
set_option maxRecDepth 100000 in
theorem T_Core_pageSeenAt (k0 i0 x1 : Int) (σ : ST) (Q : Option AV → ST → Prop) (h :
  wp m_Core_pageSeenAt (2, [some (.inr (.inr (21, k0, i0))), some (.inl x1), some (.inl 0)], [], σ) Q) :
  wpM m_Core_pageSeenAt [.inr (.inr (21, k0, i0)), .inl x1] σ Q :=
 wpM_of ml_73 (L := [some (.inr (.inr (21, k0, i0))), some (.inl x1), none]) rfl
 (w_iconst (p' := 1) f_73_0 rfl
 (w_istore_n (p' := 2) f_73_1 (L' := [some (.inr (.inr (21, k0, i0))), some (.inl x1), some (.inl 0)]) rfl rfl
 (h)))
set_option maxRecDepth 100000 in
theorem T_Core_pageSeenAt_2 (k0 i0 x1 x2 : Int) (σ : ST) (Q : Option AV → ST → Prop) (h :
  ((((σ 21 k0 i0 4) ≤ x2 : Prop) →
    Q (some (.inl (-1))) σ) ∧
  (¬ ((σ 21 k0 i0 4) ≤ x2) →
    (((3 ≤ x2 : Prop) →
      Q (some (.inl (-1))) σ) ∧
    (¬ (3 ≤ x2) →
      ((0 : Int) ≤ x2 ∧ (x2 : Int) < 3) ∧
      ((((σ 22 k0 i0 x2) ≠ x1 : Prop) →
        wp m_Core_pageSeenAt (2, [some (.inr (.inr (21, k0, i0))), some (.inl x1), some (.inl (wr (x2 + 1)))], [], σ) Q) ∧
      (¬ ((σ 22 k0 i0 x2) ≠ x1) →
        ((0 : Int) ≤ x2 ∧ (x2 : Int) < 3) ∧
        Q (some (.inl (σ 23 k0 i0 x2))) σ))))))) :
  wp m_Core_pageSeenAt (2, [some (.inr (.inr (21, k0, i0))), some (.inl x1), some (.inl x2)], [], σ) Q :=
 w_iload_n (p' := 3) f_73_2 rfl rfl
 (w_aload_n (p' := 4) f_73_3 rfl rfl
 (w_getfield (p' := 7) f_73_4 rfl (x := .inl (σ 21 k0 i0 4)) rfl rfl
 (w_icmp (p' := 38) (q' := 10) f_73_7 rfl rfl
 (fun c103 => w_iconst (p' := 39) f_73_38 rfl
 (w_iret f_73_39 rk_73 (h.1 c103)))
 (fun c103 => w_iload_n (p' := 11) f_73_10 rfl rfl
 (w_iconst (p' := 12) f_73_11 rfl
 (w_icmp (p' := 38) (q' := 15) f_73_12 rfl rfl
 (fun c102 => w_iconst (p' := 39) f_73_38 rfl
 (w_iret f_73_39 rk_73 ((h.2 c103).1 c102)))
 (fun c102 => w_aload_n (p' := 16) f_73_15 rfl rfl
 (w_getfield (p' := 19) f_73_16 rfl (x := .inr (.inr (22, k0, i0))) rfl rfl
 (w_iload_n (p' := 20) f_73_19 rfl rfl
 (w_iaload (p' := 21) f_73_20 rfl (n := 3) rfl ((h.2 c103).2 c102).1 rfl
 (w_iload_n (p' := 22) f_73_21 rfl rfl
 (w_icmp (p' := 32) (q' := 25) f_73_22 rfl rfl
 (fun c101 => w_iinc (p' := 35) f_73_32 rfl (L' := [some (.inr (.inr (21, k0, i0))), some (.inl x1), some (.inl (wr (x2 + 1)))]) rfl rfl
 (w_goto (p' := 2) f_73_35 rfl
 ((((h.2 c103).2 c102).2.1 c101))))
 (fun c101 => w_aload_n (p' := 26) f_73_25 rfl rfl
 (w_getfield (p' := 29) f_73_26 rfl (x := .inr (.inr (23, k0, i0))) rfl rfl
 (w_iload_n (p' := 30) f_73_29 rfl rfl
 (w_iaload (p' := 31) f_73_30 rfl (n := 3) rfl (((h.2 c103).2 c102).2.2 c101).1 rfl
 (w_iret f_73_31 rk_73 (((h.2 c103).2 c102).2.2 c101).2)))))))))))))))))
/-! ClosedRooms$Core.forgetLongestSeen()V -/
theorem f_74_0 : fnd 74 0 = some (0, .aload_n 0, 1, 0, 0, 0, 0) := ceB_eq (by decide +kernel)
theorem f_74_1 : fnd 74 1 = some (1, .getfield 24, 3, 8, 4, 4, 0) := ceB_eq (by decide +kernel)
theorem f_74_4 : fnd 74 4 = some (4, .ifCond .gt 4, 3, 0, 0, 0, 0) := ceB_eq (by decide +kernel)
theorem f_74_7 : fnd 74 7 = some (7, .return_, 1, 0, 0, 0, 0) := ceB_eq (by decide +kernel)
theorem f_74_8 : fnd 74 8 = some (8, .aload_n 0, 1, 0, 0, 0, 0) := ceB_eq (by decide +kernel)
theorem f_74_9 : fnd 74 9 = some (9, .dup, 1, 0, 0, 0, 0) := ceB_eq (by decide +kernel)
theorem f_74_10 : fnd 74 10 = some (10, .getfield 24, 3, 8, 4, 4, 0) := ceB_eq (by decide +kernel)
theorem f_74_13 : fnd 74 13 = some (13, .iconst 1, 1, 0, 0, 0, 0) := ceB_eq (by decide +kernel)
theorem f_74_14 : fnd 74 14 = some (14, .isub, 1, 0, 0, 0, 0) := ceB_eq (by decide +kernel)
theorem f_74_15 : fnd 74 15 = some (15, .putfield 24, 3, 8, 4, 4, 0) := ceB_eq (by decide +kernel)
theorem f_74_18 : fnd 74 18 = some (18, .iconst 0, 1, 0, 0, 0, 0) := ceB_eq (by decide +kernel)
theorem f_74_19 : fnd 74 19 = some (19, .istore_n 1, 1, 0, 0, 0, 0) := ceB_eq (by decide +kernel)
theorem f_74_20 : fnd 74 20 = some (20, .iload_n 1, 1, 0, 0, 0, 0) := ceB_eq (by decide +kernel)
theorem f_74_21 : fnd 74 21 = some (21, .aload_n 0, 1, 0, 0, 0, 0) := ceB_eq (by decide +kernel)
theorem f_74_22 : fnd 74 22 = some (22, .getfield 24, 3, 8, 4, 4, 0) := ceB_eq (by decide +kernel)
theorem f_74_25 : fnd 74 25 = some (25, .if_icmp .ge 44, 3, 0, 0, 0, 0) := ceB_eq (by decide +kernel)
theorem f_74_28 : fnd 74 28 = some (28, .iload_n 1, 1, 0, 0, 0, 0) := ceB_eq (by decide +kernel)
theorem f_74_29 : fnd 74 29 = some (29, .iconst 1, 1, 0, 0, 0, 0) := ceB_eq (by decide +kernel)
theorem f_74_30 : fnd 74 30 = some (30, .iadd, 1, 0, 0, 0, 0) := ceB_eq (by decide +kernel)
theorem f_74_31 : fnd 74 31 = some (31, .iconst 3, 1, 0, 0, 0, 0) := ceB_eq (by decide +kernel)
theorem f_74_32 : fnd 74 32 = some (32, .if_icmp .ge 37, 3, 0, 0, 0, 0) := ceB_eq (by decide +kernel)
theorem f_74_35 : fnd 74 35 = some (35, .aload_n 0, 1, 0, 0, 0, 0) := ceB_eq (by decide +kernel)
theorem f_74_36 : fnd 74 36 = some (36, .getfield 27, 3, 8, 5, 5, 0) := ceB_eq (by decide +kernel)
theorem f_74_39 : fnd 74 39 = some (39, .iload_n 1, 1, 0, 0, 0, 0) := ceB_eq (by decide +kernel)
theorem f_74_40 : fnd 74 40 = some (40, .aload_n 0, 1, 0, 0, 0, 0) := ceB_eq (by decide +kernel)
theorem f_74_41 : fnd 74 41 = some (41, .getfield 27, 3, 8, 5, 5, 0) := ceB_eq (by decide +kernel)
theorem f_74_44 : fnd 74 44 = some (44, .iload_n 1, 1, 0, 0, 0, 0) := ceB_eq (by decide +kernel)
theorem f_74_45 : fnd 74 45 = some (45, .iconst 1, 1, 0, 0, 0, 0) := ceB_eq (by decide +kernel)
theorem f_74_46 : fnd 74 46 = some (46, .iadd, 1, 0, 0, 0, 0) := ceB_eq (by decide +kernel)
theorem f_74_47 : fnd 74 47 = some (47, .iaload, 1, 0, 0, 0, 0) := ceB_eq (by decide +kernel)
theorem f_74_48 : fnd 74 48 = some (48, .iastore, 1, 0, 0, 0, 0) := ceB_eq (by decide +kernel)
theorem f_74_49 : fnd 74 49 = some (49, .aload_n 0, 1, 0, 0, 0, 0) := ceB_eq (by decide +kernel)
theorem f_74_50 : fnd 74 50 = some (50, .getfield 31, 3, 8, 6, 6, 0) := ceB_eq (by decide +kernel)
theorem f_74_53 : fnd 74 53 = some (53, .iload_n 1, 1, 0, 0, 0, 0) := ceB_eq (by decide +kernel)
theorem f_74_54 : fnd 74 54 = some (54, .aload_n 0, 1, 0, 0, 0, 0) := ceB_eq (by decide +kernel)
theorem f_74_55 : fnd 74 55 = some (55, .getfield 31, 3, 8, 6, 6, 0) := ceB_eq (by decide +kernel)
theorem f_74_58 : fnd 74 58 = some (58, .iload_n 1, 1, 0, 0, 0, 0) := ceB_eq (by decide +kernel)
theorem f_74_59 : fnd 74 59 = some (59, .iconst 1, 1, 0, 0, 0, 0) := ceB_eq (by decide +kernel)
theorem f_74_60 : fnd 74 60 = some (60, .iadd, 1, 0, 0, 0, 0) := ceB_eq (by decide +kernel)
theorem f_74_61 : fnd 74 61 = some (61, .iaload, 1, 0, 0, 0, 0) := ceB_eq (by decide +kernel)
theorem f_74_62 : fnd 74 62 = some (62, .iastore, 1, 0, 0, 0, 0) := ceB_eq (by decide +kernel)
theorem f_74_63 : fnd 74 63 = some (63, .iinc 1 1, 3, 0, 0, 0, 0) := ceB_eq (by decide +kernel)
theorem f_74_66 : fnd 74 66 = some (66, .goto (-46), 3, 0, 0, 0, 0) := ceB_eq (by decide +kernel)
theorem f_74_69 : fnd 74 69 = some (69, .return_, 1, 0, 0, 0, 0) := ceB_eq (by decide +kernel)
theorem rk_74 : rkm 74 = 4 := by decide +kernel
theorem ml_74 : (mth 74).2.1 = 2 := by decide +kernel
set_option maxRecDepth 100000 in
theorem T_Core_forgetLongestSeen (k0 i0 : Int) (σ : ST) (Q : Option AV → ST → Prop) (h :
  (((0 < (σ 21 k0 i0 4) : Prop) →
    wp m_Core_forgetLongestSeen (20, [some (.inr (.inr (21, k0, i0))), some (.inl 0)], [], (up σ 21 k0 i0 4 (wr ((σ 21 k0 i0 4) - 1)))) Q) ∧
  (¬ (0 < (σ 21 k0 i0 4)) →
    Q none σ))) :
  wpM m_Core_forgetLongestSeen [.inr (.inr (21, k0, i0))] σ Q :=
 wpM_of ml_74 (L := [some (.inr (.inr (21, k0, i0))), none]) rfl
 (w_aload_n (p' := 1) f_74_0 rfl rfl
 (w_getfield (p' := 4) f_74_1 rfl (x := .inl (σ 21 k0 i0 4)) rfl rfl
 (w_if (p' := 8) (q' := 7) f_74_4 rfl rfl
 (fun c101 => w_aload_n (p' := 9) f_74_8 rfl rfl
 (w_dupR (p' := 10) f_74_9 rfl
 (w_getfield (p' := 13) f_74_10 rfl (x := .inl (σ 21 k0 i0 4)) rfl rfl
 (w_iconst (p' := 14) f_74_13 rfl
 (w_isub (p' := 15) f_74_14 rfl
 (w_putI (p' := 18) f_74_15 rfl rfl (c' := 4) rfl rfl
 (w_iconst (p' := 19) f_74_18 rfl
 (w_istore_n (p' := 20) f_74_19 (L' := [some (.inr (.inr (21, k0, i0))), some (.inl 0)]) rfl rfl
 ((h.1 c101))))))))))
 (fun c101 => w_vret f_74_7 rk_74 (h.2 c101)))))
set_option maxRecDepth 100000 in
theorem T_Core_forgetLongestSeen_20 (k0 i0 x1 : Int) (σ : ST) (Q : Option AV → ST → Prop) (h :
  ((((σ 21 k0 i0 4) ≤ x1 : Prop) →
    Q none σ) ∧
  (¬ ((σ 21 k0 i0 4) ≤ x1) →
    (((3 ≤ (wr (x1 + 1)) : Prop) →
      Q none σ) ∧
    (¬ (3 ≤ (wr (x1 + 1))) →
      ((0 : Int) ≤ (wr (x1 + 1)) ∧ ((wr (x1 + 1)) : Int) < 3) ∧
      ((0 : Int) ≤ x1 ∧ (x1 : Int) < 3) ∧
      ((0 : Int) ≤ (wr (x1 + 1)) ∧ ((wr (x1 + 1)) : Int) < 3) ∧
      ((0 : Int) ≤ x1 ∧ (x1 : Int) < 3) ∧
      wp m_Core_forgetLongestSeen (20, [some (.inr (.inr (21, k0, i0))), some (.inl (wr (x1 + 1)))], [], (up (up σ 22 k0 i0 x1 (σ 22 k0 i0 (wr (x1 + 1)))) 23 k0 i0 x1 ((up σ 22 k0 i0 x1 (σ 22 k0 i0 (wr (x1 + 1)))) 23 k0 i0 (wr (x1 + 1))))) Q))))) :
  wp m_Core_forgetLongestSeen (20, [some (.inr (.inr (21, k0, i0))), some (.inl x1)], [], σ) Q :=
 w_iload_n (p' := 21) f_74_20 rfl rfl
 (w_aload_n (p' := 22) f_74_21 rfl rfl
 (w_getfield (p' := 25) f_74_22 rfl (x := .inl (σ 21 k0 i0 4)) rfl rfl
 (w_icmp (p' := 69) (q' := 28) f_74_25 rfl rfl
 (fun c102 => w_vret f_74_69 rk_74 (h.1 c102))
 (fun c102 => w_iload_n (p' := 29) f_74_28 rfl rfl
 (w_iconst (p' := 30) f_74_29 rfl
 (w_iadd (p' := 31) f_74_30 rfl
 (w_iconst (p' := 32) f_74_31 rfl
 (w_icmp (p' := 69) (q' := 35) f_74_32 rfl rfl
 (fun c101 => w_vret f_74_69 rk_74 ((h.2 c102).1 c101))
 (fun c101 => w_aload_n (p' := 36) f_74_35 rfl rfl
 (w_getfield (p' := 39) f_74_36 rfl (x := .inr (.inr (22, k0, i0))) rfl rfl
 (w_iload_n (p' := 40) f_74_39 rfl rfl
 (w_aload_n (p' := 41) f_74_40 rfl rfl
 (w_getfield (p' := 44) f_74_41 rfl (x := .inr (.inr (22, k0, i0))) rfl rfl
 (w_iload_n (p' := 45) f_74_44 rfl rfl
 (w_iconst (p' := 46) f_74_45 rfl
 (w_iadd (p' := 47) f_74_46 rfl
 (w_iaload (p' := 48) f_74_47 rfl (n := 3) rfl ((h.2 c102).2 c101).1 rfl
 (w_iastore (p' := 49) f_74_48 rfl (n := 3) rfl ((h.2 c102).2 c101).2.1 rfl
 (w_aload_n (p' := 50) f_74_49 rfl rfl
 (w_getfield (p' := 53) f_74_50 rfl (x := .inr (.inr (23, k0, i0))) rfl rfl
 (w_iload_n (p' := 54) f_74_53 rfl rfl
 (w_aload_n (p' := 55) f_74_54 rfl rfl
 (w_getfield (p' := 58) f_74_55 rfl (x := .inr (.inr (23, k0, i0))) rfl rfl
 (w_iload_n (p' := 59) f_74_58 rfl rfl
 (w_iconst (p' := 60) f_74_59 rfl
 (w_iadd (p' := 61) f_74_60 rfl
 (w_iaload (p' := 62) f_74_61 rfl (n := 3) rfl ((h.2 c102).2 c101).2.2.1 rfl
 (w_iastore (p' := 63) f_74_62 rfl (n := 3) rfl ((h.2 c102).2 c101).2.2.2.1 rfl
 (w_iinc (p' := 66) f_74_63 rfl (L' := [some (.inr (.inr (21, k0, i0))), some (.inl (wr (x1 + 1)))]) rfl rfl
 (w_goto (p' := 20) f_74_66 rfl
 (((h.2 c102).2 c101).2.2.2.2)))))))))))))))))))))))))))))))
/-! ClosedRooms$Core.see(III)V -/
theorem f_75_0 : fnd 75 0 = some (0, .aload_n 0, 1, 0, 0, 0, 0) := ceB_eq (by decide +kernel)
theorem f_75_1 : fnd 75 1 = some (1, .getfield 24, 3, 8, 4, 4, 0) := ceB_eq (by decide +kernel)
theorem f_75_4 : fnd 75 4 = some (4, .iload_n 3, 1, 0, 0, 0, 0) := ceB_eq (by decide +kernel)
theorem f_75_5 : fnd 75 5 = some (5, .if_icmp .ge 11, 3, 0, 0, 0, 0) := ceB_eq (by decide +kernel)
theorem f_75_8 : fnd 75 8 = some (8, .aload_n 0, 1, 0, 0, 0, 0) := ceB_eq (by decide +kernel)
theorem f_75_9 : fnd 75 9 = some (9, .getfield 24, 3, 8, 4, 4, 0) := ceB_eq (by decide +kernel)
theorem f_75_12 : fnd 75 12 = some (12, .iconst 3, 1, 0, 0, 0, 0) := ceB_eq (by decide +kernel)
theorem f_75_13 : fnd 75 13 = some (13, .if_icmp .lt 7, 3, 0, 0, 0, 0) := ceB_eq (by decide +kernel)
theorem f_75_16 : fnd 75 16 = some (16, .aload_n 0, 1, 0, 0, 0, 0) := ceB_eq (by decide +kernel)
theorem f_75_17 : fnd 75 17 = some (17, .invokevirtual 43, 3, 74, 1, 8, 0) := ceB_eq (by decide +kernel)
theorem f_75_20 : fnd 75 20 = some (20, .aload_n 0, 1, 0, 0, 0, 0) := ceB_eq (by decide +kernel)
theorem f_75_21 : fnd 75 21 = some (21, .getfield 24, 3, 8, 4, 4, 0) := ceB_eq (by decide +kernel)
theorem f_75_24 : fnd 75 24 = some (24, .ifCond .lt 11, 3, 0, 0, 0, 0) := ceB_eq (by decide +kernel)
theorem f_75_27 : fnd 75 27 = some (27, .aload_n 0, 1, 0, 0, 0, 0) := ceB_eq (by decide +kernel)
theorem f_75_28 : fnd 75 28 = some (28, .getfield 24, 3, 8, 4, 4, 0) := ceB_eq (by decide +kernel)
theorem f_75_31 : fnd 75 31 = some (31, .iconst 3, 1, 0, 0, 0, 0) := ceB_eq (by decide +kernel)
theorem f_75_32 : fnd 75 32 = some (32, .if_icmp .lt 4, 3, 0, 0, 0, 0) := ceB_eq (by decide +kernel)
theorem f_75_35 : fnd 75 35 = some (35, .return_, 1, 0, 0, 0, 0) := ceB_eq (by decide +kernel)
theorem f_75_36 : fnd 75 36 = some (36, .aload_n 0, 1, 0, 0, 0, 0) := ceB_eq (by decide +kernel)
theorem f_75_37 : fnd 75 37 = some (37, .getfield 27, 3, 8, 5, 5, 0) := ceB_eq (by decide +kernel)
theorem f_75_40 : fnd 75 40 = some (40, .aload_n 0, 1, 0, 0, 0, 0) := ceB_eq (by decide +kernel)
theorem f_75_41 : fnd 75 41 = some (41, .getfield 24, 3, 8, 4, 4, 0) := ceB_eq (by decide +kernel)
theorem f_75_44 : fnd 75 44 = some (44, .iload_n 1, 1, 0, 0, 0, 0) := ceB_eq (by decide +kernel)
theorem f_75_45 : fnd 75 45 = some (45, .iastore, 1, 0, 0, 0, 0) := ceB_eq (by decide +kernel)
theorem f_75_46 : fnd 75 46 = some (46, .aload_n 0, 1, 0, 0, 0, 0) := ceB_eq (by decide +kernel)
theorem f_75_47 : fnd 75 47 = some (47, .getfield 31, 3, 8, 6, 6, 0) := ceB_eq (by decide +kernel)
theorem f_75_50 : fnd 75 50 = some (50, .aload_n 0, 1, 0, 0, 0, 0) := ceB_eq (by decide +kernel)
theorem f_75_51 : fnd 75 51 = some (51, .getfield 24, 3, 8, 4, 4, 0) := ceB_eq (by decide +kernel)
theorem f_75_54 : fnd 75 54 = some (54, .iload_n 2, 1, 0, 0, 0, 0) := ceB_eq (by decide +kernel)
theorem f_75_55 : fnd 75 55 = some (55, .iastore, 1, 0, 0, 0, 0) := ceB_eq (by decide +kernel)
theorem f_75_56 : fnd 75 56 = some (56, .aload_n 0, 1, 0, 0, 0, 0) := ceB_eq (by decide +kernel)
theorem f_75_57 : fnd 75 57 = some (57, .dup, 1, 0, 0, 0, 0) := ceB_eq (by decide +kernel)
theorem f_75_58 : fnd 75 58 = some (58, .getfield 24, 3, 8, 4, 4, 0) := ceB_eq (by decide +kernel)
theorem f_75_61 : fnd 75 61 = some (61, .iconst 1, 1, 0, 0, 0, 0) := ceB_eq (by decide +kernel)
theorem f_75_62 : fnd 75 62 = some (62, .iadd, 1, 0, 0, 0, 0) := ceB_eq (by decide +kernel)
theorem f_75_63 : fnd 75 63 = some (63, .putfield 24, 3, 8, 4, 4, 0) := ceB_eq (by decide +kernel)
theorem f_75_66 : fnd 75 66 = some (66, .return_, 1, 0, 0, 0, 0) := ceB_eq (by decide +kernel)
theorem rk_75 : rkm 75 = 4 := by decide +kernel
theorem ml_75 : (mth 75).2.1 = 4 := by decide +kernel
set_option maxRecDepth 100000 in
theorem T_Core_see (k0 i0 x1 x2 x3 : Int) (σ : ST) (Q : Option AV → ST → Prop) (h :
  (((x3 ≤ (σ 21 k0 i0 4) : Prop) →
    wpM m_Core_forgetLongestSeen [.inr (.inr (21, k0, i0))] σ (asV fun s101 =>
    wp m_Core_see (20, [some (.inr (.inr (21, k0, i0))), some (.inl x1), some (.inl x2), some (.inl x3)], [], s101) Q)) ∧
  (¬ (x3 ≤ (σ 21 k0 i0 4)) →
    ((((σ 21 k0 i0 4) < 3 : Prop) →
      wp m_Core_see (20, [some (.inr (.inr (21, k0, i0))), some (.inl x1), some (.inl x2), some (.inl x3)], [], σ) Q) ∧
    (¬ ((σ 21 k0 i0 4) < 3) →
      wpM m_Core_forgetLongestSeen [.inr (.inr (21, k0, i0))] σ (asV fun s102 =>
      wp m_Core_see (20, [some (.inr (.inr (21, k0, i0))), some (.inl x1), some (.inl x2), some (.inl x3)], [], s102) Q)))))) :
  wpM m_Core_see [.inr (.inr (21, k0, i0)), .inl x1, .inl x2, .inl x3] σ Q :=
 wpM_of ml_75 (L := [some (.inr (.inr (21, k0, i0))), some (.inl x1), some (.inl x2), some (.inl x3)]) rfl
 (w_aload_n (p' := 1) f_75_0 rfl rfl
 (w_getfield (p' := 4) f_75_1 rfl (x := .inl (σ 21 k0 i0 4)) rfl rfl
 (w_iload_n (p' := 5) f_75_4 rfl rfl
 (w_icmp (p' := 16) (q' := 8) f_75_5 rfl rfl
 (fun c104 => w_aload_n (p' := 17) f_75_16 rfl rfl
 (w_callV (p' := 20) f_75_17 rfl rfl rfl rfl rfl (r := []) rfl rfl (kV rk_74 fun s101 h101 =>
 h101) (h.1 c104)))
 (fun c104 => w_aload_n (p' := 9) f_75_8 rfl rfl
 (w_getfield (p' := 12) f_75_9 rfl (x := .inl (σ 21 k0 i0 4)) rfl rfl
 (w_iconst (p' := 13) f_75_12 rfl
 (w_icmp (p' := 20) (q' := 16) f_75_13 rfl rfl
 (fun c103 => ((h.2 c104).1 c103))
 (fun c103 => w_aload_n (p' := 17) f_75_16 rfl rfl
 (w_callV (p' := 20) f_75_17 rfl rfl rfl rfl rfl (r := []) rfl rfl (kV rk_74 fun s102 h102 =>
 h102) ((h.2 c104).2 c103)))))))))))
set_option maxRecDepth 100000 in
theorem T_Core_see_20 (k0 i0 x1 x2 : Int) (o3 : Option AV) (σ : ST) (Q : Option AV → ST → Prop) (h :
  ((((σ 21 k0 i0 4) < 0 : Prop) →
    Q none σ) ∧
  (¬ ((σ 21 k0 i0 4) < 0) →
    ((((σ 21 k0 i0 4) < 3 : Prop) →
      ((0 : Int) ≤ (σ 21 k0 i0 4) ∧ ((σ 21 k0 i0 4) : Int) < 3) ∧
      ((0 : Int) ≤ ((up σ 22 k0 i0 (σ 21 k0 i0 4) x1) 21 k0 i0 4) ∧ (((up σ 22 k0 i0 (σ 21 k0 i0 4) x1) 21 k0 i0 4) : Int) < 3) ∧
      Q none (up (up (up σ 22 k0 i0 (σ 21 k0 i0 4) x1) 23 k0 i0 ((up σ 22 k0 i0 (σ 21 k0 i0 4) x1) 21 k0 i0 4) x2) 21 k0 i0 4 (wr (((up (up σ 22 k0 i0 (σ 21 k0 i0 4) x1) 23 k0 i0 ((up σ 22 k0 i0 (σ 21 k0 i0 4) x1) 21 k0 i0 4) x2) 21 k0 i0 4) + 1)))) ∧
    (¬ ((σ 21 k0 i0 4) < 3) →
      Q none σ))))) :
  wp m_Core_see (20, [some (.inr (.inr (21, k0, i0))), some (.inl x1), some (.inl x2), o3], [], σ) Q :=
 w_aload_n (p' := 21) f_75_20 rfl rfl
 (w_getfield (p' := 24) f_75_21 rfl (x := .inl (σ 21 k0 i0 4)) rfl rfl
 (w_if (p' := 35) (q' := 27) f_75_24 rfl rfl
 (fun c102 => w_vret f_75_35 rk_75 (h.1 c102))
 (fun c102 => w_aload_n (p' := 28) f_75_27 rfl rfl
 (w_getfield (p' := 31) f_75_28 rfl (x := .inl (σ 21 k0 i0 4)) rfl rfl
 (w_iconst (p' := 32) f_75_31 rfl
 (w_icmp (p' := 36) (q' := 35) f_75_32 rfl rfl
 (fun c101 => w_aload_n (p' := 37) f_75_36 rfl rfl
 (w_getfield (p' := 40) f_75_37 rfl (x := .inr (.inr (22, k0, i0))) rfl rfl
 (w_aload_n (p' := 41) f_75_40 rfl rfl
 (w_getfield (p' := 44) f_75_41 rfl (x := .inl (σ 21 k0 i0 4)) rfl rfl
 (w_iload_n (p' := 45) f_75_44 rfl rfl
 (w_iastore (p' := 46) f_75_45 rfl (n := 3) rfl ((h.2 c102).1 c101).1 rfl
 (w_aload_n (p' := 47) f_75_46 rfl rfl
 (w_getfield (p' := 50) f_75_47 rfl (x := .inr (.inr (23, k0, i0))) rfl rfl
 (w_aload_n (p' := 51) f_75_50 rfl rfl
 (w_getfield (p' := 54) f_75_51 rfl (x := .inl ((up σ 22 k0 i0 (σ 21 k0 i0 4) x1) 21 k0 i0 4)) rfl rfl
 (w_iload_n (p' := 55) f_75_54 rfl rfl
 (w_iastore (p' := 56) f_75_55 rfl (n := 3) rfl ((h.2 c102).1 c101).2.1 rfl
 (w_aload_n (p' := 57) f_75_56 rfl rfl
 (w_dupR (p' := 58) f_75_57 rfl
 (w_getfield (p' := 61) f_75_58 rfl (x := .inl ((up (up σ 22 k0 i0 (σ 21 k0 i0 4) x1) 23 k0 i0 ((up σ 22 k0 i0 (σ 21 k0 i0 4) x1) 21 k0 i0 4) x2) 21 k0 i0 4)) rfl rfl
 (w_iconst (p' := 62) f_75_61 rfl
 (w_iadd (p' := 63) f_75_62 rfl
 (w_putI (p' := 66) f_75_63 rfl rfl (c' := 4) rfl rfl
 (w_vret f_75_66 rk_75 ((h.2 c102).1 c101).2.2)))))))))))))))))))
 (fun c101 => w_vret f_75_35 rk_75 ((h.2 c102).2 c101))))))))
/-! ClosedRooms$Acts.touchPage(III)I -/
theorem f_76_0 : fnd 76 0 = some (0, .aload_n 0, 1, 0, 0, 0, 0) := ceB_eq (by decide +kernel)
theorem f_76_1 : fnd 76 1 = some (1, .getfield 12, 3, 3, 0, 0, 0) := ceB_eq (by decide +kernel)
theorem f_76_4 : fnd 76 4 = some (4, .iload_n 1, 1, 0, 0, 0, 0) := ceB_eq (by decide +kernel)
theorem f_76_5 : fnd 76 5 = some (5, .invokevirtual 175, 3, 40, 2, 4, 0) := ceB_eq (by decide +kernel)
theorem f_76_8 : fnd 76 8 = some (8, .ifCond .ne 9, 3, 0, 0, 0, 0) := ceB_eq (by decide +kernel)
theorem f_76_11 : fnd 76 11 = some (11, .aload_n 0, 1, 0, 0, 0, 0) := ceB_eq (by decide +kernel)
theorem f_76_12 : fnd 76 12 = some (12, .iconst 0, 1, 0, 0, 0, 0) := ceB_eq (by decide +kernel)
theorem f_76_13 : fnd 76 13 = some (13, .invokevirtual 85, 3, 53, 2, 3, 0) := ceB_eq (by decide +kernel)
theorem f_76_16 : fnd 76 16 = some (16, .ireturn, 1, 0, 0, 0, 0) := ceB_eq (by decide +kernel)
theorem f_76_17 : fnd 76 17 = some (17, .iload_n 2, 1, 0, 0, 0, 0) := ceB_eq (by decide +kernel)
theorem f_76_18 : fnd 76 18 = some (18, .ifCond .lt 18, 3, 0, 0, 0, 0) := ceB_eq (by decide +kernel)
theorem f_76_21 : fnd 76 21 = some (21, .iload_n 2, 1, 0, 0, 0, 0) := ceB_eq (by decide +kernel)
theorem f_76_22 : fnd 76 22 = some (22, .bipush 8, 2, 0, 0, 0, 0) := ceB_eq (by decide +kernel)
theorem f_76_24 : fnd 76 24 = some (24, .if_icmp .ge 12, 3, 0, 0, 0, 0) := ceB_eq (by decide +kernel)
theorem f_76_27 : fnd 76 27 = some (27, .iload_n 3, 1, 0, 0, 0, 0) := ceB_eq (by decide +kernel)
theorem f_76_28 : fnd 76 28 = some (28, .ifCond .lt 8, 3, 0, 0, 0, 0) := ceB_eq (by decide +kernel)
theorem f_76_31 : fnd 76 31 = some (31, .iload_n 3, 1, 0, 0, 0, 0) := ceB_eq (by decide +kernel)
theorem f_76_32 : fnd 76 32 = some (32, .iconst 2, 1, 0, 0, 0, 0) := ceB_eq (by decide +kernel)
theorem f_76_33 : fnd 76 33 = some (33, .if_icmp .le 9, 3, 0, 0, 0, 0) := ceB_eq (by decide +kernel)
theorem f_76_36 : fnd 76 36 = some (36, .aload_n 0, 1, 0, 0, 0, 0) := ceB_eq (by decide +kernel)
theorem f_76_37 : fnd 76 37 = some (37, .iconst 1, 1, 0, 0, 0, 0) := ceB_eq (by decide +kernel)
theorem f_76_38 : fnd 76 38 = some (38, .invokevirtual 85, 3, 53, 2, 3, 0) := ceB_eq (by decide +kernel)
theorem f_76_41 : fnd 76 41 = some (41, .ireturn, 1, 0, 0, 0, 0) := ceB_eq (by decide +kernel)
theorem f_76_42 : fnd 76 42 = some (42, .aload_n 0, 1, 0, 0, 0, 0) := ceB_eq (by decide +kernel)
theorem f_76_43 : fnd 76 43 = some (43, .getfield 12, 3, 3, 0, 0, 0) := ceB_eq (by decide +kernel)
theorem f_76_46 : fnd 76 46 = some (46, .getfield 178, 3, 4, 7, 7, 0) := ceB_eq (by decide +kernel)
theorem f_76_49 : fnd 76 49 = some (49, .iload_n 1, 1, 0, 0, 0, 0) := ceB_eq (by decide +kernel)
theorem f_76_50 : fnd 76 50 = some (50, .aaload, 1, 0, 0, 0, 0) := ceB_eq (by decide +kernel)
theorem f_76_51 : fnd 76 51 = some (51, .astore 4, 2, 0, 0, 0, 0) := ceB_eq (by decide +kernel)
theorem f_76_53 : fnd 76 53 = some (53, .aload 4, 2, 0, 0, 0, 0) := ceB_eq (by decide +kernel)
theorem f_76_55 : fnd 76 55 = some (55, .getfield 182, 3, 8, 1, 1, 0) := ceB_eq (by decide +kernel)
theorem f_76_58 : fnd 76 58 = some (58, .istore 5, 2, 0, 0, 0, 0) := ceB_eq (by decide +kernel)
theorem f_76_60 : fnd 76 60 = some (60, .aload_n 0, 1, 0, 0, 0, 0) := ceB_eq (by decide +kernel)
theorem f_76_61 : fnd 76 61 = some (61, .getfield 12, 3, 3, 0, 0, 0) := ceB_eq (by decide +kernel)
theorem f_76_64 : fnd 76 64 = some (64, .iload 5, 2, 0, 0, 0, 0) := ceB_eq (by decide +kernel)
theorem f_76_66 : fnd 76 66 = some (66, .invokevirtual 129, 3, 37, 2, 4, 0) := ceB_eq (by decide +kernel)
theorem f_76_69 : fnd 76 69 = some (69, .ifCond .eq 20, 3, 0, 0, 0, 0) := ceB_eq (by decide +kernel)
theorem f_76_72 : fnd 76 72 = some (72, .aload_n 0, 1, 0, 0, 0, 0) := ceB_eq (by decide +kernel)
theorem f_76_73 : fnd 76 73 = some (73, .getfield 12, 3, 3, 0, 0, 0) := ceB_eq (by decide +kernel)
theorem f_76_76 : fnd 76 76 = some (76, .getfield 112, 3, 4, 6, 6, 0) := ceB_eq (by decide +kernel)
theorem f_76_79 : fnd 76 79 = some (79, .iload 5, 2, 0, 0, 0, 0) := ceB_eq (by decide +kernel)
theorem f_76_81 : fnd 76 81 = some (81, .aaload, 1, 0, 0, 0, 0) := ceB_eq (by decide +kernel)
theorem f_76_82 : fnd 76 82 = some (82, .iload_n 2, 1, 0, 0, 0, 0) := ceB_eq (by decide +kernel)
theorem f_76_83 : fnd 76 83 = some (83, .invokevirtual 133, 3, 38, 2, 7, 0) := ceB_eq (by decide +kernel)
theorem f_76_86 : fnd 76 86 = some (86, .ifCond .ne 9, 3, 0, 0, 0, 0) := ceB_eq (by decide +kernel)
theorem f_76_89 : fnd 76 89 = some (89, .aload_n 0, 1, 0, 0, 0, 0) := ceB_eq (by decide +kernel)
theorem f_76_90 : fnd 76 90 = some (90, .iconst 2, 1, 0, 0, 0, 0) := ceB_eq (by decide +kernel)
theorem f_76_91 : fnd 76 91 = some (91, .invokevirtual 85, 3, 53, 2, 3, 0) := ceB_eq (by decide +kernel)
theorem f_76_94 : fnd 76 94 = some (94, .ireturn, 1, 0, 0, 0, 0) := ceB_eq (by decide +kernel)
theorem f_76_95 : fnd 76 95 = some (95, .aload 4, 2, 0, 0, 0, 0) := ceB_eq (by decide +kernel)
theorem f_76_97 : fnd 76 97 = some (97, .iload_n 2, 1, 0, 0, 0, 0) := ceB_eq (by decide +kernel)
theorem f_76_98 : fnd 76 98 = some (98, .invokevirtual 226, 3, 73, 2, 8, 0) := ceB_eq (by decide +kernel)
theorem f_76_101 : fnd 76 101 = some (101, .istore 6, 2, 0, 0, 0, 0) := ceB_eq (by decide +kernel)
theorem f_76_103 : fnd 76 103 = some (103, .iload 6, 2, 0, 0, 0, 0) := ceB_eq (by decide +kernel)
theorem f_76_105 : fnd 76 105 = some (105, .iconst (-1), 1, 0, 0, 0, 0) := ceB_eq (by decide +kernel)
theorem f_76_106 : fnd 76 106 = some (106, .if_icmp .eq 7, 3, 0, 0, 0, 0) := ceB_eq (by decide +kernel)
theorem f_76_109 : fnd 76 109 = some (109, .iconst 1, 1, 0, 0, 0, 0) := ceB_eq (by decide +kernel)
theorem f_76_110 : fnd 76 110 = some (110, .goto 4, 3, 0, 0, 0, 0) := ceB_eq (by decide +kernel)
theorem f_76_113 : fnd 76 113 = some (113, .iconst 0, 1, 0, 0, 0, 0) := ceB_eq (by decide +kernel)
theorem f_76_114 : fnd 76 114 = some (114, .istore 7, 2, 0, 0, 0, 0) := ceB_eq (by decide +kernel)
theorem f_76_116 : fnd 76 116 = some (116, .iload 7, 2, 0, 0, 0, 0) := ceB_eq (by decide +kernel)
theorem f_76_118 : fnd 76 118 = some (118, .ifCond .ne 20, 3, 0, 0, 0, 0) := ceB_eq (by decide +kernel)
theorem f_76_121 : fnd 76 121 = some (121, .aload_n 0, 1, 0, 0, 0, 0) := ceB_eq (by decide +kernel)
theorem f_76_122 : fnd 76 122 = some (122, .getfield 12, 3, 3, 0, 0, 0) := ceB_eq (by decide +kernel)
theorem f_76_125 : fnd 76 125 = some (125, .getfield 112, 3, 4, 6, 6, 0) := ceB_eq (by decide +kernel)
theorem f_76_128 : fnd 76 128 = some (128, .iload 5, 2, 0, 0, 0, 0) := ceB_eq (by decide +kernel)
theorem f_76_130 : fnd 76 130 = some (130, .aaload, 1, 0, 0, 0, 0) := ceB_eq (by decide +kernel)
theorem f_76_131 : fnd 76 131 = some (131, .getfield 190, 3, 7, 8, 8, 0) := ceB_eq (by decide +kernel)
theorem f_76_134 : fnd 76 134 = some (134, .iload_n 2, 1, 0, 0, 0, 0) := ceB_eq (by decide +kernel)
theorem f_76_135 : fnd 76 135 = some (135, .iaload, 1, 0, 0, 0, 0) := ceB_eq (by decide +kernel)
theorem f_76_136 : fnd 76 136 = some (136, .istore 6, 2, 0, 0, 0, 0) := ceB_eq (by decide +kernel)
theorem f_76_138 : fnd 76 138 = some (138, .aload_n 0, 1, 0, 0, 0, 0) := ceB_eq (by decide +kernel)
theorem f_76_139 : fnd 76 139 = some (139, .getfield 12, 3, 3, 0, 0, 0) := ceB_eq (by decide +kernel)
theorem f_76_142 : fnd 76 142 = some (142, .iload 6, 2, 0, 0, 0, 0) := ceB_eq (by decide +kernel)
theorem f_76_144 : fnd 76 144 = some (144, .iload 5, 2, 0, 0, 0, 0) := ceB_eq (by decide +kernel)
theorem f_76_146 : fnd 76 146 = some (146, .iload_n 2, 1, 0, 0, 0, 0) := ceB_eq (by decide +kernel)
theorem f_76_147 : fnd 76 147 = some (147, .invokevirtual 193, 3, 67, 4, 4, 0) := ceB_eq (by decide +kernel)
theorem f_76_150 : fnd 76 150 = some (150, .ifCond .ne 9, 3, 0, 0, 0, 0) := ceB_eq (by decide +kernel)
theorem f_76_153 : fnd 76 153 = some (153, .aload_n 0, 1, 0, 0, 0, 0) := ceB_eq (by decide +kernel)
theorem f_76_154 : fnd 76 154 = some (154, .iconst 4, 1, 0, 0, 0, 0) := ceB_eq (by decide +kernel)
theorem f_76_155 : fnd 76 155 = some (155, .invokevirtual 85, 3, 53, 2, 3, 0) := ceB_eq (by decide +kernel)
theorem f_76_158 : fnd 76 158 = some (158, .ireturn, 1, 0, 0, 0, 0) := ceB_eq (by decide +kernel)
theorem f_76_159 : fnd 76 159 = some (159, .aload_n 0, 1, 0, 0, 0, 0) := ceB_eq (by decide +kernel)
theorem f_76_160 : fnd 76 160 = some (160, .getfield 12, 3, 3, 0, 0, 0) := ceB_eq (by decide +kernel)
theorem f_76_163 : fnd 76 163 = some (163, .getfield 122, 3, 4, 5, 5, 0) := ceB_eq (by decide +kernel)
theorem f_76_166 : fnd 76 166 = some (166, .iload 6, 2, 0, 0, 0, 0) := ceB_eq (by decide +kernel)
theorem f_76_168 : fnd 76 168 = some (168, .aaload, 1, 0, 0, 0, 0) := ceB_eq (by decide +kernel)
theorem f_76_169 : fnd 76 169 = some (169, .astore 8, 2, 0, 0, 0, 0) := ceB_eq (by decide +kernel)
theorem f_76_171 : fnd 76 171 = some (171, .iload 7, 2, 0, 0, 0, 0) := ceB_eq (by decide +kernel)
theorem f_76_173 : fnd 76 173 = some (173, .ifCond .ne 26, 3, 0, 0, 0, 0) := ceB_eq (by decide +kernel)
theorem f_76_176 : fnd 76 176 = some (176, .aload 8, 2, 0, 0, 0, 0) := ceB_eq (by decide +kernel)
theorem f_76_178 : fnd 76 178 = some (178, .getfield 203, 3, 6, 5, 5, 0) := ceB_eq (by decide +kernel)
theorem f_76_181 : fnd 76 181 = some (181, .ifCond .ne 12, 3, 0, 0, 0, 0) := ceB_eq (by decide +kernel)
theorem f_76_184 : fnd 76 184 = some (184, .aload 8, 2, 0, 0, 0, 0) := ceB_eq (by decide +kernel)
theorem f_76_186 : fnd 76 186 = some (186, .getfield 197, 3, 6, 0, 0, 0) := ceB_eq (by decide +kernel)
theorem f_76_189 : fnd 76 189 = some (189, .iconst 2, 1, 0, 0, 0, 0) := ceB_eq (by decide +kernel)
theorem f_76_190 : fnd 76 190 = some (190, .if_icmp .eq 9, 3, 0, 0, 0, 0) := ceB_eq (by decide +kernel)
theorem f_76_193 : fnd 76 193 = some (193, .aload_n 0, 1, 0, 0, 0, 0) := ceB_eq (by decide +kernel)
theorem f_76_194 : fnd 76 194 = some (194, .iconst 4, 1, 0, 0, 0, 0) := ceB_eq (by decide +kernel)
theorem f_76_195 : fnd 76 195 = some (195, .invokevirtual 85, 3, 53, 2, 3, 0) := ceB_eq (by decide +kernel)
theorem f_76_198 : fnd 76 198 = some (198, .ireturn, 1, 0, 0, 0, 0) := ceB_eq (by decide +kernel)
theorem f_76_199 : fnd 76 199 = some (199, .aload 8, 2, 0, 0, 0, 0) := ceB_eq (by decide +kernel)
theorem f_76_201 : fnd 76 201 = some (201, .getfield 147, 3, 6, 3, 3, 0) := ceB_eq (by decide +kernel)
theorem f_76_204 : fnd 76 204 = some (204, .iconst 1, 1, 0, 0, 0, 0) := ceB_eq (by decide +kernel)
theorem f_76_205 : fnd 76 205 = some (205, .iload_n 3, 1, 0, 0, 0, 0) := ceB_eq (by decide +kernel)
theorem f_76_206 : fnd 76 206 = some (206, .ishl, 1, 0, 0, 0, 0) := ceB_eq (by decide +kernel)
theorem f_76_207 : fnd 76 207 = some (207, .iand, 1, 0, 0, 0, 0) := ceB_eq (by decide +kernel)
theorem f_76_208 : fnd 76 208 = some (208, .ifCond .ne 9, 3, 0, 0, 0, 0) := ceB_eq (by decide +kernel)
theorem f_76_211 : fnd 76 211 = some (211, .aload_n 0, 1, 0, 0, 0, 0) := ceB_eq (by decide +kernel)
theorem f_76_212 : fnd 76 212 = some (212, .iconst 4, 1, 0, 0, 0, 0) := ceB_eq (by decide +kernel)
theorem f_76_213 : fnd 76 213 = some (213, .invokevirtual 85, 3, 53, 2, 3, 0) := ceB_eq (by decide +kernel)
theorem f_76_216 : fnd 76 216 = some (216, .ireturn, 1, 0, 0, 0, 0) := ceB_eq (by decide +kernel)
theorem f_76_217 : fnd 76 217 = some (217, .iload 7, 2, 0, 0, 0, 0) := ceB_eq (by decide +kernel)
theorem f_76_219 : fnd 76 219 = some (219, .ifCond .ne 18, 3, 0, 0, 0, 0) := ceB_eq (by decide +kernel)
theorem f_76_222 : fnd 76 222 = some (222, .aload 4, 2, 0, 0, 0, 0) := ceB_eq (by decide +kernel)
theorem f_76_224 : fnd 76 224 = some (224, .iload_n 2, 1, 0, 0, 0, 0) := ceB_eq (by decide +kernel)
theorem f_76_225 : fnd 76 225 = some (225, .iload 6, 2, 0, 0, 0, 0) := ceB_eq (by decide +kernel)
theorem f_76_227 : fnd 76 227 = some (227, .aload_n 0, 1, 0, 0, 0, 0) := ceB_eq (by decide +kernel)
theorem f_76_228 : fnd 76 228 = some (228, .getfield 12, 3, 3, 0, 0, 0) := ceB_eq (by decide +kernel)
theorem f_76_231 : fnd 76 231 = some (231, .getfield 229, 3, 4, 2, 2, 0) := ceB_eq (by decide +kernel)
theorem f_76_234 : fnd 76 234 = some (234, .invokevirtual 232, 3, 75, 4, 8, 0) := ceB_eq (by decide +kernel)
theorem f_76_237 : fnd 76 237 = some (237, .iload_n 3, 1, 0, 0, 0, 0) := ceB_eq (by decide +kernel)
theorem f_76_238 : fnd 76 238 = some (238, .ifCond .ne 16, 3, 0, 0, 0, 0) := ceB_eq (by decide +kernel)
theorem f_76_241 : fnd 76 241 = some (241, .aload 4, 2, 0, 0, 0, 0) := ceB_eq (by decide +kernel)
theorem f_76_243 : fnd 76 243 = some (243, .aload 8, 2, 0, 0, 0, 0) := ceB_eq (by decide +kernel)
theorem f_76_245 : fnd 76 245 = some (245, .getfield 150, 3, 6, 4, 4, 0) := ceB_eq (by decide +kernel)
theorem f_76_248 : fnd 76 248 = some (248, .putfield 213, 3, 8, 0, 0, 0) := ceB_eq (by decide +kernel)
theorem f_76_251 : fnd 76 251 = some (251, .goto 46, 3, 0, 0, 0, 0) := ceB_eq (by decide +kernel)
theorem f_76_254 : fnd 76 254 = some (254, .iload_n 3, 1, 0, 0, 0, 0) := ceB_eq (by decide +kernel)
theorem f_76_255 : fnd 76 255 = some (255, .iconst 1, 1, 0, 0, 0, 0) := ceB_eq (by decide +kernel)
theorem f_76_256 : fnd 76 256 = some (256, .if_icmp .ne 16, 3, 0, 0, 0, 0) := ceB_eq (by decide +kernel)
theorem f_76_259 : fnd 76 259 = some (259, .aload 8, 2, 0, 0, 0, 0) := ceB_eq (by decide +kernel)
theorem f_76_261 : fnd 76 261 = some (261, .aload 4, 2, 0, 0, 0, 0) := ceB_eq (by decide +kernel)
theorem f_76_263 : fnd 76 263 = some (263, .getfield 213, 3, 8, 0, 0, 0) := ceB_eq (by decide +kernel)
theorem f_76_266 : fnd 76 266 = some (266, .putfield 150, 3, 6, 4, 4, 0) := ceB_eq (by decide +kernel)
theorem f_76_269 : fnd 76 269 = some (269, .goto 28, 3, 0, 0, 0, 0) := ceB_eq (by decide +kernel)
theorem f_76_272 : fnd 76 272 = some (272, .aload 4, 2, 0, 0, 0, 0) := ceB_eq (by decide +kernel)
theorem f_76_274 : fnd 76 274 = some (274, .bipush 7, 2, 0, 0, 0, 0) := ceB_eq (by decide +kernel)
theorem f_76_276 : fnd 76 276 = some (276, .aload 4, 2, 0, 0, 0, 0) := ceB_eq (by decide +kernel)
theorem f_76_278 : fnd 76 278 = some (278, .getfield 213, 3, 8, 0, 0, 0) := ceB_eq (by decide +kernel)
theorem f_76_281 : fnd 76 281 = some (281, .imul, 1, 0, 0, 0, 0) := ceB_eq (by decide +kernel)
theorem f_76_282 : fnd 76 282 = some (282, .aload 8, 2, 0, 0, 0, 0) := ceB_eq (by decide +kernel)
theorem f_76_284 : fnd 76 284 = some (284, .getfield 150, 3, 6, 4, 4, 0) := ceB_eq (by decide +kernel)
theorem f_76_287 : fnd 76 287 = some (287, .iadd, 1, 0, 0, 0, 0) := ceB_eq (by decide +kernel)
theorem f_76_288 : fnd 76 288 = some (288, .sipush 1000, 3, 0, 0, 0, 0) := ceB_eq (by decide +kernel)
theorem f_76_291 : fnd 76 291 = some (291, .invokestatic 235, 3, 45, 2, 11, 0) := ceB_eq (by decide +kernel)
theorem f_76_294 : fnd 76 294 = some (294, .putfield 213, 3, 8, 0, 0, 0) := ceB_eq (by decide +kernel)
theorem f_76_297 : fnd 76 297 = some (297, .aload 4, 2, 0, 0, 0, 0) := ceB_eq (by decide +kernel)
theorem f_76_299 : fnd 76 299 = some (299, .getfield 213, 3, 8, 0, 0, 0) := ceB_eq (by decide +kernel)
theorem f_76_302 : fnd 76 302 = some (302, .ireturn, 1, 0, 0, 0, 0) := ceB_eq (by decide +kernel)
theorem rk_76 : rkm 76 = 0 := by decide +kernel
theorem ml_76 : (mth 76).2.1 = 9 := by decide +kernel
set_option maxRecDepth 100000 in
theorem T_Acts_touchPage (k0 i0 x1 x2 x3 : Int) (σ : ST) (Q : Option AV → ST → Prop) (h :
  wpM m_World_isCore [.inr (.inr (12, k0, 0)), .inl x1] σ (asI fun r101 s101 =>
  (((r101 ≠ 0 : Prop) →
    (((x2 < 0 : Prop) →
      wpM m_Acts_refuse [.inr (.inr (11, k0, i0)), .inl 1] s101 (asI fun r102 s102 =>
      Q (some (.inl r102)) s102)) ∧
    (¬ (x2 < 0) →
      (((8 ≤ x2 : Prop) →
        wpM m_Acts_refuse [.inr (.inr (11, k0, i0)), .inl 1] s101 (asI fun r103 s103 =>
        Q (some (.inl r103)) s103)) ∧
      (¬ (8 ≤ x2) →
        (((x3 < 0 : Prop) →
          wpM m_Acts_refuse [.inr (.inr (11, k0, i0)), .inl 1] s101 (asI fun r104 s104 =>
          Q (some (.inl r104)) s104)) ∧
        (¬ (x3 < 0) →
          (((x3 ≤ 2 : Prop) →
            ((0 : Int) ≤ x1 ∧ (x1 : Int) < 3) ∧
            wpM m_World_isRoom [.inr (.inr (12, k0, 0)), .inl (s101 21 k0 x1 1)] s101 (asI fun r105 s105 =>
            (((r105 = 0 : Prop) →
              wpM m_Acts_refuse [.inr (.inr (11, k0, i0)), .inl 2] s105 (asI fun r106 s106 =>
              Q (some (.inl r106)) s106)) ∧
            (¬ (r105 = 0) →
              ((0 : Int) ≤ (s101 21 k0 x1 1) ∧ ((s101 21 k0 x1 1) : Int) < 4) ∧
              wpM m_Room_hasAddress [.inr (.inr (17, k0, (s101 21 k0 x1 1))), .inl x2] s105 (asI fun r107 s107 =>
              (((r107 ≠ 0 : Prop) →
                wpM m_Core_pageSeenAt [.inr (.inr (21, k0, x1)), .inl x2] s107 (asI fun r108 s108 =>
                (((r108 = (-1) : Prop) →
                  wp m_Acts_touchPage (114, [some (.inr (.inr (11, k0, i0))), some (.inl x1), some (.inl x2), some (.inl x3), some (.inr (.inr (21, k0, x1))), some (.inl (s101 21 k0 x1 1)), some (.inl r108), none, none], [.inl 0], s108) Q) ∧
                (¬ (r108 = (-1)) →
                  wp m_Acts_touchPage (114, [some (.inr (.inr (11, k0, i0))), some (.inl x1), some (.inl x2), some (.inl x3), some (.inr (.inr (21, k0, x1))), some (.inl (s101 21 k0 x1 1)), some (.inl r108), none, none], [.inl 1], s108) Q)))) ∧
              (¬ (r107 ≠ 0) →
                wpM m_Acts_refuse [.inr (.inr (11, k0, i0)), .inl 2] s107 (asI fun r110 s110 =>
                Q (some (.inl r110)) s110)))))))) ∧
          (¬ (x3 ≤ 2) →
            wpM m_Acts_refuse [.inr (.inr (11, k0, i0)), .inl 1] s101 (asI fun r113 s113 =>
            Q (some (.inl r113)) s113)))))))))) ∧
  (¬ (r101 ≠ 0) →
    wpM m_Acts_refuse [.inr (.inr (11, k0, i0)), .inl 0] s101 (asI fun r118 s118 =>
    Q (some (.inl r118)) s118))))) :
  wpM m_Acts_touchPage [.inr (.inr (11, k0, i0)), .inl x1, .inl x2, .inl x3] σ Q :=
 wpM_of ml_76 (L := [some (.inr (.inr (11, k0, i0))), some (.inl x1), some (.inl x2), some (.inl x3), none, none, none, none, none]) rfl
 (w_aload_n (p' := 1) f_76_0 rfl rfl
 (w_getfield (p' := 4) f_76_1 rfl (x := .inr (.inr (12, k0, 0))) rfl rfl
 (w_iload_n (p' := 5) f_76_4 rfl rfl
 (w_callV (p' := 8) f_76_5 rfl rfl rfl rfl rfl (r := []) rfl rfl (kI (.inr rk_40) fun r101 s101 h101 =>
 w_if (p' := 17) (q' := 11) f_76_8 rfl rfl
 (fun c119 => w_iload_n (p' := 18) f_76_17 rfl rfl
 (w_if (p' := 36) (q' := 21) f_76_18 rfl rfl
 (fun c117 => w_aload_n (p' := 37) f_76_36 rfl rfl
 (w_iconst (p' := 38) f_76_37 rfl
 (w_callV (p' := 41) f_76_38 rfl rfl rfl rfl rfl (r := []) rfl rfl (kI (.inl rk_53) fun r102 s102 h102 =>
 w_iret f_76_41 rk_76 h102) ((h101.1 c119).1 c117))))
 (fun c117 => w_iload_n (p' := 22) f_76_21 rfl rfl
 (w_bipush (p' := 24) f_76_22 rfl
 (w_icmp (p' := 36) (q' := 27) f_76_24 rfl rfl
 (fun c116 => w_aload_n (p' := 37) f_76_36 rfl rfl
 (w_iconst (p' := 38) f_76_37 rfl
 (w_callV (p' := 41) f_76_38 rfl rfl rfl rfl rfl (r := []) rfl rfl (kI (.inl rk_53) fun r103 s103 h103 =>
 w_iret f_76_41 rk_76 h103) (((h101.1 c119).2 c117).1 c116))))
 (fun c116 => w_iload_n (p' := 28) f_76_27 rfl rfl
 (w_if (p' := 36) (q' := 31) f_76_28 rfl rfl
 (fun c115 => w_aload_n (p' := 37) f_76_36 rfl rfl
 (w_iconst (p' := 38) f_76_37 rfl
 (w_callV (p' := 41) f_76_38 rfl rfl rfl rfl rfl (r := []) rfl rfl (kI (.inl rk_53) fun r104 s104 h104 =>
 w_iret f_76_41 rk_76 h104) ((((h101.1 c119).2 c117).2 c116).1 c115))))
 (fun c115 => w_iload_n (p' := 32) f_76_31 rfl rfl
 (w_iconst (p' := 33) f_76_32 rfl
 (w_icmp (p' := 42) (q' := 36) f_76_33 rfl rfl
 (fun c114 => w_aload_n (p' := 43) f_76_42 rfl rfl
 (w_getfield (p' := 46) f_76_43 rfl (x := .inr (.inr (12, k0, 0))) rfl rfl
 (w_getfield (p' := 49) f_76_46 rfl (x := .inr (.inr (20, k0, 0))) rfl rfl
 (w_iload_n (p' := 50) f_76_49 rfl rfl
 (w_aaload (p' := 51) f_76_50 rfl (n := 3) rfl (x := (21, k0, x1)) rfl (((((h101.1 c119).2 c117).2 c116).2 c115).1 c114).1 rfl
 (w_astore (p' := 53) f_76_51 (L' := [some (.inr (.inr (11, k0, i0))), some (.inl x1), some (.inl x2), some (.inl x3), some (.inr (.inr (21, k0, x1))), none, none, none, none]) rfl rfl
 (w_aload (p' := 55) f_76_53 rfl rfl
 (w_getfield (p' := 58) f_76_55 rfl (x := .inl (s101 21 k0 x1 1)) rfl rfl
 (w_istore (p' := 60) f_76_58 (L' := [some (.inr (.inr (11, k0, i0))), some (.inl x1), some (.inl x2), some (.inl x3), some (.inr (.inr (21, k0, x1))), some (.inl (s101 21 k0 x1 1)), none, none, none]) rfl rfl
 (w_aload_n (p' := 61) f_76_60 rfl rfl
 (w_getfield (p' := 64) f_76_61 rfl (x := .inr (.inr (12, k0, 0))) rfl rfl
 (w_iload (p' := 66) f_76_64 rfl rfl
 (w_callV (p' := 69) f_76_66 rfl rfl rfl rfl rfl (r := []) rfl rfl (kI (.inr rk_37) fun r105 s105 h105 =>
 w_if (p' := 89) (q' := 72) f_76_69 rfl rfl
 (fun c112 => w_aload_n (p' := 90) f_76_89 rfl rfl
 (w_iconst (p' := 91) f_76_90 rfl
 (w_callV (p' := 94) f_76_91 rfl rfl rfl rfl rfl (r := []) rfl rfl (kI (.inl rk_53) fun r106 s106 h106 =>
 w_iret f_76_94 rk_76 h106) (h105.1 c112))))
 (fun c112 => w_aload_n (p' := 73) f_76_72 rfl rfl
 (w_getfield (p' := 76) f_76_73 rfl (x := .inr (.inr (12, k0, 0))) rfl rfl
 (w_getfield (p' := 79) f_76_76 rfl (x := .inr (.inr (16, k0, 0))) rfl rfl
 (w_iload (p' := 81) f_76_79 rfl rfl
 (w_aaload (p' := 82) f_76_81 rfl (n := 4) rfl (x := (17, k0, (s101 21 k0 x1 1))) rfl (h105.2 c112).1 rfl
 (w_iload_n (p' := 83) f_76_82 rfl rfl
 (w_callV (p' := 86) f_76_83 rfl rfl rfl rfl rfl (r := []) rfl rfl (kI (.inr rk_38) fun r107 s107 h107 =>
 w_if (p' := 95) (q' := 89) f_76_86 rfl rfl
 (fun c111 => w_aload (p' := 97) f_76_95 rfl rfl
 (w_iload_n (p' := 98) f_76_97 rfl rfl
 (w_callV (p' := 101) f_76_98 rfl rfl rfl rfl rfl (r := []) rfl rfl (kI (.inl rk_73) fun r108 s108 h108 =>
 w_istore (p' := 103) f_76_101 (L' := [some (.inr (.inr (11, k0, i0))), some (.inl x1), some (.inl x2), some (.inl x3), some (.inr (.inr (21, k0, x1))), some (.inl (s101 21 k0 x1 1)), some (.inl r108), none, none]) rfl rfl
 (w_iload (p' := 105) f_76_103 rfl rfl
 (w_iconst (p' := 106) f_76_105 rfl
 (w_icmp (p' := 113) (q' := 109) f_76_106 rfl rfl
 (fun c109 => w_iconst (p' := 114) f_76_113 rfl
 ((h108.1 c109)))
 (fun c109 => w_iconst (p' := 110) f_76_109 rfl
 (w_goto (p' := 114) f_76_110 rfl
 ((h108.2 c109)))))))) (h107.1 c111))))
 (fun c111 => w_aload_n (p' := 90) f_76_89 rfl rfl
 (w_iconst (p' := 91) f_76_90 rfl
 (w_callV (p' := 94) f_76_91 rfl rfl rfl rfl rfl (r := []) rfl rfl (kI (.inl rk_53) fun r110 s110 h110 =>
 w_iret f_76_94 rk_76 h110) (h107.2 c111))))) (h105.2 c112).2)))))))) (((((h101.1 c119).2 c117).2 c116).2 c115).1 c114).2)))))))))))))
 (fun c114 => w_aload_n (p' := 37) f_76_36 rfl rfl
 (w_iconst (p' := 38) f_76_37 rfl
 (w_callV (p' := 41) f_76_38 rfl rfl rfl rfl rfl (r := []) rfl rfl (kI (.inl rk_53) fun r113 s113 h113 =>
 w_iret f_76_41 rk_76 h113) (((((h101.1 c119).2 c117).2 c116).2 c115).2 c114))))))))))))))
 (fun c119 => w_aload_n (p' := 12) f_76_11 rfl rfl
 (w_iconst (p' := 13) f_76_12 rfl
 (w_callV (p' := 16) f_76_13 rfl rfl rfl rfl rfl (r := []) rfl rfl (kI (.inl rk_53) fun r118 s118 h118 =>
 w_iret f_76_16 rk_76 h118) (h101.2 c119))))) h))))
set_option maxRecDepth 100000 in
theorem T_Acts_touchPage_114 (k0 i0 x2 x3 k4 i4 x5 x6 t0 : Int) (o1 o7 o8 : Option AV) (σ : ST) (Q : Option AV → ST → Prop) (h :
  (((t0 ≠ 0 : Prop) →
    wp m_Acts_touchPage (138, [some (.inr (.inr (11, k0, i0))), o1, some (.inl x2), some (.inl x3), some (.inr (.inr (21, k4, i4))), some (.inl x5), some (.inl x6), some (.inl t0), o8], [], σ) Q) ∧
  (¬ (t0 ≠ 0) →
    ((0 : Int) ≤ x5 ∧ (x5 : Int) < 4) ∧
    ((0 : Int) ≤ x2 ∧ (x2 : Int) < 8) ∧
    wp m_Acts_touchPage (138, [some (.inr (.inr (11, k0, i0))), o1, some (.inl x2), some (.inl x3), some (.inr (.inr (21, k4, i4))), some (.inl x5), some (.inl (σ 19 k0 x5 x2)), some (.inl t0), o8], [], σ) Q))) :
  wp m_Acts_touchPage (114, [some (.inr (.inr (11, k0, i0))), o1, some (.inl x2), some (.inl x3), some (.inr (.inr (21, k4, i4))), some (.inl x5), some (.inl x6), o7, o8], [.inl t0], σ) Q :=
 w_istore (p' := 116) f_76_114 (L' := [some (.inr (.inr (11, k0, i0))), o1, some (.inl x2), some (.inl x3), some (.inr (.inr (21, k4, i4))), some (.inl x5), some (.inl x6), some (.inl t0), o8]) rfl rfl
 (w_iload (p' := 118) f_76_116 rfl rfl
 (w_if (p' := 138) (q' := 121) f_76_118 rfl rfl
 (fun c101 => (h.1 c101))
 (fun c101 => w_aload_n (p' := 122) f_76_121 rfl rfl
 (w_getfield (p' := 125) f_76_122 rfl (x := .inr (.inr (12, k0, 0))) rfl rfl
 (w_getfield (p' := 128) f_76_125 rfl (x := .inr (.inr (16, k0, 0))) rfl rfl
 (w_iload (p' := 130) f_76_128 rfl rfl
 (w_aaload (p' := 131) f_76_130 rfl (n := 4) rfl (x := (17, k0, x5)) rfl (h.2 c101).1 rfl
 (w_getfield (p' := 134) f_76_131 rfl (x := .inr (.inr (19, k0, x5))) rfl rfl
 (w_iload_n (p' := 135) f_76_134 rfl rfl
 (w_iaload (p' := 136) f_76_135 rfl (n := 8) rfl (h.2 c101).2.1 rfl
 (w_istore (p' := 138) f_76_136 (L' := [some (.inr (.inr (11, k0, i0))), o1, some (.inl x2), some (.inl x3), some (.inr (.inr (21, k4, i4))), some (.inl x5), some (.inl (σ 19 k0 x5 x2)), some (.inl t0), o8]) rfl rfl
 ((h.2 c101).2.2))))))))))))
set_option maxRecDepth 100000 in
theorem T_Acts_touchPage_138 (k0 i0 x2 x3 k4 i4 x5 x6 x7 : Int) (o1 o8 : Option AV) (σ : ST) (Q : Option AV → ST → Prop) (h :
  wpM m_World_isPageOf [.inr (.inr (12, k0, 0)), .inl x6, .inl x5, .inl x2] σ (asI fun r101 s101 =>
  (((r101 ≠ 0 : Prop) →
    ((0 : Int) ≤ x6 ∧ (x6 : Int) < 10) ∧
    (((x7 ≠ 0 : Prop) →
      wp m_Acts_touchPage (199, [some (.inr (.inr (11, k0, i0))), o1, some (.inl x2), some (.inl x3), some (.inr (.inr (21, k4, i4))), some (.inl x5), some (.inl x6), some (.inl x7), some (.inr (.inr (14, k0, x6)))], [], s101) Q) ∧
    (¬ (x7 ≠ 0) →
      ((((bz (s101 14 k0 x6 5)) ≠ 0 : Prop) →
        wpM m_Acts_refuse [.inr (.inr (11, k0, i0)), .inl 4] s101 (asI fun r102 s102 =>
        Q (some (.inl r102)) s102)) ∧
      (¬ ((bz (s101 14 k0 x6 5)) ≠ 0) →
        ((((s101 14 k0 x6 0) = 2 : Prop) →
          wp m_Acts_touchPage (199, [some (.inr (.inr (11, k0, i0))), o1, some (.inl x2), some (.inl x3), some (.inr (.inr (21, k4, i4))), some (.inl x5), some (.inl x6), some (.inl x7), some (.inr (.inr (14, k0, x6)))], [], s101) Q) ∧
        (¬ ((s101 14 k0 x6 0) = 2) →
          wpM m_Acts_refuse [.inr (.inr (11, k0, i0)), .inl 4] s101 (asI fun r103 s103 =>
          Q (some (.inl r103)) s103)))))))) ∧
  (¬ (r101 ≠ 0) →
    wpM m_Acts_refuse [.inr (.inr (11, k0, i0)), .inl 4] s101 (asI fun r107 s107 =>
    Q (some (.inl r107)) s107))))) :
  wp m_Acts_touchPage (138, [some (.inr (.inr (11, k0, i0))), o1, some (.inl x2), some (.inl x3), some (.inr (.inr (21, k4, i4))), some (.inl x5), some (.inl x6), some (.inl x7), o8], [], σ) Q :=
 w_aload_n (p' := 139) f_76_138 rfl rfl
 (w_getfield (p' := 142) f_76_139 rfl (x := .inr (.inr (12, k0, 0))) rfl rfl
 (w_iload (p' := 144) f_76_142 rfl rfl
 (w_iload (p' := 146) f_76_144 rfl rfl
 (w_iload_n (p' := 147) f_76_146 rfl rfl
 (w_callV (p' := 150) f_76_147 rfl rfl rfl rfl rfl (r := []) rfl rfl (kI (.inr rk_67) fun r101 s101 h101 =>
 w_if (p' := 159) (q' := 153) f_76_150 rfl rfl
 (fun c108 => w_aload_n (p' := 160) f_76_159 rfl rfl
 (w_getfield (p' := 163) f_76_160 rfl (x := .inr (.inr (12, k0, 0))) rfl rfl
 (w_getfield (p' := 166) f_76_163 rfl (x := .inr (.inr (13, k0, 0))) rfl rfl
 (w_iload (p' := 168) f_76_166 rfl rfl
 (w_aaload (p' := 169) f_76_168 rfl (n := 10) rfl (x := (14, k0, x6)) rfl (h101.1 c108).1 rfl
 (w_astore (p' := 171) f_76_169 (L' := [some (.inr (.inr (11, k0, i0))), o1, some (.inl x2), some (.inl x3), some (.inr (.inr (21, k4, i4))), some (.inl x5), some (.inl x6), some (.inl x7), some (.inr (.inr (14, k0, x6)))]) rfl rfl
 (w_iload (p' := 173) f_76_171 rfl rfl
 (w_if (p' := 199) (q' := 176) f_76_173 rfl rfl
 (fun c106 => ((h101.1 c108).2.1 c106))
 (fun c106 => w_aload (p' := 178) f_76_176 rfl rfl
 (w_getfield (p' := 181) f_76_178 rfl (x := .inl (bz (s101 14 k0 x6 5))) rfl rfl
 (w_if (p' := 193) (q' := 184) f_76_181 rfl rfl
 (fun c105 => w_aload_n (p' := 194) f_76_193 rfl rfl
 (w_iconst (p' := 195) f_76_194 rfl
 (w_callV (p' := 198) f_76_195 rfl rfl rfl rfl rfl (r := []) rfl rfl (kI (.inl rk_53) fun r102 s102 h102 =>
 w_iret f_76_198 rk_76 h102) (((h101.1 c108).2.2 c106).1 c105))))
 (fun c105 => w_aload (p' := 186) f_76_184 rfl rfl
 (w_getfield (p' := 189) f_76_186 rfl (x := .inl (s101 14 k0 x6 0)) rfl rfl
 (w_iconst (p' := 190) f_76_189 rfl
 (w_icmp (p' := 199) (q' := 193) f_76_190 rfl rfl
 (fun c104 => ((((h101.1 c108).2.2 c106).2 c105).1 c104))
 (fun c104 => w_aload_n (p' := 194) f_76_193 rfl rfl
 (w_iconst (p' := 195) f_76_194 rfl
 (w_callV (p' := 198) f_76_195 rfl rfl rfl rfl rfl (r := []) rfl rfl (kI (.inl rk_53) fun r103 s103 h103 =>
 w_iret f_76_198 rk_76 h103) ((((h101.1 c108).2.2 c106).2 c105).2 c104)))))))))))))))))))
 (fun c108 => w_aload_n (p' := 154) f_76_153 rfl rfl
 (w_iconst (p' := 155) f_76_154 rfl
 (w_callV (p' := 158) f_76_155 rfl rfl rfl rfl rfl (r := []) rfl rfl (kI (.inl rk_53) fun r107 s107 h107 =>
 w_iret f_76_158 rk_76 h107) (h101.2 c108))))) h)))))
set_option maxRecDepth 100000 in
theorem T_Acts_touchPage_199 (k0 i0 x2 x3 k4 i4 x6 x7 k8 i8 : Int) (o1 o5 : Option AV) (σ : ST) (Q : Option AV → ST → Prop) (h :
  ((((i_and (σ 14 k8 i8 3) (i_shl 1 x3)) ≠ 0 : Prop) →
    (((x7 ≠ 0 : Prop) →
      wp m_Acts_touchPage (237, [some (.inr (.inr (11, k0, i0))), o1, some (.inl x2), some (.inl x3), some (.inr (.inr (21, k4, i4))), o5, some (.inl x6), some (.inl x7), some (.inr (.inr (14, k8, i8)))], [], σ) Q) ∧
    (¬ (x7 ≠ 0) →
      wpM m_Core_see [.inr (.inr (21, k4, i4)), .inl x2, .inl x6, .inl (σ 12 k0 0 2)] σ (asV fun s101 =>
      wp m_Acts_touchPage (237, [some (.inr (.inr (11, k0, i0))), o1, some (.inl x2), some (.inl x3), some (.inr (.inr (21, k4, i4))), o5, some (.inl x6), some (.inl x7), some (.inr (.inr (14, k8, i8)))], [], s101) Q)))) ∧
  (¬ ((i_and (σ 14 k8 i8 3) (i_shl 1 x3)) ≠ 0) →
    wpM m_Acts_refuse [.inr (.inr (11, k0, i0)), .inl 4] σ (asI fun r103 s103 =>
    Q (some (.inl r103)) s103)))) :
  wp m_Acts_touchPage (199, [some (.inr (.inr (11, k0, i0))), o1, some (.inl x2), some (.inl x3), some (.inr (.inr (21, k4, i4))), o5, some (.inl x6), some (.inl x7), some (.inr (.inr (14, k8, i8)))], [], σ) Q :=
 w_aload (p' := 201) f_76_199 rfl rfl
 (w_getfield (p' := 204) f_76_201 rfl (x := .inl (σ 14 k8 i8 3)) rfl rfl
 (w_iconst (p' := 205) f_76_204 rfl
 (w_iload_n (p' := 206) f_76_205 rfl rfl
 (w_ishl (p' := 207) f_76_206 rfl
 (w_iand (p' := 208) f_76_207 rfl
 (w_if (p' := 217) (q' := 211) f_76_208 rfl rfl
 (fun c104 => w_iload (p' := 219) f_76_217 rfl rfl
 (w_if (p' := 237) (q' := 222) f_76_219 rfl rfl
 (fun c102 => ((h.1 c104).1 c102))
 (fun c102 => w_aload (p' := 224) f_76_222 rfl rfl
 (w_iload_n (p' := 225) f_76_224 rfl rfl
 (w_iload (p' := 227) f_76_225 rfl rfl
 (w_aload_n (p' := 228) f_76_227 rfl rfl
 (w_getfield (p' := 231) f_76_228 rfl (x := .inr (.inr (12, k0, 0))) rfl rfl
 (w_getfield (p' := 234) f_76_231 rfl (x := .inl (σ 12 k0 0 2)) rfl rfl
 (w_callV (p' := 237) f_76_234 rfl rfl rfl rfl rfl (r := []) rfl rfl (kV rk_75 fun s101 h101 =>
 h101) ((h.1 c104).2 c102))))))))))
 (fun c104 => w_aload_n (p' := 212) f_76_211 rfl rfl
 (w_iconst (p' := 213) f_76_212 rfl
 (w_callV (p' := 216) f_76_213 rfl rfl rfl rfl rfl (r := []) rfl rfl (kI (.inl rk_53) fun r103 s103 h103 =>
 w_iret f_76_216 rk_76 h103) (h.2 c104))))))))))
set_option maxRecDepth 100000 in
theorem T_Acts_touchPage_237 (x3 k4 i4 k8 i8 : Int) (o0 o1 o2 o5 o6 o7 : Option AV) (σ : ST) (Q : Option AV → ST → Prop) (h :
  (((x3 ≠ 0 : Prop) →
    (((x3 ≠ 1 : Prop) →
      wpM m_JMath_floorMod [.inl (wr ((wr (7 * (σ 21 k4 i4 0))) + (σ 14 k8 i8 4))), .inl 1000] σ (asI fun r101 s101 =>
      Q (some (.inl ((up s101 21 k4 i4 0 r101) 21 k4 i4 0))) (up s101 21 k4 i4 0 r101))) ∧
    (¬ (x3 ≠ 1) →
      Q (some (.inl ((up σ 14 k8 i8 4 (σ 21 k4 i4 0)) 21 k4 i4 0))) (up σ 14 k8 i8 4 (σ 21 k4 i4 0))))) ∧
  (¬ (x3 ≠ 0) →
    Q (some (.inl ((up σ 21 k4 i4 0 (σ 14 k8 i8 4)) 21 k4 i4 0))) (up σ 21 k4 i4 0 (σ 14 k8 i8 4))))) :
  wp m_Acts_touchPage (237, [o0, o1, o2, some (.inl x3), some (.inr (.inr (21, k4, i4))), o5, o6, o7, some (.inr (.inr (14, k8, i8)))], [], σ) Q :=
 w_iload_n (p' := 238) f_76_237 rfl rfl
 (w_if (p' := 254) (q' := 241) f_76_238 rfl rfl
 (fun c103 => w_iload_n (p' := 255) f_76_254 rfl rfl
 (w_iconst (p' := 256) f_76_255 rfl
 (w_icmp (p' := 272) (q' := 259) f_76_256 rfl rfl
 (fun c102 => w_aload (p' := 274) f_76_272 rfl rfl
 (w_bipush (p' := 276) f_76_274 rfl
 (w_aload (p' := 278) f_76_276 rfl rfl
 (w_getfield (p' := 281) f_76_278 rfl (x := .inl (σ 21 k4 i4 0)) rfl rfl
 (w_imul (p' := 282) f_76_281 rfl
 (w_aload (p' := 284) f_76_282 rfl rfl
 (w_getfield (p' := 287) f_76_284 rfl (x := .inl (σ 14 k8 i8 4)) rfl rfl
 (w_iadd (p' := 288) f_76_287 rfl
 (w_sipush (p' := 291) f_76_288 rfl
 (w_callS (p' := 294) f_76_291 rfl rfl rfl (r := [.inr (.inr (21, k4, i4))]) rfl rfl (kI (.inl rk_45) fun r101 s101 h101 =>
 w_putI (p' := 297) f_76_294 rfl rfl (c' := 0) rfl rfl
 (w_aload (p' := 299) f_76_297 rfl rfl
 (w_getfield (p' := 302) f_76_299 rfl (x := .inl ((up s101 21 k4 i4 0 r101) 21 k4 i4 0)) rfl rfl
 (w_iret f_76_302 rk_76 h101)))) ((h.1 c103).1 c102)))))))))))
 (fun c102 => w_aload (p' := 261) f_76_259 rfl rfl
 (w_aload (p' := 263) f_76_261 rfl rfl
 (w_getfield (p' := 266) f_76_263 rfl (x := .inl (σ 21 k4 i4 0)) rfl rfl
 (w_putI (p' := 269) f_76_266 rfl rfl (c' := 4) rfl rfl
 (w_goto (p' := 297) f_76_269 rfl
 (w_aload (p' := 299) f_76_297 rfl rfl
 (w_getfield (p' := 302) f_76_299 rfl (x := .inl ((up σ 14 k8 i8 4 (σ 21 k4 i4 0)) 21 k4 i4 0)) rfl rfl
 (w_iret f_76_302 rk_76 ((h.1 c103).2 c102))))))))))))
 (fun c103 => w_aload (p' := 243) f_76_241 rfl rfl
 (w_aload (p' := 245) f_76_243 rfl rfl
 (w_getfield (p' := 248) f_76_245 rfl (x := .inl (σ 14 k8 i8 4)) rfl rfl
 (w_putI (p' := 251) f_76_248 rfl rfl (c' := 0) rfl rfl
 (w_goto (p' := 297) f_76_251 rfl
 (w_aload (p' := 299) f_76_297 rfl rfl
 (w_getfield (p' := 302) f_76_299 rfl (x := .inl ((up σ 21 k4 i4 0 (σ 14 k8 i8 4)) 21 k4 i4 0)) rfl rfl
 (w_iret f_76_302 rk_76 (h.2 c103))))))))))
/-! ClosedRooms$World.isFilled(I)Z -/
theorem f_77_0 : fnd 77 0 = some (0, .aload_n 0, 1, 0, 0, 0, 0) := ceB_eq (by decide +kernel)
theorem f_77_1 : fnd 77 1 = some (1, .iload_n 1, 1, 0, 0, 0, 0) := ceB_eq (by decide +kernel)
theorem f_77_2 : fnd 77 2 = some (2, .invokevirtual 90, 3, 32, 2, 4, 0) := ceB_eq (by decide +kernel)
theorem f_77_5 : fnd 77 5 = some (5, .ifCond .eq 19, 3, 0, 0, 0, 0) := ceB_eq (by decide +kernel)
theorem f_77_8 : fnd 77 8 = some (8, .aload_n 0, 1, 0, 0, 0, 0) := ceB_eq (by decide +kernel)
theorem f_77_9 : fnd 77 9 = some (9, .getfield 29, 3, 4, 5, 5, 0) := ceB_eq (by decide +kernel)
theorem f_77_12 : fnd 77 12 = some (12, .iload_n 1, 1, 0, 0, 0, 0) := ceB_eq (by decide +kernel)
theorem f_77_13 : fnd 77 13 = some (13, .aaload, 1, 0, 0, 0, 0) := ceB_eq (by decide +kernel)
theorem f_77_14 : fnd 77 14 = some (14, .getfield 94, 3, 6, 0, 0, 0) := ceB_eq (by decide +kernel)
theorem f_77_17 : fnd 77 17 = some (17, .ifCond .eq 7, 3, 0, 0, 0, 0) := ceB_eq (by decide +kernel)
theorem f_77_20 : fnd 77 20 = some (20, .iconst 1, 1, 0, 0, 0, 0) := ceB_eq (by decide +kernel)
theorem f_77_21 : fnd 77 21 = some (21, .goto 4, 3, 0, 0, 0, 0) := ceB_eq (by decide +kernel)
theorem f_77_24 : fnd 77 24 = some (24, .iconst 0, 1, 0, 0, 0, 0) := ceB_eq (by decide +kernel)
theorem f_77_25 : fnd 77 25 = some (25, .ireturn, 1, 0, 0, 0, 0) := ceB_eq (by decide +kernel)
theorem rk_77 : rkm 77 = 1 := by decide +kernel
theorem ml_77 : (mth 77).2.1 = 2 := by decide +kernel
set_option maxRecDepth 100000 in
theorem T_World_isFilled (k0 i0 x1 : Int) (σ : ST) (Q : Option AV → ST → Prop) (h :
  wpM m_World_isPage [.inr (.inr (12, k0, i0)), .inl x1] σ (asI fun r101 s101 =>
  (((r101 = 0 : Prop) →
    ((0 : Int) = 0 ∨ (0 : Int) = 1) ∧ Q (some (.inl 0)) s101) ∧
  (¬ (r101 = 0) →
    ((0 : Int) ≤ x1 ∧ (x1 : Int) < 10) ∧
    ((((s101 14 k0 x1 0) = 0 : Prop) →
      ((0 : Int) = 0 ∨ (0 : Int) = 1) ∧ Q (some (.inl 0)) s101) ∧
    (¬ ((s101 14 k0 x1 0) = 0) →
      ((1 : Int) = 0 ∨ (1 : Int) = 1) ∧ Q (some (.inl 1)) s101)))))) :
  wpM m_World_isFilled [.inr (.inr (12, k0, i0)), .inl x1] σ Q :=
 wpM_of ml_77 (L := [some (.inr (.inr (12, k0, i0))), some (.inl x1)]) rfl
 (w_aload_n (p' := 1) f_77_0 rfl rfl
 (w_iload_n (p' := 2) f_77_1 rfl rfl
 (w_callV (p' := 5) f_77_2 rfl rfl rfl rfl rfl (r := []) rfl rfl (kI (.inr rk_32) fun r101 s101 h101 =>
 w_if (p' := 24) (q' := 8) f_77_5 rfl rfl
 (fun c103 => w_iconst (p' := 25) f_77_24 rfl
 (w_zret f_77_25 rk_77 (h101.1 c103).1 (h101.1 c103).2))
 (fun c103 => w_aload_n (p' := 9) f_77_8 rfl rfl
 (w_getfield (p' := 12) f_77_9 rfl (x := .inr (.inr (13, k0, 0))) rfl rfl
 (w_iload_n (p' := 13) f_77_12 rfl rfl
 (w_aaload (p' := 14) f_77_13 rfl (n := 10) rfl (x := (14, k0, x1)) rfl (h101.2 c103).1 rfl
 (w_getfield (p' := 17) f_77_14 rfl (x := .inl (s101 14 k0 x1 0)) rfl rfl
 (w_if (p' := 24) (q' := 20) f_77_17 rfl rfl
 (fun c102 => w_iconst (p' := 25) f_77_24 rfl
 (w_zret f_77_25 rk_77 ((h101.2 c103).2.1 c102).1 ((h101.2 c103).2.1 c102).2))
 (fun c102 => w_iconst (p' := 21) f_77_20 rfl
 (w_goto (p' := 25) f_77_21 rfl
 (w_zret f_77_25 rk_77 ((h101.2 c103).2.2 c102).1 ((h101.2 c103).2.2 c102).2)))))))))) h)))
/-! ClosedRooms$Page.hasAddress()Z -/
theorem f_78_0 : fnd 78 0 = some (0, .aload_n 0, 1, 0, 0, 0, 0) := ceB_eq (by decide +kernel)
theorem f_78_1 : fnd 78 1 = some (1, .getfield 19, 3, 6, 0, 0, 0) := ceB_eq (by decide +kernel)
theorem f_78_4 : fnd 78 4 = some (4, .iconst 2, 1, 0, 0, 0, 0) := ceB_eq (by decide +kernel)
theorem f_78_5 : fnd 78 5 = some (5, .if_icmp .eq 11, 3, 0, 0, 0, 0) := ceB_eq (by decide +kernel)
theorem f_78_8 : fnd 78 8 = some (8, .aload_n 0, 1, 0, 0, 0, 0) := ceB_eq (by decide +kernel)
theorem f_78_9 : fnd 78 9 = some (9, .getfield 19, 3, 6, 0, 0, 0) := ceB_eq (by decide +kernel)
theorem f_78_12 : fnd 78 12 = some (12, .iconst 3, 1, 0, 0, 0, 0) := ceB_eq (by decide +kernel)
theorem f_78_13 : fnd 78 13 = some (13, .if_icmp .ne 7, 3, 0, 0, 0, 0) := ceB_eq (by decide +kernel)
theorem f_78_16 : fnd 78 16 = some (16, .iconst 1, 1, 0, 0, 0, 0) := ceB_eq (by decide +kernel)
theorem f_78_17 : fnd 78 17 = some (17, .goto 4, 3, 0, 0, 0, 0) := ceB_eq (by decide +kernel)
theorem f_78_20 : fnd 78 20 = some (20, .iconst 0, 1, 0, 0, 0, 0) := ceB_eq (by decide +kernel)
theorem f_78_21 : fnd 78 21 = some (21, .ireturn, 1, 0, 0, 0, 0) := ceB_eq (by decide +kernel)
theorem rk_78 : rkm 78 = 1 := by decide +kernel
theorem ml_78 : (mth 78).2.1 = 1 := by decide +kernel
set_option maxRecDepth 100000 in
theorem T_Page_hasAddress (k0 i0 : Int) (σ : ST) (Q : Option AV → ST → Prop) (h :
  ((((σ 14 k0 i0 0) = 2 : Prop) →
    ((1 : Int) = 0 ∨ (1 : Int) = 1) ∧ Q (some (.inl 1)) σ) ∧
  (¬ ((σ 14 k0 i0 0) = 2) →
    ((((σ 14 k0 i0 0) ≠ 3 : Prop) →
      ((0 : Int) = 0 ∨ (0 : Int) = 1) ∧ Q (some (.inl 0)) σ) ∧
    (¬ ((σ 14 k0 i0 0) ≠ 3) →
      ((1 : Int) = 0 ∨ (1 : Int) = 1) ∧ Q (some (.inl 1)) σ))))) :
  wpM m_Page_hasAddress [.inr (.inr (14, k0, i0))] σ Q :=
 wpM_of ml_78 (L := [some (.inr (.inr (14, k0, i0)))]) rfl
 (w_aload_n (p' := 1) f_78_0 rfl rfl
 (w_getfield (p' := 4) f_78_1 rfl (x := .inl (σ 14 k0 i0 0)) rfl rfl
 (w_iconst (p' := 5) f_78_4 rfl
 (w_icmp (p' := 16) (q' := 8) f_78_5 rfl rfl
 (fun c102 => w_iconst (p' := 17) f_78_16 rfl
 (w_goto (p' := 21) f_78_17 rfl
 (w_zret f_78_21 rk_78 (h.1 c102).1 (h.1 c102).2)))
 (fun c102 => w_aload_n (p' := 9) f_78_8 rfl rfl
 (w_getfield (p' := 12) f_78_9 rfl (x := .inl (σ 14 k0 i0 0)) rfl rfl
 (w_iconst (p' := 13) f_78_12 rfl
 (w_icmp (p' := 20) (q' := 16) f_78_13 rfl rfl
 (fun c101 => w_iconst (p' := 21) f_78_20 rfl
 (w_zret f_78_21 rk_78 ((h.2 c102).1 c101).1 ((h.2 c102).1 c101).2))
 (fun c101 => w_iconst (p' := 17) f_78_16 rfl
 (w_goto (p' := 21) f_78_17 rfl
 (w_zret f_78_21 rk_78 ((h.2 c102).2 c101).1 ((h.2 c102).2 c101).2)))))))))))
/-! ClosedRooms$Acts.blockPage(I)I -/
theorem f_79_0 : fnd 79 0 = some (0, .aload_n 0, 1, 0, 0, 0, 0) := ceB_eq (by decide +kernel)
theorem f_79_1 : fnd 79 1 = some (1, .getfield 12, 3, 3, 0, 0, 0) := ceB_eq (by decide +kernel)
theorem f_79_4 : fnd 79 4 = some (4, .iload_n 1, 1, 0, 0, 0, 0) := ceB_eq (by decide +kernel)
theorem f_79_5 : fnd 79 5 = some (5, .invokevirtual 240, 3, 77, 2, 4, 0) := ceB_eq (by decide +kernel)
theorem f_79_8 : fnd 79 8 = some (8, .ifCond .ne 9, 3, 0, 0, 0, 0) := ceB_eq (by decide +kernel)
theorem f_79_11 : fnd 79 11 = some (11, .aload_n 0, 1, 0, 0, 0, 0) := ceB_eq (by decide +kernel)
theorem f_79_12 : fnd 79 12 = some (12, .iconst 0, 1, 0, 0, 0, 0) := ceB_eq (by decide +kernel)
theorem f_79_13 : fnd 79 13 = some (13, .invokevirtual 85, 3, 53, 2, 3, 0) := ceB_eq (by decide +kernel)
theorem f_79_16 : fnd 79 16 = some (16, .ireturn, 1, 0, 0, 0, 0) := ceB_eq (by decide +kernel)
theorem f_79_17 : fnd 79 17 = some (17, .aload_n 0, 1, 0, 0, 0, 0) := ceB_eq (by decide +kernel)
theorem f_79_18 : fnd 79 18 = some (18, .getfield 12, 3, 3, 0, 0, 0) := ceB_eq (by decide +kernel)
theorem f_79_21 : fnd 79 21 = some (21, .getfield 122, 3, 4, 5, 5, 0) := ceB_eq (by decide +kernel)
theorem f_79_24 : fnd 79 24 = some (24, .iload_n 1, 1, 0, 0, 0, 0) := ceB_eq (by decide +kernel)
theorem f_79_25 : fnd 79 25 = some (25, .aaload, 1, 0, 0, 0, 0) := ceB_eq (by decide +kernel)
theorem f_79_26 : fnd 79 26 = some (26, .astore_n 2, 1, 0, 0, 0, 0) := ceB_eq (by decide +kernel)
theorem f_79_27 : fnd 79 27 = some (27, .aload_n 2, 1, 0, 0, 0, 0) := ceB_eq (by decide +kernel)
theorem f_79_28 : fnd 79 28 = some (28, .invokevirtual 243, 3, 78, 1, 6, 0) := ceB_eq (by decide +kernel)
theorem f_79_31 : fnd 79 31 = some (31, .ifCond .eq 42, 3, 0, 0, 0, 0) := ceB_eq (by decide +kernel)
theorem f_79_34 : fnd 79 34 = some (34, .aload_n 2, 1, 0, 0, 0, 0) := ceB_eq (by decide +kernel)
theorem f_79_35 : fnd 79 35 = some (35, .getfield 203, 3, 6, 5, 5, 0) := ceB_eq (by decide +kernel)
theorem f_79_38 : fnd 79 38 = some (38, .ifCond .ne 35, 3, 0, 0, 0, 0) := ceB_eq (by decide +kernel)
theorem f_79_41 : fnd 79 41 = some (41, .aload_n 0, 1, 0, 0, 0, 0) := ceB_eq (by decide +kernel)
theorem f_79_42 : fnd 79 42 = some (42, .getfield 12, 3, 3, 0, 0, 0) := ceB_eq (by decide +kernel)
theorem f_79_45 : fnd 79 45 = some (45, .aload_n 2, 1, 0, 0, 0, 0) := ceB_eq (by decide +kernel)
theorem f_79_46 : fnd 79 46 = some (46, .getfield 245, 3, 6, 1, 1, 0) := ceB_eq (by decide +kernel)
theorem f_79_49 : fnd 79 49 = some (49, .invokevirtual 129, 3, 37, 2, 4, 0) := ceB_eq (by decide +kernel)
theorem f_79_52 : fnd 79 52 = some (52, .ifCond .eq 21, 3, 0, 0, 0, 0) := ceB_eq (by decide +kernel)
theorem f_79_55 : fnd 79 55 = some (55, .aload_n 0, 1, 0, 0, 0, 0) := ceB_eq (by decide +kernel)
theorem f_79_56 : fnd 79 56 = some (56, .getfield 12, 3, 3, 0, 0, 0) := ceB_eq (by decide +kernel)
theorem f_79_59 : fnd 79 59 = some (59, .getfield 112, 3, 4, 6, 6, 0) := ceB_eq (by decide +kernel)
theorem f_79_62 : fnd 79 62 = some (62, .aload_n 2, 1, 0, 0, 0, 0) := ceB_eq (by decide +kernel)
theorem f_79_63 : fnd 79 63 = some (63, .getfield 245, 3, 6, 1, 1, 0) := ceB_eq (by decide +kernel)
theorem f_79_66 : fnd 79 66 = some (66, .aaload, 1, 0, 0, 0, 0) := ceB_eq (by decide +kernel)
theorem f_79_67 : fnd 79 67 = some (67, .getfield 187, 3, 7, 6, 6, 0) := ceB_eq (by decide +kernel)
theorem f_79_70 : fnd 79 70 = some (70, .ifCond .eq 9, 3, 0, 0, 0, 0) := ceB_eq (by decide +kernel)
theorem f_79_73 : fnd 79 73 = some (73, .aload_n 0, 1, 0, 0, 0, 0) := ceB_eq (by decide +kernel)
theorem f_79_74 : fnd 79 74 = some (74, .iconst 2, 1, 0, 0, 0, 0) := ceB_eq (by decide +kernel)
theorem f_79_75 : fnd 79 75 = some (75, .invokevirtual 85, 3, 53, 2, 3, 0) := ceB_eq (by decide +kernel)
theorem f_79_78 : fnd 79 78 = some (78, .ireturn, 1, 0, 0, 0, 0) := ceB_eq (by decide +kernel)
theorem f_79_79 : fnd 79 79 = some (79, .aload_n 2, 1, 0, 0, 0, 0) := ceB_eq (by decide +kernel)
theorem f_79_80 : fnd 79 80 = some (80, .iconst 1, 1, 0, 0, 0, 0) := ceB_eq (by decide +kernel)
theorem f_79_81 : fnd 79 81 = some (81, .putfield 203, 3, 6, 5, 5, 0) := ceB_eq (by decide +kernel)
theorem f_79_84 : fnd 79 84 = some (84, .aload_n 2, 1, 0, 0, 0, 0) := ceB_eq (by decide +kernel)
theorem f_79_85 : fnd 79 85 = some (85, .aload_n 0, 1, 0, 0, 0, 0) := ceB_eq (by decide +kernel)
theorem f_79_86 : fnd 79 86 = some (86, .getfield 12, 3, 3, 0, 0, 0) := ceB_eq (by decide +kernel)
theorem f_79_89 : fnd 79 89 = some (89, .getfield 112, 3, 4, 6, 6, 0) := ceB_eq (by decide +kernel)
theorem f_79_92 : fnd 79 92 = some (92, .aload_n 2, 1, 0, 0, 0, 0) := ceB_eq (by decide +kernel)
theorem f_79_93 : fnd 79 93 = some (93, .getfield 245, 3, 6, 1, 1, 0) := ceB_eq (by decide +kernel)
theorem f_79_96 : fnd 79 96 = some (96, .aaload, 1, 0, 0, 0, 0) := ceB_eq (by decide +kernel)
theorem f_79_97 : fnd 79 97 = some (97, .getfield 206, 3, 7, 5, 5, 0) := ceB_eq (by decide +kernel)
theorem f_79_100 : fnd 79 100 = some (100, .putfield 246, 3, 6, 6, 6, 0) := ceB_eq (by decide +kernel)
theorem f_79_103 : fnd 79 103 = some (103, .aload_n 2, 1, 0, 0, 0, 0) := ceB_eq (by decide +kernel)
theorem f_79_104 : fnd 79 104 = some (104, .getfield 246, 3, 6, 6, 6, 0) := ceB_eq (by decide +kernel)
theorem f_79_107 : fnd 79 107 = some (107, .ireturn, 1, 0, 0, 0, 0) := ceB_eq (by decide +kernel)
theorem rk_79 : rkm 79 = 0 := by decide +kernel
theorem ml_79 : (mth 79).2.1 = 3 := by decide +kernel
set_option maxRecDepth 100000 in
theorem T_Acts_blockPage (k0 i0 x1 : Int) (σ : ST) (Q : Option AV → ST → Prop) (h :
  wpM m_World_isFilled [.inr (.inr (12, k0, 0)), .inl x1] σ (asI fun r101 s101 =>
  (((r101 ≠ 0 : Prop) →
    ((0 : Int) ≤ x1 ∧ (x1 : Int) < 10) ∧
    wpM m_Page_hasAddress [.inr (.inr (14, k0, x1))] s101 (asI fun r102 s102 =>
    (((r102 = 0 : Prop) →
      wpM m_Acts_refuse [.inr (.inr (11, k0, i0)), .inl 2] s102 (asI fun r103 s103 =>
      Q (some (.inl r103)) s103)) ∧
    (¬ (r102 = 0) →
      ((((bz (s102 14 k0 x1 5)) ≠ 0 : Prop) →
        wpM m_Acts_refuse [.inr (.inr (11, k0, i0)), .inl 2] s102 (asI fun r104 s104 =>
        Q (some (.inl r104)) s104)) ∧
      (¬ ((bz (s102 14 k0 x1 5)) ≠ 0) →
        wpM m_World_isRoom [.inr (.inr (12, k0, 0)), .inl (s102 14 k0 x1 1)] s102 (asI fun r105 s105 =>
        (((r105 = 0 : Prop) →
          wpM m_Acts_refuse [.inr (.inr (11, k0, i0)), .inl 2] s105 (asI fun r106 s106 =>
          Q (some (.inl r106)) s106)) ∧
        (¬ (r105 = 0) →
          ((0 : Int) ≤ (s105 14 k0 x1 1) ∧ ((s105 14 k0 x1 1) : Int) < 4) ∧
          ((((bz (s105 17 k0 (s105 14 k0 x1 1) 6)) = 0 : Prop) →
            ((1 : Int) = 0 ∨ (1 : Int) = 1) ∧
            ((0 : Int) ≤ ((up s105 14 k0 x1 5 1) 14 k0 x1 1) ∧ (((up s105 14 k0 x1 5 1) 14 k0 x1 1) : Int) < 4) ∧
            Q (some (.inl ((up (up s105 14 k0 x1 5 1) 14 k0 x1 6 ((up s105 14 k0 x1 5 1) 17 k0 ((up s105 14 k0 x1 5 1) 14 k0 x1 1) 5)) 14 k0 x1 6))) (up (up s105 14 k0 x1 5 1) 14 k0 x1 6 ((up s105 14 k0 x1 5 1) 17 k0 ((up s105 14 k0 x1 5 1) 14 k0 x1 1) 5))) ∧
          (¬ ((bz (s105 17 k0 (s105 14 k0 x1 1) 6)) = 0) →
            wpM m_Acts_refuse [.inr (.inr (11, k0, i0)), .inl 2] s105 (asI fun r107 s107 =>
            Q (some (.inl r107)) s107)))))))))))) ∧
  (¬ (r101 ≠ 0) →
    wpM m_Acts_refuse [.inr (.inr (11, k0, i0)), .inl 0] s101 (asI fun r112 s112 =>
    Q (some (.inl r112)) s112))))) :
  wpM m_Acts_blockPage [.inr (.inr (11, k0, i0)), .inl x1] σ Q :=
 wpM_of ml_79 (L := [some (.inr (.inr (11, k0, i0))), some (.inl x1), none]) rfl
 (w_aload_n (p' := 1) f_79_0 rfl rfl
 (w_getfield (p' := 4) f_79_1 rfl (x := .inr (.inr (12, k0, 0))) rfl rfl
 (w_iload_n (p' := 5) f_79_4 rfl rfl
 (w_callV (p' := 8) f_79_5 rfl rfl rfl rfl rfl (r := []) rfl rfl (kI (.inr rk_77) fun r101 s101 h101 =>
 w_if (p' := 17) (q' := 11) f_79_8 rfl rfl
 (fun c113 => w_aload_n (p' := 18) f_79_17 rfl rfl
 (w_getfield (p' := 21) f_79_18 rfl (x := .inr (.inr (12, k0, 0))) rfl rfl
 (w_getfield (p' := 24) f_79_21 rfl (x := .inr (.inr (13, k0, 0))) rfl rfl
 (w_iload_n (p' := 25) f_79_24 rfl rfl
 (w_aaload (p' := 26) f_79_25 rfl (n := 10) rfl (x := (14, k0, x1)) rfl (h101.1 c113).1 rfl
 (w_astore_n (p' := 27) f_79_26 (L' := [some (.inr (.inr (11, k0, i0))), some (.inl x1), some (.inr (.inr (14, k0, x1)))]) rfl rfl
 (w_aload_n (p' := 28) f_79_27 rfl rfl
 (w_callV (p' := 31) f_79_28 rfl rfl rfl rfl rfl (r := []) rfl rfl (kI (.inr rk_78) fun r102 s102 h102 =>
 w_if (p' := 73) (q' := 34) f_79_31 rfl rfl
 (fun c111 => w_aload_n (p' := 74) f_79_73 rfl rfl
 (w_iconst (p' := 75) f_79_74 rfl
 (w_callV (p' := 78) f_79_75 rfl rfl rfl rfl rfl (r := []) rfl rfl (kI (.inl rk_53) fun r103 s103 h103 =>
 w_iret f_79_78 rk_79 h103) (h102.1 c111))))
 (fun c111 => w_aload_n (p' := 35) f_79_34 rfl rfl
 (w_getfield (p' := 38) f_79_35 rfl (x := .inl (bz (s102 14 k0 x1 5))) rfl rfl
 (w_if (p' := 73) (q' := 41) f_79_38 rfl rfl
 (fun c110 => w_aload_n (p' := 74) f_79_73 rfl rfl
 (w_iconst (p' := 75) f_79_74 rfl
 (w_callV (p' := 78) f_79_75 rfl rfl rfl rfl rfl (r := []) rfl rfl (kI (.inl rk_53) fun r104 s104 h104 =>
 w_iret f_79_78 rk_79 h104) ((h102.2 c111).1 c110))))
 (fun c110 => w_aload_n (p' := 42) f_79_41 rfl rfl
 (w_getfield (p' := 45) f_79_42 rfl (x := .inr (.inr (12, k0, 0))) rfl rfl
 (w_aload_n (p' := 46) f_79_45 rfl rfl
 (w_getfield (p' := 49) f_79_46 rfl (x := .inl (s102 14 k0 x1 1)) rfl rfl
 (w_callV (p' := 52) f_79_49 rfl rfl rfl rfl rfl (r := []) rfl rfl (kI (.inr rk_37) fun r105 s105 h105 =>
 w_if (p' := 73) (q' := 55) f_79_52 rfl rfl
 (fun c109 => w_aload_n (p' := 74) f_79_73 rfl rfl
 (w_iconst (p' := 75) f_79_74 rfl
 (w_callV (p' := 78) f_79_75 rfl rfl rfl rfl rfl (r := []) rfl rfl (kI (.inl rk_53) fun r106 s106 h106 =>
 w_iret f_79_78 rk_79 h106) (h105.1 c109))))
 (fun c109 => w_aload_n (p' := 56) f_79_55 rfl rfl
 (w_getfield (p' := 59) f_79_56 rfl (x := .inr (.inr (12, k0, 0))) rfl rfl
 (w_getfield (p' := 62) f_79_59 rfl (x := .inr (.inr (16, k0, 0))) rfl rfl
 (w_aload_n (p' := 63) f_79_62 rfl rfl
 (w_getfield (p' := 66) f_79_63 rfl (x := .inl (s105 14 k0 x1 1)) rfl rfl
 (w_aaload (p' := 67) f_79_66 rfl (n := 4) rfl (x := (17, k0, (s105 14 k0 x1 1))) rfl (h105.2 c109).1 rfl
 (w_getfield (p' := 70) f_79_67 rfl (x := .inl (bz (s105 17 k0 (s105 14 k0 x1 1) 6))) rfl rfl
 (w_if (p' := 79) (q' := 73) f_79_70 rfl rfl
 (fun c108 => w_aload_n (p' := 80) f_79_79 rfl rfl
 (w_iconst (p' := 81) f_79_80 rfl
 (w_putZ (p' := 84) f_79_81 rfl rfl (c' := 5) rfl ((h105.2 c109).2.1 c108).1 rfl
 (w_aload_n (p' := 85) f_79_84 rfl rfl
 (w_aload_n (p' := 86) f_79_85 rfl rfl
 (w_getfield (p' := 89) f_79_86 rfl (x := .inr (.inr (12, k0, 0))) rfl rfl
 (w_getfield (p' := 92) f_79_89 rfl (x := .inr (.inr (16, k0, 0))) rfl rfl
 (w_aload_n (p' := 93) f_79_92 rfl rfl
 (w_getfield (p' := 96) f_79_93 rfl (x := .inl ((up s105 14 k0 x1 5 1) 14 k0 x1 1)) rfl rfl
 (w_aaload (p' := 97) f_79_96 rfl (n := 4) rfl (x := (17, k0, ((up s105 14 k0 x1 5 1) 14 k0 x1 1))) rfl ((h105.2 c109).2.1 c108).2.1 rfl
 (w_getfield (p' := 100) f_79_97 rfl (x := .inl ((up s105 14 k0 x1 5 1) 17 k0 ((up s105 14 k0 x1 5 1) 14 k0 x1 1) 5)) rfl rfl
 (w_putI (p' := 103) f_79_100 rfl rfl (c' := 6) rfl rfl
 (w_aload_n (p' := 104) f_79_103 rfl rfl
 (w_getfield (p' := 107) f_79_104 rfl (x := .inl ((up (up s105 14 k0 x1 5 1) 14 k0 x1 6 ((up s105 14 k0 x1 5 1) 17 k0 ((up s105 14 k0 x1 5 1) 14 k0 x1 1) 5)) 14 k0 x1 6)) rfl rfl
 (w_iret f_79_107 rk_79 ((h105.2 c109).2.1 c108).2.2)))))))))))))))
 (fun c108 => w_aload_n (p' := 74) f_79_73 rfl rfl
 (w_iconst (p' := 75) f_79_74 rfl
 (w_callV (p' := 78) f_79_75 rfl rfl rfl rfl rfl (r := []) rfl rfl (kI (.inl rk_53) fun r107 s107 h107 =>
 w_iret f_79_78 rk_79 h107) ((h105.2 c109).2.2 c108))))))))))))) ((h102.2 c111).2 c110)))))))))) (h101.1 c113).2))))))))
 (fun c113 => w_aload_n (p' := 12) f_79_11 rfl rfl
 (w_iconst (p' := 13) f_79_12 rfl
 (w_callV (p' := 16) f_79_13 rfl rfl rfl rfl rfl (r := []) rfl rfl (kI (.inl rk_53) fun r112 s112 h112 =>
 w_iret f_79_16 rk_79 h112) (h101.2 c113))))) h))))
/-! ClosedRooms$World.coresInside(II)I -/
theorem f_80_0 : fnd 80 0 = some (0, .iconst 0, 1, 0, 0, 0, 0) := ceB_eq (by decide +kernel)
theorem f_80_1 : fnd 80 1 = some (1, .istore_n 3, 1, 0, 0, 0, 0) := ceB_eq (by decide +kernel)
theorem f_80_2 : fnd 80 2 = some (2, .iconst 0, 1, 0, 0, 0, 0) := ceB_eq (by decide +kernel)
theorem f_80_3 : fnd 80 3 = some (3, .istore 4, 2, 0, 0, 0, 0) := ceB_eq (by decide +kernel)
theorem f_80_5 : fnd 80 5 = some (5, .iload 4, 2, 0, 0, 0, 0) := ceB_eq (by decide +kernel)
theorem f_80_7 : fnd 80 7 = some (7, .aload_n 0, 1, 0, 0, 0, 0) := ceB_eq (by decide +kernel)
theorem f_80_8 : fnd 80 8 = some (8, .getfield 15, 3, 4, 1, 1, 0) := ceB_eq (by decide +kernel)
theorem f_80_11 : fnd 80 11 = some (11, .if_icmp .ge 50, 3, 0, 0, 0, 0) := ceB_eq (by decide +kernel)
theorem f_80_14 : fnd 80 14 = some (14, .iload 4, 2, 0, 0, 0, 0) := ceB_eq (by decide +kernel)
theorem f_80_16 : fnd 80 16 = some (16, .iconst 3, 1, 0, 0, 0, 0) := ceB_eq (by decide +kernel)
theorem f_80_17 : fnd 80 17 = some (17, .if_icmp .ge 44, 3, 0, 0, 0, 0) := ceB_eq (by decide +kernel)
theorem f_80_20 : fnd 80 20 = some (20, .aload_n 0, 1, 0, 0, 0, 0) := ceB_eq (by decide +kernel)
theorem f_80_21 : fnd 80 21 = some (21, .getfield 41, 3, 4, 7, 7, 0) := ceB_eq (by decide +kernel)
theorem f_80_24 : fnd 80 24 = some (24, .iload 4, 2, 0, 0, 0, 0) := ceB_eq (by decide +kernel)
theorem f_80_26 : fnd 80 26 = some (26, .aaload, 1, 0, 0, 0, 0) := ceB_eq (by decide +kernel)
theorem f_80_27 : fnd 80 27 = some (27, .getfield 106, 3, 8, 1, 1, 0) := ceB_eq (by decide +kernel)
theorem f_80_30 : fnd 80 30 = some (30, .iload_n 1, 1, 0, 0, 0, 0) := ceB_eq (by decide +kernel)
theorem f_80_31 : fnd 80 31 = some (31, .if_icmp .ne 24, 3, 0, 0, 0, 0) := ceB_eq (by decide +kernel)
theorem f_80_34 : fnd 80 34 = some (34, .aload_n 0, 1, 0, 0, 0, 0) := ceB_eq (by decide +kernel)
theorem f_80_35 : fnd 80 35 = some (35, .getfield 41, 3, 4, 7, 7, 0) := ceB_eq (by decide +kernel)
theorem f_80_38 : fnd 80 38 = some (38, .iload 4, 2, 0, 0, 0, 0) := ceB_eq (by decide +kernel)
theorem f_80_40 : fnd 80 40 = some (40, .aaload, 1, 0, 0, 0, 0) := ceB_eq (by decide +kernel)
theorem f_80_41 : fnd 80 41 = some (41, .getfield 116, 3, 8, 3, 3, 0) := ceB_eq (by decide +kernel)
theorem f_80_44 : fnd 80 44 = some (44, .iload_n 2, 1, 0, 0, 0, 0) := ceB_eq (by decide +kernel)
theorem f_80_45 : fnd 80 45 = some (45, .if_icmp .gt 10, 3, 0, 0, 0, 0) := ceB_eq (by decide +kernel)
theorem f_80_48 : fnd 80 48 = some (48, .iload_n 3, 1, 0, 0, 0, 0) := ceB_eq (by decide +kernel)
theorem f_80_49 : fnd 80 49 = some (49, .iconst 1, 1, 0, 0, 0, 0) := ceB_eq (by decide +kernel)
theorem f_80_50 : fnd 80 50 = some (50, .iload 4, 2, 0, 0, 0, 0) := ceB_eq (by decide +kernel)
theorem f_80_52 : fnd 80 52 = some (52, .ishl, 1, 0, 0, 0, 0) := ceB_eq (by decide +kernel)
theorem f_80_53 : fnd 80 53 = some (53, .ior, 1, 0, 0, 0, 0) := ceB_eq (by decide +kernel)
theorem f_80_54 : fnd 80 54 = some (54, .istore_n 3, 1, 0, 0, 0, 0) := ceB_eq (by decide +kernel)
theorem f_80_55 : fnd 80 55 = some (55, .iinc 4 1, 3, 0, 0, 0, 0) := ceB_eq (by decide +kernel)
theorem f_80_58 : fnd 80 58 = some (58, .goto (-53), 3, 0, 0, 0, 0) := ceB_eq (by decide +kernel)
theorem f_80_61 : fnd 80 61 = some (61, .iload_n 3, 1, 0, 0, 0, 0) := ceB_eq (by decide +kernel)
theorem f_80_62 : fnd 80 62 = some (62, .ireturn, 1, 0, 0, 0, 0) := ceB_eq (by decide +kernel)
theorem rk_80 : rkm 80 = 0 := by decide +kernel
theorem ml_80 : (mth 80).2.1 = 5 := by decide +kernel
set_option maxRecDepth 100000 in
theorem T_World_coresInside (k0 i0 x1 x2 : Int) (σ : ST) (Q : Option AV → ST → Prop) (h :
  wp m_World_coresInside (5, [some (.inr (.inr (12, k0, i0))), some (.inl x1), some (.inl x2), some (.inl 0), some (.inl 0)], [], σ) Q) :
  wpM m_World_coresInside [.inr (.inr (12, k0, i0)), .inl x1, .inl x2] σ Q :=
 wpM_of ml_80 (L := [some (.inr (.inr (12, k0, i0))), some (.inl x1), some (.inl x2), none, none]) rfl
 (w_iconst (p' := 1) f_80_0 rfl
 (w_istore_n (p' := 2) f_80_1 (L' := [some (.inr (.inr (12, k0, i0))), some (.inl x1), some (.inl x2), some (.inl 0), none]) rfl rfl
 (w_iconst (p' := 3) f_80_2 rfl
 (w_istore (p' := 5) f_80_3 (L' := [some (.inr (.inr (12, k0, i0))), some (.inl x1), some (.inl x2), some (.inl 0), some (.inl 0)]) rfl rfl
 (h)))))
set_option maxRecDepth 100000 in
theorem T_World_coresInside_5 (k0 i0 x1 x2 x3 x4 : Int) (σ : ST) (Q : Option AV → ST → Prop) (h :
  ((((σ 12 k0 i0 1) ≤ x4 : Prop) →
    Q (some (.inl x3)) σ) ∧
  (¬ ((σ 12 k0 i0 1) ≤ x4) →
    (((3 ≤ x4 : Prop) →
      Q (some (.inl x3)) σ) ∧
    (¬ (3 ≤ x4) →
      ((0 : Int) ≤ x4 ∧ (x4 : Int) < 3) ∧
      ((((σ 21 k0 x4 1) ≠ x1 : Prop) →
        wp m_World_coresInside (5, [some (.inr (.inr (12, k0, i0))), some (.inl x1), some (.inl x2), some (.inl x3), some (.inl (wr (x4 + 1)))], [], σ) Q) ∧
      (¬ ((σ 21 k0 x4 1) ≠ x1) →
        ((0 : Int) ≤ x4 ∧ (x4 : Int) < 3) ∧
        (((x2 < (σ 21 k0 x4 3) : Prop) →
          wp m_World_coresInside (5, [some (.inr (.inr (12, k0, i0))), some (.inl x1), some (.inl x2), some (.inl x3), some (.inl (wr (x4 + 1)))], [], σ) Q) ∧
        (¬ (x2 < (σ 21 k0 x4 3)) →
          wp m_World_coresInside (5, [some (.inr (.inr (12, k0, i0))), some (.inl x1), some (.inl x2), some (.inl (i_or x3 (i_shl 1 x4))), some (.inl (wr (x4 + 1)))], [], σ) Q))))))))) :
  wp m_World_coresInside (5, [some (.inr (.inr (12, k0, i0))), some (.inl x1), some (.inl x2), some (.inl x3), some (.inl x4)], [], σ) Q :=
 w_iload (p' := 7) f_80_5 rfl rfl
 (w_aload_n (p' := 8) f_80_7 rfl rfl
 (w_getfield (p' := 11) f_80_8 rfl (x := .inl (σ 12 k0 i0 1)) rfl rfl
 (w_icmp (p' := 61) (q' := 14) f_80_11 rfl rfl
 (fun c104 => w_iload_n (p' := 62) f_80_61 rfl rfl
 (w_iret f_80_62 rk_80 (h.1 c104)))
 (fun c104 => w_iload (p' := 16) f_80_14 rfl rfl
 (w_iconst (p' := 17) f_80_16 rfl
 (w_icmp (p' := 61) (q' := 20) f_80_17 rfl rfl
 (fun c103 => w_iload_n (p' := 62) f_80_61 rfl rfl
 (w_iret f_80_62 rk_80 ((h.2 c104).1 c103)))
 (fun c103 => w_aload_n (p' := 21) f_80_20 rfl rfl
 (w_getfield (p' := 24) f_80_21 rfl (x := .inr (.inr (20, k0, 0))) rfl rfl
 (w_iload (p' := 26) f_80_24 rfl rfl
 (w_aaload (p' := 27) f_80_26 rfl (n := 3) rfl (x := (21, k0, x4)) rfl ((h.2 c104).2 c103).1 rfl
 (w_getfield (p' := 30) f_80_27 rfl (x := .inl (σ 21 k0 x4 1)) rfl rfl
 (w_iload_n (p' := 31) f_80_30 rfl rfl
 (w_icmp (p' := 55) (q' := 34) f_80_31 rfl rfl
 (fun c102 => w_iinc (p' := 58) f_80_55 rfl (L' := [some (.inr (.inr (12, k0, i0))), some (.inl x1), some (.inl x2), some (.inl x3), some (.inl (wr (x4 + 1)))]) rfl rfl
 (w_goto (p' := 5) f_80_58 rfl
 ((((h.2 c104).2 c103).2.1 c102))))
 (fun c102 => w_aload_n (p' := 35) f_80_34 rfl rfl
 (w_getfield (p' := 38) f_80_35 rfl (x := .inr (.inr (20, k0, 0))) rfl rfl
 (w_iload (p' := 40) f_80_38 rfl rfl
 (w_aaload (p' := 41) f_80_40 rfl (n := 3) rfl (x := (21, k0, x4)) rfl (((h.2 c104).2 c103).2.2 c102).1 rfl
 (w_getfield (p' := 44) f_80_41 rfl (x := .inl (σ 21 k0 x4 3)) rfl rfl
 (w_iload_n (p' := 45) f_80_44 rfl rfl
 (w_icmp (p' := 55) (q' := 48) f_80_45 rfl rfl
 (fun c101 => w_iinc (p' := 58) f_80_55 rfl (L' := [some (.inr (.inr (12, k0, i0))), some (.inl x1), some (.inl x2), some (.inl x3), some (.inl (wr (x4 + 1)))]) rfl rfl
 (w_goto (p' := 5) f_80_58 rfl
 (((((h.2 c104).2 c103).2.2 c102).2.1 c101))))
 (fun c101 => w_iload_n (p' := 49) f_80_48 rfl rfl
 (w_iconst (p' := 50) f_80_49 rfl
 (w_iload (p' := 52) f_80_50 rfl rfl
 (w_ishl (p' := 53) f_80_52 rfl
 (w_ior (p' := 54) f_80_53 rfl
 (w_istore_n (p' := 55) f_80_54 (L' := [some (.inr (.inr (12, k0, i0))), some (.inl x1), some (.inl x2), some (.inl (i_or x3 (i_shl 1 x4))), some (.inl x4)]) rfl rfl
 (w_iinc (p' := 58) f_80_55 rfl (L' := [some (.inr (.inr (12, k0, i0))), some (.inl x1), some (.inl x2), some (.inl (i_or x3 (i_shl 1 x4))), some (.inl (wr (x4 + 1)))]) rfl rfl
 (w_goto (p' := 5) f_80_58 rfl
 (((((h.2 c104).2 c103).2.2 c102).2.2 c101))))))))))))))))))))))))))))))
