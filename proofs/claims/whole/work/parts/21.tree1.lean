/-! ClosedRooms$Acts.trackRoom(I)I -/
theorem f_81_0 : fnd 81 0 = some (0, .aload_n 0, 1, 0, 0, 0, 0) := ceB_eq (by decide +kernel)
theorem f_81_1 : fnd 81 1 = some (1, .getfield 12, 3, 3, 0, 0, 0) := ceB_eq (by decide +kernel)
theorem f_81_4 : fnd 81 4 = some (4, .iload_n 1, 1, 0, 0, 0, 0) := ceB_eq (by decide +kernel)
theorem f_81_5 : fnd 81 5 = some (5, .invokevirtual 129, 3, 37, 2, 4, 0) := ceB_eq (by decide +kernel)
theorem f_81_8 : fnd 81 8 = some (8, .ifCond .ne 9, 3, 0, 0, 0, 0) := ceB_eq (by decide +kernel)
theorem f_81_11 : fnd 81 11 = some (11, .aload_n 0, 1, 0, 0, 0, 0) := ceB_eq (by decide +kernel)
theorem f_81_12 : fnd 81 12 = some (12, .iconst 0, 1, 0, 0, 0, 0) := ceB_eq (by decide +kernel)
theorem f_81_13 : fnd 81 13 = some (13, .invokevirtual 85, 3, 53, 2, 3, 0) := ceB_eq (by decide +kernel)
theorem f_81_16 : fnd 81 16 = some (16, .ireturn, 1, 0, 0, 0, 0) := ceB_eq (by decide +kernel)
theorem f_81_17 : fnd 81 17 = some (17, .aload_n 0, 1, 0, 0, 0, 0) := ceB_eq (by decide +kernel)
theorem f_81_18 : fnd 81 18 = some (18, .getfield 12, 3, 3, 0, 0, 0) := ceB_eq (by decide +kernel)
theorem f_81_21 : fnd 81 21 = some (21, .getfield 112, 3, 4, 6, 6, 0) := ceB_eq (by decide +kernel)
theorem f_81_24 : fnd 81 24 = some (24, .iload_n 1, 1, 0, 0, 0, 0) := ceB_eq (by decide +kernel)
theorem f_81_25 : fnd 81 25 = some (25, .aaload, 1, 0, 0, 0, 0) := ceB_eq (by decide +kernel)
theorem f_81_26 : fnd 81 26 = some (26, .astore_n 2, 1, 0, 0, 0, 0) := ceB_eq (by decide +kernel)
theorem f_81_27 : fnd 81 27 = some (27, .aload_n 2, 1, 0, 0, 0, 0) := ceB_eq (by decide +kernel)
theorem f_81_28 : fnd 81 28 = some (28, .getfield 187, 3, 7, 6, 6, 0) := ceB_eq (by decide +kernel)
theorem f_81_31 : fnd 81 31 = some (31, .ifCond .ne 20, 3, 0, 0, 0, 0) := ceB_eq (by decide +kernel)
theorem f_81_34 : fnd 81 34 = some (34, .aload_n 0, 1, 0, 0, 0, 0) := ceB_eq (by decide +kernel)
theorem f_81_35 : fnd 81 35 = some (35, .getfield 12, 3, 3, 0, 0, 0) := ceB_eq (by decide +kernel)
theorem f_81_38 : fnd 81 38 = some (38, .iload_n 1, 1, 0, 0, 0, 0) := ceB_eq (by decide +kernel)
theorem f_81_39 : fnd 81 39 = some (39, .aload_n 2, 1, 0, 0, 0, 0) := ceB_eq (by decide +kernel)
theorem f_81_40 : fnd 81 40 = some (40, .getfield 206, 3, 7, 5, 5, 0) := ceB_eq (by decide +kernel)
theorem f_81_43 : fnd 81 43 = some (43, .iconst 1, 1, 0, 0, 0, 0) := ceB_eq (by decide +kernel)
theorem f_81_44 : fnd 81 44 = some (44, .isub, 1, 0, 0, 0, 0) := ceB_eq (by decide +kernel)
theorem f_81_45 : fnd 81 45 = some (45, .invokevirtual 249, 3, 80, 3, 4, 0) := ceB_eq (by decide +kernel)
theorem f_81_48 : fnd 81 48 = some (48, .ifCond .eq 9, 3, 0, 0, 0, 0) := ceB_eq (by decide +kernel)
theorem f_81_51 : fnd 81 51 = some (51, .aload_n 0, 1, 0, 0, 0, 0) := ceB_eq (by decide +kernel)
theorem f_81_52 : fnd 81 52 = some (52, .iconst 2, 1, 0, 0, 0, 0) := ceB_eq (by decide +kernel)
theorem f_81_53 : fnd 81 53 = some (53, .invokevirtual 85, 3, 53, 2, 3, 0) := ceB_eq (by decide +kernel)
theorem f_81_56 : fnd 81 56 = some (56, .ireturn, 1, 0, 0, 0, 0) := ceB_eq (by decide +kernel)
theorem f_81_57 : fnd 81 57 = some (57, .aload_n 2, 1, 0, 0, 0, 0) := ceB_eq (by decide +kernel)
theorem f_81_58 : fnd 81 58 = some (58, .dup, 1, 0, 0, 0, 0) := ceB_eq (by decide +kernel)
theorem f_81_59 : fnd 81 59 = some (59, .getfield 206, 3, 7, 5, 5, 0) := ceB_eq (by decide +kernel)
theorem f_81_62 : fnd 81 62 = some (62, .iconst 1, 1, 0, 0, 0, 0) := ceB_eq (by decide +kernel)
theorem f_81_63 : fnd 81 63 = some (63, .iadd, 1, 0, 0, 0, 0) := ceB_eq (by decide +kernel)
theorem f_81_64 : fnd 81 64 = some (64, .putfield 206, 3, 7, 5, 5, 0) := ceB_eq (by decide +kernel)
theorem f_81_67 : fnd 81 67 = some (67, .aload_n 2, 1, 0, 0, 0, 0) := ceB_eq (by decide +kernel)
theorem f_81_68 : fnd 81 68 = some (68, .getfield 206, 3, 7, 5, 5, 0) := ceB_eq (by decide +kernel)
theorem f_81_71 : fnd 81 71 = some (71, .ireturn, 1, 0, 0, 0, 0) := ceB_eq (by decide +kernel)
theorem rk_81 : rkm 81 = 0 := by decide +kernel
theorem ml_81 : (mth 81).2.1 = 3 := by decide +kernel
set_option maxRecDepth 100000 in
theorem T_Acts_trackRoom (k0 i0 x1 : Int) (σ : ST) (Q : Option AV → ST → Prop) (h :
  wpM m_World_isRoom [.inr (.inr (12, k0, 0)), .inl x1] σ (asI fun r101 s101 =>
  (((r101 ≠ 0 : Prop) →
    ((0 : Int) ≤ x1 ∧ (x1 : Int) < 4) ∧
    ((((bz (s101 17 k0 x1 6)) ≠ 0 : Prop) →
      wpM m_Acts_refuse [.inr (.inr (11, k0, i0)), .inl 2] s101 (asI fun r102 s102 =>
      Q (some (.inl r102)) s102)) ∧
    (¬ ((bz (s101 17 k0 x1 6)) ≠ 0) →
      wpM m_World_coresInside [.inr (.inr (12, k0, 0)), .inl x1, .inl (wr ((s101 17 k0 x1 5) - 1))] s101 (asI fun r103 s103 =>
      (((r103 = 0 : Prop) →
        Q (some (.inl ((up s103 17 k0 x1 5 (wr ((s103 17 k0 x1 5) + 1))) 17 k0 x1 5))) (up s103 17 k0 x1 5 (wr ((s103 17 k0 x1 5) + 1)))) ∧
      (¬ (r103 = 0) →
        wpM m_Acts_refuse [.inr (.inr (11, k0, i0)), .inl 2] s103 (asI fun r104 s104 =>
        Q (some (.inl r104)) s104))))))) ∧
  (¬ (r101 ≠ 0) →
    wpM m_Acts_refuse [.inr (.inr (11, k0, i0)), .inl 0] s101 (asI fun r107 s107 =>
    Q (some (.inl r107)) s107))))) :
  wpM m_Acts_trackRoom [.inr (.inr (11, k0, i0)), .inl x1] σ Q :=
 wpM_of ml_81 (L := [some (.inr (.inr (11, k0, i0))), some (.inl x1), none]) rfl
 (w_aload_n (p' := 1) f_81_0 rfl rfl
 (w_getfield (p' := 4) f_81_1 rfl (x := .inr (.inr (12, k0, 0))) rfl rfl
 (w_iload_n (p' := 5) f_81_4 rfl rfl
 (w_callV (p' := 8) f_81_5 rfl rfl rfl rfl rfl (r := []) rfl rfl (kI (.inr rk_37) fun r101 s101 h101 =>
 w_if (p' := 17) (q' := 11) f_81_8 rfl rfl
 (fun c108 => w_aload_n (p' := 18) f_81_17 rfl rfl
 (w_getfield (p' := 21) f_81_18 rfl (x := .inr (.inr (12, k0, 0))) rfl rfl
 (w_getfield (p' := 24) f_81_21 rfl (x := .inr (.inr (16, k0, 0))) rfl rfl
 (w_iload_n (p' := 25) f_81_24 rfl rfl
 (w_aaload (p' := 26) f_81_25 rfl (n := 4) rfl (x := (17, k0, x1)) rfl (h101.1 c108).1 rfl
 (w_astore_n (p' := 27) f_81_26 (L' := [some (.inr (.inr (11, k0, i0))), some (.inl x1), some (.inr (.inr (17, k0, x1)))]) rfl rfl
 (w_aload_n (p' := 28) f_81_27 rfl rfl
 (w_getfield (p' := 31) f_81_28 rfl (x := .inl (bz (s101 17 k0 x1 6))) rfl rfl
 (w_if (p' := 51) (q' := 34) f_81_31 rfl rfl
 (fun c106 => w_aload_n (p' := 52) f_81_51 rfl rfl
 (w_iconst (p' := 53) f_81_52 rfl
 (w_callV (p' := 56) f_81_53 rfl rfl rfl rfl rfl (r := []) rfl rfl (kI (.inl rk_53) fun r102 s102 h102 =>
 w_iret f_81_56 rk_81 h102) ((h101.1 c108).2.1 c106))))
 (fun c106 => w_aload_n (p' := 35) f_81_34 rfl rfl
 (w_getfield (p' := 38) f_81_35 rfl (x := .inr (.inr (12, k0, 0))) rfl rfl
 (w_iload_n (p' := 39) f_81_38 rfl rfl
 (w_aload_n (p' := 40) f_81_39 rfl rfl
 (w_getfield (p' := 43) f_81_40 rfl (x := .inl (s101 17 k0 x1 5)) rfl rfl
 (w_iconst (p' := 44) f_81_43 rfl
 (w_isub (p' := 45) f_81_44 rfl
 (w_callV (p' := 48) f_81_45 rfl rfl rfl rfl rfl (r := []) rfl rfl (kI (.inl rk_80) fun r103 s103 h103 =>
 w_if (p' := 57) (q' := 51) f_81_48 rfl rfl
 (fun c105 => w_aload_n (p' := 58) f_81_57 rfl rfl
 (w_dupR (p' := 59) f_81_58 rfl
 (w_getfield (p' := 62) f_81_59 rfl (x := .inl (s103 17 k0 x1 5)) rfl rfl
 (w_iconst (p' := 63) f_81_62 rfl
 (w_iadd (p' := 64) f_81_63 rfl
 (w_putI (p' := 67) f_81_64 rfl rfl (c' := 5) rfl rfl
 (w_aload_n (p' := 68) f_81_67 rfl rfl
 (w_getfield (p' := 71) f_81_68 rfl (x := .inl ((up s103 17 k0 x1 5 (wr ((s103 17 k0 x1 5) + 1))) 17 k0 x1 5)) rfl rfl
 (w_iret f_81_71 rk_81 (h103.1 c105))))))))))
 (fun c105 => w_aload_n (p' := 52) f_81_51 rfl rfl
 (w_iconst (p' := 53) f_81_52 rfl
 (w_callV (p' := 56) f_81_53 rfl rfl rfl rfl rfl (r := []) rfl rfl (kI (.inl rk_53) fun r104 s104 h104 =>
 w_iret f_81_56 rk_81 h104) (h103.2 c105))))) ((h101.1 c108).2.2 c106))))))))))))))))))
 (fun c108 => w_aload_n (p' := 12) f_81_11 rfl rfl
 (w_iconst (p' := 13) f_81_12 rfl
 (w_callV (p' := 16) f_81_13 rfl rfl rfl rfl rfl (r := []) rfl rfl (kI (.inl rk_53) fun r107 s107 h107 =>
 w_iret f_81_16 rk_81 h107) (h101.2 c108))))) h))))
/-! ClosedRooms$World.pagesHere(I)I -/
theorem f_82_0 : fnd 82 0 = some (0, .iconst 0, 1, 0, 0, 0, 0) := ceB_eq (by decide +kernel)
theorem f_82_1 : fnd 82 1 = some (1, .istore_n 2, 1, 0, 0, 0, 0) := ceB_eq (by decide +kernel)
theorem f_82_2 : fnd 82 2 = some (2, .iconst 0, 1, 0, 0, 0, 0) := ceB_eq (by decide +kernel)
theorem f_82_3 : fnd 82 3 = some (3, .istore_n 3, 1, 0, 0, 0, 0) := ceB_eq (by decide +kernel)
theorem f_82_4 : fnd 82 4 = some (4, .iload_n 3, 1, 0, 0, 0, 0) := ceB_eq (by decide +kernel)
theorem f_82_5 : fnd 82 5 = some (5, .aload_n 0, 1, 0, 0, 0, 0) := ceB_eq (by decide +kernel)
theorem f_82_6 : fnd 82 6 = some (6, .getfield 9, 3, 4, 0, 0, 0) := ceB_eq (by decide +kernel)
theorem f_82_9 : fnd 82 9 = some (9, .if_icmp .ge 31, 3, 0, 0, 0, 0) := ceB_eq (by decide +kernel)
theorem f_82_12 : fnd 82 12 = some (12, .iload_n 3, 1, 0, 0, 0, 0) := ceB_eq (by decide +kernel)
theorem f_82_13 : fnd 82 13 = some (13, .bipush 10, 2, 0, 0, 0, 0) := ceB_eq (by decide +kernel)
theorem f_82_15 : fnd 82 15 = some (15, .if_icmp .ge 25, 3, 0, 0, 0, 0) := ceB_eq (by decide +kernel)
theorem f_82_18 : fnd 82 18 = some (18, .aload_n 0, 1, 0, 0, 0, 0) := ceB_eq (by decide +kernel)
theorem f_82_19 : fnd 82 19 = some (19, .getfield 29, 3, 4, 5, 5, 0) := ceB_eq (by decide +kernel)
theorem f_82_22 : fnd 82 22 = some (22, .iload_n 3, 1, 0, 0, 0, 0) := ceB_eq (by decide +kernel)
theorem f_82_23 : fnd 82 23 = some (23, .aaload, 1, 0, 0, 0, 0) := ceB_eq (by decide +kernel)
theorem f_82_24 : fnd 82 24 = some (24, .getfield 97, 3, 6, 1, 1, 0) := ceB_eq (by decide +kernel)
theorem f_82_27 : fnd 82 27 = some (27, .iload_n 1, 1, 0, 0, 0, 0) := ceB_eq (by decide +kernel)
theorem f_82_28 : fnd 82 28 = some (28, .if_icmp .ne 6, 3, 0, 0, 0, 0) := ceB_eq (by decide +kernel)
theorem f_82_31 : fnd 82 31 = some (31, .iinc 2 1, 3, 0, 0, 0, 0) := ceB_eq (by decide +kernel)
theorem f_82_34 : fnd 82 34 = some (34, .iinc 3 1, 3, 0, 0, 0, 0) := ceB_eq (by decide +kernel)
theorem f_82_37 : fnd 82 37 = some (37, .goto (-33), 3, 0, 0, 0, 0) := ceB_eq (by decide +kernel)
theorem f_82_40 : fnd 82 40 = some (40, .iload_n 2, 1, 0, 0, 0, 0) := ceB_eq (by decide +kernel)
theorem f_82_41 : fnd 82 41 = some (41, .ireturn, 1, 0, 0, 0, 0) := ceB_eq (by decide +kernel)
theorem rk_82 : rkm 82 = 0 := by decide +kernel
theorem ml_82 : (mth 82).2.1 = 4 := by decide +kernel
set_option maxRecDepth 100000 in
theorem T_World_pagesHere (k0 i0 x1 : Int) (σ : ST) (Q : Option AV → ST → Prop) (h :
  wp m_World_pagesHere (4, [some (.inr (.inr (12, k0, i0))), some (.inl x1), some (.inl 0), some (.inl 0)], [], σ) Q) :
  wpM m_World_pagesHere [.inr (.inr (12, k0, i0)), .inl x1] σ Q :=
 wpM_of ml_82 (L := [some (.inr (.inr (12, k0, i0))), some (.inl x1), none, none]) rfl
 (w_iconst (p' := 1) f_82_0 rfl
 (w_istore_n (p' := 2) f_82_1 (L' := [some (.inr (.inr (12, k0, i0))), some (.inl x1), some (.inl 0), none]) rfl rfl
 (w_iconst (p' := 3) f_82_2 rfl
 (w_istore_n (p' := 4) f_82_3 (L' := [some (.inr (.inr (12, k0, i0))), some (.inl x1), some (.inl 0), some (.inl 0)]) rfl rfl
 (h)))))
set_option maxRecDepth 100000 in
theorem T_World_pagesHere_4 (k0 i0 x1 x2 x3 : Int) (σ : ST) (Q : Option AV → ST → Prop) (h :
  ((((σ 12 k0 i0 0) ≤ x3 : Prop) →
    Q (some (.inl x2)) σ) ∧
  (¬ ((σ 12 k0 i0 0) ≤ x3) →
    (((10 ≤ x3 : Prop) →
      Q (some (.inl x2)) σ) ∧
    (¬ (10 ≤ x3) →
      ((0 : Int) ≤ x3 ∧ (x3 : Int) < 10) ∧
      ((((σ 14 k0 x3 1) ≠ x1 : Prop) →
        wp m_World_pagesHere (4, [some (.inr (.inr (12, k0, i0))), some (.inl x1), some (.inl x2), some (.inl (wr (x3 + 1)))], [], σ) Q) ∧
      (¬ ((σ 14 k0 x3 1) ≠ x1) →
        wp m_World_pagesHere (4, [some (.inr (.inr (12, k0, i0))), some (.inl x1), some (.inl (wr (x2 + 1))), some (.inl (wr (x3 + 1)))], [], σ) Q))))))) :
  wp m_World_pagesHere (4, [some (.inr (.inr (12, k0, i0))), some (.inl x1), some (.inl x2), some (.inl x3)], [], σ) Q :=
 w_iload_n (p' := 5) f_82_4 rfl rfl
 (w_aload_n (p' := 6) f_82_5 rfl rfl
 (w_getfield (p' := 9) f_82_6 rfl (x := .inl (σ 12 k0 i0 0)) rfl rfl
 (w_icmp (p' := 40) (q' := 12) f_82_9 rfl rfl
 (fun c103 => w_iload_n (p' := 41) f_82_40 rfl rfl
 (w_iret f_82_41 rk_82 (h.1 c103)))
 (fun c103 => w_iload_n (p' := 13) f_82_12 rfl rfl
 (w_bipush (p' := 15) f_82_13 rfl
 (w_icmp (p' := 40) (q' := 18) f_82_15 rfl rfl
 (fun c102 => w_iload_n (p' := 41) f_82_40 rfl rfl
 (w_iret f_82_41 rk_82 ((h.2 c103).1 c102)))
 (fun c102 => w_aload_n (p' := 19) f_82_18 rfl rfl
 (w_getfield (p' := 22) f_82_19 rfl (x := .inr (.inr (13, k0, 0))) rfl rfl
 (w_iload_n (p' := 23) f_82_22 rfl rfl
 (w_aaload (p' := 24) f_82_23 rfl (n := 10) rfl (x := (14, k0, x3)) rfl ((h.2 c103).2 c102).1 rfl
 (w_getfield (p' := 27) f_82_24 rfl (x := .inl (σ 14 k0 x3 1)) rfl rfl
 (w_iload_n (p' := 28) f_82_27 rfl rfl
 (w_icmp (p' := 34) (q' := 31) f_82_28 rfl rfl
 (fun c101 => w_iinc (p' := 37) f_82_34 rfl (L' := [some (.inr (.inr (12, k0, i0))), some (.inl x1), some (.inl x2), some (.inl (wr (x3 + 1)))]) rfl rfl
 (w_goto (p' := 4) f_82_37 rfl
 ((((h.2 c103).2 c102).2.1 c101))))
 (fun c101 => w_iinc (p' := 34) f_82_31 rfl (L' := [some (.inr (.inr (12, k0, i0))), some (.inl x1), some (.inl (wr (x2 + 1))), some (.inl x3)]) rfl rfl
 (w_iinc (p' := 37) f_82_34 rfl (L' := [some (.inr (.inr (12, k0, i0))), some (.inl x1), some (.inl (wr (x2 + 1))), some (.inl (wr (x3 + 1)))]) rfl rfl
 (w_goto (p' := 4) f_82_37 rfl
 ((((h.2 c103).2 c102).2.2 c101))))))))))))))))))
/-! ClosedRooms$World.canGo(I)Z -/
theorem f_83_0 : fnd 83 0 = some (0, .aload_n 0, 1, 0, 0, 0, 0) := ceB_eq (by decide +kernel)
theorem f_83_1 : fnd 83 1 = some (1, .iload_n 1, 1, 0, 0, 0, 0) := ceB_eq (by decide +kernel)
theorem f_83_2 : fnd 83 2 = some (2, .invokevirtual 90, 3, 32, 2, 4, 0) := ceB_eq (by decide +kernel)
theorem f_83_5 : fnd 83 5 = some (5, .ifCond .ne 5, 3, 0, 0, 0, 0) := ceB_eq (by decide +kernel)
theorem f_83_8 : fnd 83 8 = some (8, .iconst 0, 1, 0, 0, 0, 0) := ceB_eq (by decide +kernel)
theorem f_83_9 : fnd 83 9 = some (9, .ireturn, 1, 0, 0, 0, 0) := ceB_eq (by decide +kernel)
theorem f_83_10 : fnd 83 10 = some (10, .aload_n 0, 1, 0, 0, 0, 0) := ceB_eq (by decide +kernel)
theorem f_83_11 : fnd 83 11 = some (11, .getfield 29, 3, 4, 5, 5, 0) := ceB_eq (by decide +kernel)
theorem f_83_14 : fnd 83 14 = some (14, .iload_n 1, 1, 0, 0, 0, 0) := ceB_eq (by decide +kernel)
theorem f_83_15 : fnd 83 15 = some (15, .aaload, 1, 0, 0, 0, 0) := ceB_eq (by decide +kernel)
theorem f_83_16 : fnd 83 16 = some (16, .astore_n 2, 1, 0, 0, 0, 0) := ceB_eq (by decide +kernel)
theorem f_83_17 : fnd 83 17 = some (17, .aload_n 2, 1, 0, 0, 0, 0) := ceB_eq (by decide +kernel)
theorem f_83_18 : fnd 83 18 = some (18, .getfield 94, 3, 6, 0, 0, 0) := ceB_eq (by decide +kernel)
theorem f_83_21 : fnd 83 21 = some (21, .iconst 1, 1, 0, 0, 0, 0) := ceB_eq (by decide +kernel)
theorem f_83_22 : fnd 83 22 = some (22, .if_icmp .ne 21, 3, 0, 0, 0, 0) := ceB_eq (by decide +kernel)
theorem f_83_25 : fnd 83 25 = some (25, .aload_n 0, 1, 0, 0, 0, 0) := ceB_eq (by decide +kernel)
theorem f_83_26 : fnd 83 26 = some (26, .aload_n 2, 1, 0, 0, 0, 0) := ceB_eq (by decide +kernel)
theorem f_83_27 : fnd 83 27 = some (27, .getfield 97, 3, 6, 1, 1, 0) := ceB_eq (by decide +kernel)
theorem f_83_30 : fnd 83 30 = some (30, .invokevirtual 119, 3, 82, 2, 4, 0) := ceB_eq (by decide +kernel)
theorem f_83_33 : fnd 83 33 = some (33, .iconst 1, 1, 0, 0, 0, 0) := ceB_eq (by decide +kernel)
theorem f_83_34 : fnd 83 34 = some (34, .if_icmp .ne 7, 3, 0, 0, 0, 0) := ceB_eq (by decide +kernel)
theorem f_83_37 : fnd 83 37 = some (37, .iconst 1, 1, 0, 0, 0, 0) := ceB_eq (by decide +kernel)
theorem f_83_38 : fnd 83 38 = some (38, .goto 4, 3, 0, 0, 0, 0) := ceB_eq (by decide +kernel)
theorem f_83_41 : fnd 83 41 = some (41, .iconst 0, 1, 0, 0, 0, 0) := ceB_eq (by decide +kernel)
theorem f_83_42 : fnd 83 42 = some (42, .ireturn, 1, 0, 0, 0, 0) := ceB_eq (by decide +kernel)
theorem f_83_43 : fnd 83 43 = some (43, .aload_n 2, 1, 0, 0, 0, 0) := ceB_eq (by decide +kernel)
theorem f_83_44 : fnd 83 44 = some (44, .invokevirtual 123, 3, 78, 1, 6, 0) := ceB_eq (by decide +kernel)
theorem f_83_47 : fnd 83 47 = some (47, .ifCond .eq 21, 3, 0, 0, 0, 0) := ceB_eq (by decide +kernel)
theorem f_83_50 : fnd 83 50 = some (50, .aload_n 2, 1, 0, 0, 0, 0) := ceB_eq (by decide +kernel)
theorem f_83_51 : fnd 83 51 = some (51, .getfield 127, 3, 6, 5, 5, 0) := ceB_eq (by decide +kernel)
theorem f_83_54 : fnd 83 54 = some (54, .ifCond .eq 14, 3, 0, 0, 0, 0) := ceB_eq (by decide +kernel)
theorem f_83_57 : fnd 83 57 = some (57, .aload_n 0, 1, 0, 0, 0, 0) := ceB_eq (by decide +kernel)
theorem f_83_58 : fnd 83 58 = some (58, .aload_n 2, 1, 0, 0, 0, 0) := ceB_eq (by decide +kernel)
theorem f_83_59 : fnd 83 59 = some (59, .getfield 97, 3, 6, 1, 1, 0) := ceB_eq (by decide +kernel)
theorem f_83_62 : fnd 83 62 = some (62, .invokevirtual 107, 3, 37, 2, 4, 0) := ceB_eq (by decide +kernel)
theorem f_83_65 : fnd 83 65 = some (65, .ifCond .ne 5, 3, 0, 0, 0, 0) := ceB_eq (by decide +kernel)
theorem f_83_68 : fnd 83 68 = some (68, .iconst 0, 1, 0, 0, 0, 0) := ceB_eq (by decide +kernel)
theorem f_83_69 : fnd 83 69 = some (69, .ireturn, 1, 0, 0, 0, 0) := ceB_eq (by decide +kernel)
theorem f_83_70 : fnd 83 70 = some (70, .aload_n 2, 1, 0, 0, 0, 0) := ceB_eq (by decide +kernel)
theorem f_83_71 : fnd 83 71 = some (71, .getfield 94, 3, 6, 0, 0, 0) := ceB_eq (by decide +kernel)
theorem f_83_74 : fnd 83 74 = some (74, .iconst 3, 1, 0, 0, 0, 0) := ceB_eq (by decide +kernel)
theorem f_83_75 : fnd 83 75 = some (75, .if_icmp .ne 13, 3, 0, 0, 0, 0) := ceB_eq (by decide +kernel)
theorem f_83_78 : fnd 83 78 = some (78, .aload_n 2, 1, 0, 0, 0, 0) := ceB_eq (by decide +kernel)
theorem f_83_79 : fnd 83 79 = some (79, .getfield 130, 3, 6, 7, 7, 0) := ceB_eq (by decide +kernel)
theorem f_83_82 : fnd 83 82 = some (82, .iconst 1, 1, 0, 0, 0, 0) := ceB_eq (by decide +kernel)
theorem f_83_83 : fnd 83 83 = some (83, .if_icmp .ne 5, 3, 0, 0, 0, 0) := ceB_eq (by decide +kernel)
theorem f_83_86 : fnd 83 86 = some (86, .iconst 0, 1, 0, 0, 0, 0) := ceB_eq (by decide +kernel)
theorem f_83_87 : fnd 83 87 = some (87, .ireturn, 1, 0, 0, 0, 0) := ceB_eq (by decide +kernel)
theorem f_83_88 : fnd 83 88 = some (88, .aload_n 2, 1, 0, 0, 0, 0) := ceB_eq (by decide +kernel)
theorem f_83_89 : fnd 83 89 = some (89, .getfield 133, 3, 6, 6, 6, 0) := ceB_eq (by decide +kernel)
theorem f_83_92 : fnd 83 92 = some (92, .aload_n 0, 1, 0, 0, 0, 0) := ceB_eq (by decide +kernel)
theorem f_83_93 : fnd 83 93 = some (93, .getfield 35, 3, 4, 6, 6, 0) := ceB_eq (by decide +kernel)
theorem f_83_96 : fnd 83 96 = some (96, .aload_n 2, 1, 0, 0, 0, 0) := ceB_eq (by decide +kernel)
theorem f_83_97 : fnd 83 97 = some (97, .getfield 97, 3, 6, 1, 1, 0) := ceB_eq (by decide +kernel)
theorem f_83_100 : fnd 83 100 = some (100, .aaload, 1, 0, 0, 0, 0) := ceB_eq (by decide +kernel)
theorem f_83_101 : fnd 83 101 = some (101, .getfield 136, 3, 7, 5, 5, 0) := ceB_eq (by decide +kernel)
theorem f_83_104 : fnd 83 104 = some (104, .if_icmp .ge 22, 3, 0, 0, 0, 0) := ceB_eq (by decide +kernel)
theorem f_83_107 : fnd 83 107 = some (107, .aload_n 0, 1, 0, 0, 0, 0) := ceB_eq (by decide +kernel)
theorem f_83_108 : fnd 83 108 = some (108, .aload_n 2, 1, 0, 0, 0, 0) := ceB_eq (by decide +kernel)
theorem f_83_109 : fnd 83 109 = some (109, .getfield 97, 3, 6, 1, 1, 0) := ceB_eq (by decide +kernel)
theorem f_83_112 : fnd 83 112 = some (112, .aload_n 2, 1, 0, 0, 0, 0) := ceB_eq (by decide +kernel)
theorem f_83_113 : fnd 83 113 = some (113, .getfield 133, 3, 6, 6, 6, 0) := ceB_eq (by decide +kernel)
theorem f_83_116 : fnd 83 116 = some (116, .invokevirtual 139, 3, 80, 3, 4, 0) := ceB_eq (by decide +kernel)
theorem f_83_119 : fnd 83 119 = some (119, .ifCond .ne 7, 3, 0, 0, 0, 0) := ceB_eq (by decide +kernel)
theorem f_83_122 : fnd 83 122 = some (122, .iconst 1, 1, 0, 0, 0, 0) := ceB_eq (by decide +kernel)
theorem f_83_123 : fnd 83 123 = some (123, .goto 4, 3, 0, 0, 0, 0) := ceB_eq (by decide +kernel)
theorem f_83_126 : fnd 83 126 = some (126, .iconst 0, 1, 0, 0, 0, 0) := ceB_eq (by decide +kernel)
theorem f_83_127 : fnd 83 127 = some (127, .ireturn, 1, 0, 0, 0, 0) := ceB_eq (by decide +kernel)
theorem rk_83 : rkm 83 = 1 := by decide +kernel
theorem ml_83 : (mth 83).2.1 = 3 := by decide +kernel
set_option maxRecDepth 100000 in
theorem T_World_canGo (k0 i0 x1 : Int) (σ : ST) (Q : Option AV → ST → Prop) (h :
  wpM m_World_isPage [.inr (.inr (12, k0, i0)), .inl x1] σ (asI fun r101 s101 =>
  (((r101 ≠ 0 : Prop) →
    ((0 : Int) ≤ x1 ∧ (x1 : Int) < 10) ∧
    ((((s101 14 k0 x1 0) ≠ 1 : Prop) →
      wpM m_Page_hasAddress [.inr (.inr (14, k0, x1))] s101 (asI fun r102 s102 =>
      (((r102 = 0 : Prop) →
        ((0 : Int) = 0 ∨ (0 : Int) = 1) ∧ Q (some (.inl 0)) s102) ∧
      (¬ (r102 = 0) →
        ((((bz (s102 14 k0 x1 5)) = 0 : Prop) →
          ((0 : Int) = 0 ∨ (0 : Int) = 1) ∧ Q (some (.inl 0)) s102) ∧
        (¬ ((bz (s102 14 k0 x1 5)) = 0) →
          wpM m_World_isRoom [.inr (.inr (12, k0, i0)), .inl (s102 14 k0 x1 1)] s102 (asI fun r103 s103 =>
          (((r103 ≠ 0 : Prop) →
            ((((s103 14 k0 x1 0) ≠ 3 : Prop) →
              wp m_World_canGo (88, [some (.inr (.inr (12, k0, i0))), some (.inl x1), some (.inr (.inr (14, k0, x1)))], [], s103) Q) ∧
            (¬ ((s103 14 k0 x1 0) ≠ 3) →
              ((((s103 14 k0 x1 7) ≠ 1 : Prop) →
                wp m_World_canGo (88, [some (.inr (.inr (12, k0, i0))), some (.inl x1), some (.inr (.inr (14, k0, x1)))], [], s103) Q) ∧
              (¬ ((s103 14 k0 x1 7) ≠ 1) →
                ((0 : Int) = 0 ∨ (0 : Int) = 1) ∧ Q (some (.inl 0)) s103))))) ∧
          (¬ (r103 ≠ 0) →
            ((0 : Int) = 0 ∨ (0 : Int) = 1) ∧ Q (some (.inl 0)) s103))))))))) ∧
    (¬ ((s101 14 k0 x1 0) ≠ 1) →
      wpM m_World_pagesHere [.inr (.inr (12, k0, i0)), .inl (s101 14 k0 x1 1)] s101 (asI fun r109 s109 =>
      (((r109 ≠ 1 : Prop) →
        ((0 : Int) = 0 ∨ (0 : Int) = 1) ∧ Q (some (.inl 0)) s109) ∧
      (¬ (r109 ≠ 1) →
        ((1 : Int) = 0 ∨ (1 : Int) = 1) ∧ Q (some (.inl 1)) s109)))))) ∧
  (¬ (r101 ≠ 0) →
    ((0 : Int) = 0 ∨ (0 : Int) = 1) ∧ Q (some (.inl 0)) s101)))) :
  wpM m_World_canGo [.inr (.inr (12, k0, i0)), .inl x1] σ Q :=
 wpM_of ml_83 (L := [some (.inr (.inr (12, k0, i0))), some (.inl x1), none]) rfl
 (w_aload_n (p' := 1) f_83_0 rfl rfl
 (w_iload_n (p' := 2) f_83_1 rfl rfl
 (w_callV (p' := 5) f_83_2 rfl rfl rfl rfl rfl (r := []) rfl rfl (kI (.inr rk_32) fun r101 s101 h101 =>
 w_if (p' := 10) (q' := 8) f_83_5 rfl rfl
 (fun c112 => w_aload_n (p' := 11) f_83_10 rfl rfl
 (w_getfield (p' := 14) f_83_11 rfl (x := .inr (.inr (13, k0, 0))) rfl rfl
 (w_iload_n (p' := 15) f_83_14 rfl rfl
 (w_aaload (p' := 16) f_83_15 rfl (n := 10) rfl (x := (14, k0, x1)) rfl (h101.1 c112).1 rfl
 (w_astore_n (p' := 17) f_83_16 (L' := [some (.inr (.inr (12, k0, i0))), some (.inl x1), some (.inr (.inr (14, k0, x1)))]) rfl rfl
 (w_aload_n (p' := 18) f_83_17 rfl rfl
 (w_getfield (p' := 21) f_83_18 rfl (x := .inl (s101 14 k0 x1 0)) rfl rfl
 (w_iconst (p' := 22) f_83_21 rfl
 (w_icmp (p' := 43) (q' := 25) f_83_22 rfl rfl
 (fun c111 => w_aload_n (p' := 44) f_83_43 rfl rfl
 (w_callV (p' := 47) f_83_44 rfl rfl rfl rfl rfl (r := []) rfl rfl (kI (.inr rk_78) fun r102 s102 h102 =>
 w_if (p' := 68) (q' := 50) f_83_47 rfl rfl
 (fun c108 => w_iconst (p' := 69) f_83_68 rfl
 (w_zret f_83_69 rk_83 (h102.1 c108).1 (h102.1 c108).2))
 (fun c108 => w_aload_n (p' := 51) f_83_50 rfl rfl
 (w_getfield (p' := 54) f_83_51 rfl (x := .inl (bz (s102 14 k0 x1 5))) rfl rfl
 (w_if (p' := 68) (q' := 57) f_83_54 rfl rfl
 (fun c107 => w_iconst (p' := 69) f_83_68 rfl
 (w_zret f_83_69 rk_83 ((h102.2 c108).1 c107).1 ((h102.2 c108).1 c107).2))
 (fun c107 => w_aload_n (p' := 58) f_83_57 rfl rfl
 (w_aload_n (p' := 59) f_83_58 rfl rfl
 (w_getfield (p' := 62) f_83_59 rfl (x := .inl (s102 14 k0 x1 1)) rfl rfl
 (w_callV (p' := 65) f_83_62 rfl rfl rfl rfl rfl (r := []) rfl rfl (kI (.inr rk_37) fun r103 s103 h103 =>
 w_if (p' := 70) (q' := 68) f_83_65 rfl rfl
 (fun c106 => w_aload_n (p' := 71) f_83_70 rfl rfl
 (w_getfield (p' := 74) f_83_71 rfl (x := .inl (s103 14 k0 x1 0)) rfl rfl
 (w_iconst (p' := 75) f_83_74 rfl
 (w_icmp (p' := 88) (q' := 78) f_83_75 rfl rfl
 (fun c105 => ((h103.1 c106).1 c105))
 (fun c105 => w_aload_n (p' := 79) f_83_78 rfl rfl
 (w_getfield (p' := 82) f_83_79 rfl (x := .inl (s103 14 k0 x1 7)) rfl rfl
 (w_iconst (p' := 83) f_83_82 rfl
 (w_icmp (p' := 88) (q' := 86) f_83_83 rfl rfl
 (fun c104 => (((h103.1 c106).2 c105).1 c104))
 (fun c104 => w_iconst (p' := 87) f_83_86 rfl
 (w_zret f_83_87 rk_83 (((h103.1 c106).2 c105).2 c104).1 (((h103.1 c106).2 c105).2 c104).2))))))))))
 (fun c106 => w_iconst (p' := 69) f_83_68 rfl
 (w_zret f_83_69 rk_83 (h103.2 c106).1 (h103.2 c106).2))) ((h102.2 c108).2 c107))))))))) ((h101.1 c112).2.1 c111)))
 (fun c111 => w_aload_n (p' := 26) f_83_25 rfl rfl
 (w_aload_n (p' := 27) f_83_26 rfl rfl
 (w_getfield (p' := 30) f_83_27 rfl (x := .inl (s101 14 k0 x1 1)) rfl rfl
 (w_callV (p' := 33) f_83_30 rfl rfl rfl rfl rfl (r := []) rfl rfl (kI (.inl rk_82) fun r109 s109 h109 =>
 w_iconst (p' := 34) f_83_33 rfl
 (w_icmp (p' := 41) (q' := 37) f_83_34 rfl rfl
 (fun c110 => w_iconst (p' := 42) f_83_41 rfl
 (w_zret f_83_42 rk_83 (h109.1 c110).1 (h109.1 c110).2))
 (fun c110 => w_iconst (p' := 38) f_83_37 rfl
 (w_goto (p' := 42) f_83_38 rfl
 (w_zret f_83_42 rk_83 (h109.2 c110).1 (h109.2 c110).2))))) ((h101.1 c112).2.2 c111))))))))))))))
 (fun c112 => w_iconst (p' := 9) f_83_8 rfl
 (w_zret f_83_9 rk_83 (h101.2 c112).1 (h101.2 c112).2))) h)))
set_option maxRecDepth 100000 in
theorem T_World_canGo_88 (k0 i0 k2 i2 : Int) (o1 : Option AV) (σ : ST) (Q : Option AV → ST → Prop) (h :
  ((0 : Int) ≤ (σ 14 k2 i2 1) ∧ ((σ 14 k2 i2 1) : Int) < 4) ∧
  ((((σ 17 k0 (σ 14 k2 i2 1) 5) ≤ (σ 14 k2 i2 6) : Prop) →
    ((0 : Int) = 0 ∨ (0 : Int) = 1) ∧ Q (some (.inl 0)) σ) ∧
  (¬ ((σ 17 k0 (σ 14 k2 i2 1) 5) ≤ (σ 14 k2 i2 6)) →
    wpM m_World_coresInside [.inr (.inr (12, k0, i0)), .inl (σ 14 k2 i2 1), .inl (σ 14 k2 i2 6)] σ (asI fun r101 s101 =>
    (((r101 ≠ 0 : Prop) →
      ((0 : Int) = 0 ∨ (0 : Int) = 1) ∧ Q (some (.inl 0)) s101) ∧
    (¬ (r101 ≠ 0) →
      ((1 : Int) = 0 ∨ (1 : Int) = 1) ∧ Q (some (.inl 1)) s101)))))) :
  wp m_World_canGo (88, [some (.inr (.inr (12, k0, i0))), o1, some (.inr (.inr (14, k2, i2)))], [], σ) Q :=
 w_aload_n (p' := 89) f_83_88 rfl rfl
 (w_getfield (p' := 92) f_83_89 rfl (x := .inl (σ 14 k2 i2 6)) rfl rfl
 (w_aload_n (p' := 93) f_83_92 rfl rfl
 (w_getfield (p' := 96) f_83_93 rfl (x := .inr (.inr (16, k0, 0))) rfl rfl
 (w_aload_n (p' := 97) f_83_96 rfl rfl
 (w_getfield (p' := 100) f_83_97 rfl (x := .inl (σ 14 k2 i2 1)) rfl rfl
 (w_aaload (p' := 101) f_83_100 rfl (n := 4) rfl (x := (17, k0, (σ 14 k2 i2 1))) rfl h.1 rfl
 (w_getfield (p' := 104) f_83_101 rfl (x := .inl (σ 17 k0 (σ 14 k2 i2 1) 5)) rfl rfl
 (w_icmp (p' := 126) (q' := 107) f_83_104 rfl rfl
 (fun c103 => w_iconst (p' := 127) f_83_126 rfl
 (w_zret f_83_127 rk_83 (h.2.1 c103).1 (h.2.1 c103).2))
 (fun c103 => w_aload_n (p' := 108) f_83_107 rfl rfl
 (w_aload_n (p' := 109) f_83_108 rfl rfl
 (w_getfield (p' := 112) f_83_109 rfl (x := .inl (σ 14 k2 i2 1)) rfl rfl
 (w_aload_n (p' := 113) f_83_112 rfl rfl
 (w_getfield (p' := 116) f_83_113 rfl (x := .inl (σ 14 k2 i2 6)) rfl rfl
 (w_callV (p' := 119) f_83_116 rfl rfl rfl rfl rfl (r := []) rfl rfl (kI (.inl rk_80) fun r101 s101 h101 =>
 w_if (p' := 126) (q' := 122) f_83_119 rfl rfl
 (fun c102 => w_iconst (p' := 127) f_83_126 rfl
 (w_zret f_83_127 rk_83 (h101.1 c102).1 (h101.1 c102).2))
 (fun c102 => w_iconst (p' := 123) f_83_122 rfl
 (w_goto (p' := 127) f_83_123 rfl
 (w_zret f_83_127 rk_83 (h101.2 c102).1 (h101.2 c102).2)))) (h.2.2 c103)))))))))))))))
/-! ClosedRooms$World.lowestEmptyPlace()I -/
theorem f_84_0 : fnd 84 0 = some (0, .iconst 0, 1, 0, 0, 0, 0) := ceB_eq (by decide +kernel)
theorem f_84_1 : fnd 84 1 = some (1, .istore_n 1, 1, 0, 0, 0, 0) := ceB_eq (by decide +kernel)
theorem f_84_2 : fnd 84 2 = some (2, .iload_n 1, 1, 0, 0, 0, 0) := ceB_eq (by decide +kernel)
theorem f_84_3 : fnd 84 3 = some (3, .bipush 12, 2, 0, 0, 0, 0) := ceB_eq (by decide +kernel)
theorem f_84_5 : fnd 84 5 = some (5, .if_icmp .ge 23, 3, 0, 0, 0, 0) := ceB_eq (by decide +kernel)
theorem f_84_8 : fnd 84 8 = some (8, .aload_n 0, 1, 0, 0, 0, 0) := ceB_eq (by decide +kernel)
theorem f_84_9 : fnd 84 9 = some (9, .getfield 47, 3, 4, 8, 8, 0) := ceB_eq (by decide +kernel)
theorem f_84_12 : fnd 84 12 = some (12, .iload_n 1, 1, 0, 0, 0, 0) := ceB_eq (by decide +kernel)
theorem f_84_13 : fnd 84 13 = some (13, .aaload, 1, 0, 0, 0, 0) := ceB_eq (by decide +kernel)
theorem f_84_14 : fnd 84 14 = some (14, .getfield 72, 3, 9, 0, 0, 0) := ceB_eq (by decide +kernel)
theorem f_84_17 : fnd 84 17 = some (17, .ifCond .ne 5, 3, 0, 0, 0, 0) := ceB_eq (by decide +kernel)
theorem f_84_20 : fnd 84 20 = some (20, .iload_n 1, 1, 0, 0, 0, 0) := ceB_eq (by decide +kernel)
theorem f_84_21 : fnd 84 21 = some (21, .ireturn, 1, 0, 0, 0, 0) := ceB_eq (by decide +kernel)
theorem f_84_22 : fnd 84 22 = some (22, .iinc 1 1, 3, 0, 0, 0, 0) := ceB_eq (by decide +kernel)
theorem f_84_25 : fnd 84 25 = some (25, .goto (-23), 3, 0, 0, 0, 0) := ceB_eq (by decide +kernel)
theorem f_84_28 : fnd 84 28 = some (28, .iconst (-1), 1, 0, 0, 0, 0) := ceB_eq (by decide +kernel)
theorem f_84_29 : fnd 84 29 = some (29, .ireturn, 1, 0, 0, 0, 0) := ceB_eq (by decide +kernel)
theorem rk_84 : rkm 84 = 0 := by decide +kernel
theorem ml_84 : (mth 84).2.1 = 2 := by decide +kernel
set_option maxRecDepth 100000 in
theorem T_World_lowestEmptyPlace (k0 i0 : Int) (σ : ST) (Q : Option AV → ST → Prop) (h :
  wp m_World_lowestEmptyPlace (2, [some (.inr (.inr (12, k0, i0))), some (.inl 0)], [], σ) Q) :
  wpM m_World_lowestEmptyPlace [.inr (.inr (12, k0, i0))] σ Q :=
 wpM_of ml_84 (L := [some (.inr (.inr (12, k0, i0))), none]) rfl
 (w_iconst (p' := 1) f_84_0 rfl
 (w_istore_n (p' := 2) f_84_1 (L' := [some (.inr (.inr (12, k0, i0))), some (.inl 0)]) rfl rfl
 (h)))
set_option maxRecDepth 100000 in
theorem T_World_lowestEmptyPlace_2 (k0 i0 x1 : Int) (σ : ST) (Q : Option AV → ST → Prop) (h :
  (((12 ≤ x1 : Prop) →
    Q (some (.inl (-1))) σ) ∧
  (¬ (12 ≤ x1) →
    ((0 : Int) ≤ x1 ∧ (x1 : Int) < 12) ∧
    ((((bz (σ 25 k0 x1 0)) ≠ 0 : Prop) →
      wp m_World_lowestEmptyPlace (2, [some (.inr (.inr (12, k0, i0))), some (.inl (wr (x1 + 1)))], [], σ) Q) ∧
    (¬ ((bz (σ 25 k0 x1 0)) ≠ 0) →
      Q (some (.inl x1)) σ))))) :
  wp m_World_lowestEmptyPlace (2, [some (.inr (.inr (12, k0, i0))), some (.inl x1)], [], σ) Q :=
 w_iload_n (p' := 3) f_84_2 rfl rfl
 (w_bipush (p' := 5) f_84_3 rfl
 (w_icmp (p' := 28) (q' := 8) f_84_5 rfl rfl
 (fun c102 => w_iconst (p' := 29) f_84_28 rfl
 (w_iret f_84_29 rk_84 (h.1 c102)))
 (fun c102 => w_aload_n (p' := 9) f_84_8 rfl rfl
 (w_getfield (p' := 12) f_84_9 rfl (x := .inr (.inr (24, k0, 0))) rfl rfl
 (w_iload_n (p' := 13) f_84_12 rfl rfl
 (w_aaload (p' := 14) f_84_13 rfl (n := 12) rfl (x := (25, k0, x1)) rfl (h.2 c102).1 rfl
 (w_getfield (p' := 17) f_84_14 rfl (x := .inl (bz (σ 25 k0 x1 0))) rfl rfl
 (w_if (p' := 22) (q' := 20) f_84_17 rfl rfl
 (fun c101 => w_iinc (p' := 25) f_84_22 rfl (L' := [some (.inr (.inr (12, k0, i0))), some (.inl (wr (x1 + 1)))]) rfl rfl
 (w_goto (p' := 2) f_84_25 rfl
 (((h.2 c102).2.1 c101))))
 (fun c101 => w_iload_n (p' := 21) f_84_20 rfl rfl
 (w_iret f_84_21 rk_84 ((h.2 c102).2.2 c101)))))))))))
/-! ClosedRooms$Copy.keep(LClosedRooms$Page;II)V -/
theorem f_85_0 : fnd 85 0 = some (0, .aload_n 0, 1, 0, 0, 0, 0) := ceB_eq (by decide +kernel)
theorem f_85_1 : fnd 85 1 = some (1, .iconst 1, 1, 0, 0, 0, 0) := ceB_eq (by decide +kernel)
theorem f_85_2 : fnd 85 2 = some (2, .putfield 9, 3, 9, 0, 0, 0) := ceB_eq (by decide +kernel)
theorem f_85_5 : fnd 85 5 = some (5, .aload_n 0, 1, 0, 0, 0, 0) := ceB_eq (by decide +kernel)
theorem f_85_6 : fnd 85 6 = some (6, .iload_n 2, 1, 0, 0, 0, 0) := ceB_eq (by decide +kernel)
theorem f_85_7 : fnd 85 7 = some (7, .putfield 15, 3, 9, 1, 1, 0) := ceB_eq (by decide +kernel)
theorem f_85_10 : fnd 85 10 = some (10, .aload_n 0, 1, 0, 0, 0, 0) := ceB_eq (by decide +kernel)
theorem f_85_11 : fnd 85 11 = some (11, .aload_n 1, 1, 0, 0, 0, 0) := ceB_eq (by decide +kernel)
theorem f_85_12 : fnd 85 12 = some (12, .getfield 40, 3, 6, 2, 2, 0) := ceB_eq (by decide +kernel)
theorem f_85_15 : fnd 85 15 = some (15, .putfield 19, 3, 9, 2, 2, 0) := ceB_eq (by decide +kernel)
theorem f_85_18 : fnd 85 18 = some (18, .aload_n 0, 1, 0, 0, 0, 0) := ceB_eq (by decide +kernel)
theorem f_85_19 : fnd 85 19 = some (19, .aload_n 1, 1, 0, 0, 0, 0) := ceB_eq (by decide +kernel)
theorem f_85_20 : fnd 85 20 = some (20, .getfield 43, 3, 6, 0, 0, 0) := ceB_eq (by decide +kernel)
theorem f_85_23 : fnd 85 23 = some (23, .putfield 22, 3, 9, 3, 3, 0) := ceB_eq (by decide +kernel)
theorem f_85_26 : fnd 85 26 = some (26, .aload_n 0, 1, 0, 0, 0, 0) := ceB_eq (by decide +kernel)
theorem f_85_27 : fnd 85 27 = some (27, .aload_n 1, 1, 0, 0, 0, 0) := ceB_eq (by decide +kernel)
theorem f_85_28 : fnd 85 28 = some (28, .getfield 44, 3, 6, 3, 3, 0) := ceB_eq (by decide +kernel)
theorem f_85_31 : fnd 85 31 = some (31, .putfield 25, 3, 9, 4, 4, 0) := ceB_eq (by decide +kernel)
theorem f_85_34 : fnd 85 34 = some (34, .aload_n 0, 1, 0, 0, 0, 0) := ceB_eq (by decide +kernel)
theorem f_85_35 : fnd 85 35 = some (35, .aload_n 1, 1, 0, 0, 0, 0) := ceB_eq (by decide +kernel)
theorem f_85_36 : fnd 85 36 = some (36, .getfield 45, 3, 6, 4, 4, 0) := ceB_eq (by decide +kernel)
theorem f_85_39 : fnd 85 39 = some (39, .putfield 28, 3, 9, 5, 5, 0) := ceB_eq (by decide +kernel)
theorem f_85_42 : fnd 85 42 = some (42, .aload_n 0, 1, 0, 0, 0, 0) := ceB_eq (by decide +kernel)
theorem f_85_43 : fnd 85 43 = some (43, .aload_n 1, 1, 0, 0, 0, 0) := ceB_eq (by decide +kernel)
theorem f_85_44 : fnd 85 44 = some (44, .getfield 46, 3, 6, 7, 7, 0) := ceB_eq (by decide +kernel)
theorem f_85_47 : fnd 85 47 = some (47, .iconst 2, 1, 0, 0, 0, 0) := ceB_eq (by decide +kernel)
theorem f_85_48 : fnd 85 48 = some (48, .if_icmp .ne 7, 3, 0, 0, 0, 0) := ceB_eq (by decide +kernel)
theorem f_85_51 : fnd 85 51 = some (51, .iconst 1, 1, 0, 0, 0, 0) := ceB_eq (by decide +kernel)
theorem f_85_52 : fnd 85 52 = some (52, .goto 4, 3, 0, 0, 0, 0) := ceB_eq (by decide +kernel)
theorem f_85_55 : fnd 85 55 = some (55, .iconst 0, 1, 0, 0, 0, 0) := ceB_eq (by decide +kernel)
theorem f_85_56 : fnd 85 56 = some (56, .putfield 31, 3, 9, 6, 6, 0) := ceB_eq (by decide +kernel)
theorem f_85_59 : fnd 85 59 = some (59, .aload_n 0, 1, 0, 0, 0, 0) := ceB_eq (by decide +kernel)
theorem f_85_60 : fnd 85 60 = some (60, .iload_n 3, 1, 0, 0, 0, 0) := ceB_eq (by decide +kernel)
theorem f_85_61 : fnd 85 61 = some (61, .putfield 34, 3, 9, 7, 7, 0) := ceB_eq (by decide +kernel)
theorem f_85_64 : fnd 85 64 = some (64, .aload_n 0, 1, 0, 0, 0, 0) := ceB_eq (by decide +kernel)
theorem f_85_65 : fnd 85 65 = some (65, .iconst 0, 1, 0, 0, 0, 0) := ceB_eq (by decide +kernel)
theorem f_85_66 : fnd 85 66 = some (66, .putfield 37, 3, 9, 8, 8, 0) := ceB_eq (by decide +kernel)
theorem f_85_69 : fnd 85 69 = some (69, .return_, 1, 0, 0, 0, 0) := ceB_eq (by decide +kernel)
theorem rk_85 : rkm 85 = 4 := by decide +kernel
theorem ml_85 : (mth 85).2.1 = 4 := by decide +kernel
set_option maxRecDepth 100000 in
theorem T_Copy_keep (k0 i0 k1 i1 x2 x3 : Int) (σ : ST) (Q : Option AV → ST → Prop) (h :
  ((1 : Int) = 0 ∨ (1 : Int) = 1) ∧
  (((((up (up (up (up (up (up σ 25 k0 i0 0 1) 25 k0 i0 1 x2) 25 k0 i0 2 ((up (up σ 25 k0 i0 0 1) 25 k0 i0 1 x2) 14 k1 i1 2)) 25 k0 i0 3 ((up (up (up σ 25 k0 i0 0 1) 25 k0 i0 1 x2) 25 k0 i0 2 ((up (up σ 25 k0 i0 0 1) 25 k0 i0 1 x2) 14 k1 i1 2)) 14 k1 i1 0)) 25 k0 i0 4 ((up (up (up (up σ 25 k0 i0 0 1) 25 k0 i0 1 x2) 25 k0 i0 2 ((up (up σ 25 k0 i0 0 1) 25 k0 i0 1 x2) 14 k1 i1 2)) 25 k0 i0 3 ((up (up (up σ 25 k0 i0 0 1) 25 k0 i0 1 x2) 25 k0 i0 2 ((up (up σ 25 k0 i0 0 1) 25 k0 i0 1 x2) 14 k1 i1 2)) 14 k1 i1 0)) 14 k1 i1 3)) 25 k0 i0 5 ((up (up (up (up (up σ 25 k0 i0 0 1) 25 k0 i0 1 x2) 25 k0 i0 2 ((up (up σ 25 k0 i0 0 1) 25 k0 i0 1 x2) 14 k1 i1 2)) 25 k0 i0 3 ((up (up (up σ 25 k0 i0 0 1) 25 k0 i0 1 x2) 25 k0 i0 2 ((up (up σ 25 k0 i0 0 1) 25 k0 i0 1 x2) 14 k1 i1 2)) 14 k1 i1 0)) 25 k0 i0 4 ((up (up (up (up σ 25 k0 i0 0 1) 25 k0 i0 1 x2) 25 k0 i0 2 ((up (up σ 25 k0 i0 0 1) 25 k0 i0 1 x2) 14 k1 i1 2)) 25 k0 i0 3 ((up (up (up σ 25 k0 i0 0 1) 25 k0 i0 1 x2) 25 k0 i0 2 ((up (up σ 25 k0 i0 0 1) 25 k0 i0 1 x2) 14 k1 i1 2)) 14 k1 i1 0)) 14 k1 i1 3)) 14 k1 i1 4)) 14 k1 i1 7) ≠ 2 : Prop) →
    wp m_Copy_keep (56, [some (.inr (.inr (25, k0, i0))), some (.inr (.inr (14, k1, i1))), some (.inl x2), some (.inl x3)], [.inl 0, .inr (.inr (25, k0, i0))], (up (up (up (up (up (up σ 25 k0 i0 0 1) 25 k0 i0 1 x2) 25 k0 i0 2 ((up (up σ 25 k0 i0 0 1) 25 k0 i0 1 x2) 14 k1 i1 2)) 25 k0 i0 3 ((up (up (up σ 25 k0 i0 0 1) 25 k0 i0 1 x2) 25 k0 i0 2 ((up (up σ 25 k0 i0 0 1) 25 k0 i0 1 x2) 14 k1 i1 2)) 14 k1 i1 0)) 25 k0 i0 4 ((up (up (up (up σ 25 k0 i0 0 1) 25 k0 i0 1 x2) 25 k0 i0 2 ((up (up σ 25 k0 i0 0 1) 25 k0 i0 1 x2) 14 k1 i1 2)) 25 k0 i0 3 ((up (up (up σ 25 k0 i0 0 1) 25 k0 i0 1 x2) 25 k0 i0 2 ((up (up σ 25 k0 i0 0 1) 25 k0 i0 1 x2) 14 k1 i1 2)) 14 k1 i1 0)) 14 k1 i1 3)) 25 k0 i0 5 ((up (up (up (up (up σ 25 k0 i0 0 1) 25 k0 i0 1 x2) 25 k0 i0 2 ((up (up σ 25 k0 i0 0 1) 25 k0 i0 1 x2) 14 k1 i1 2)) 25 k0 i0 3 ((up (up (up σ 25 k0 i0 0 1) 25 k0 i0 1 x2) 25 k0 i0 2 ((up (up σ 25 k0 i0 0 1) 25 k0 i0 1 x2) 14 k1 i1 2)) 14 k1 i1 0)) 25 k0 i0 4 ((up (up (up (up σ 25 k0 i0 0 1) 25 k0 i0 1 x2) 25 k0 i0 2 ((up (up σ 25 k0 i0 0 1) 25 k0 i0 1 x2) 14 k1 i1 2)) 25 k0 i0 3 ((up (up (up σ 25 k0 i0 0 1) 25 k0 i0 1 x2) 25 k0 i0 2 ((up (up σ 25 k0 i0 0 1) 25 k0 i0 1 x2) 14 k1 i1 2)) 14 k1 i1 0)) 14 k1 i1 3)) 14 k1 i1 4))) Q) ∧
  (¬ (((up (up (up (up (up (up σ 25 k0 i0 0 1) 25 k0 i0 1 x2) 25 k0 i0 2 ((up (up σ 25 k0 i0 0 1) 25 k0 i0 1 x2) 14 k1 i1 2)) 25 k0 i0 3 ((up (up (up σ 25 k0 i0 0 1) 25 k0 i0 1 x2) 25 k0 i0 2 ((up (up σ 25 k0 i0 0 1) 25 k0 i0 1 x2) 14 k1 i1 2)) 14 k1 i1 0)) 25 k0 i0 4 ((up (up (up (up σ 25 k0 i0 0 1) 25 k0 i0 1 x2) 25 k0 i0 2 ((up (up σ 25 k0 i0 0 1) 25 k0 i0 1 x2) 14 k1 i1 2)) 25 k0 i0 3 ((up (up (up σ 25 k0 i0 0 1) 25 k0 i0 1 x2) 25 k0 i0 2 ((up (up σ 25 k0 i0 0 1) 25 k0 i0 1 x2) 14 k1 i1 2)) 14 k1 i1 0)) 14 k1 i1 3)) 25 k0 i0 5 ((up (up (up (up (up σ 25 k0 i0 0 1) 25 k0 i0 1 x2) 25 k0 i0 2 ((up (up σ 25 k0 i0 0 1) 25 k0 i0 1 x2) 14 k1 i1 2)) 25 k0 i0 3 ((up (up (up σ 25 k0 i0 0 1) 25 k0 i0 1 x2) 25 k0 i0 2 ((up (up σ 25 k0 i0 0 1) 25 k0 i0 1 x2) 14 k1 i1 2)) 14 k1 i1 0)) 25 k0 i0 4 ((up (up (up (up σ 25 k0 i0 0 1) 25 k0 i0 1 x2) 25 k0 i0 2 ((up (up σ 25 k0 i0 0 1) 25 k0 i0 1 x2) 14 k1 i1 2)) 25 k0 i0 3 ((up (up (up σ 25 k0 i0 0 1) 25 k0 i0 1 x2) 25 k0 i0 2 ((up (up σ 25 k0 i0 0 1) 25 k0 i0 1 x2) 14 k1 i1 2)) 14 k1 i1 0)) 14 k1 i1 3)) 14 k1 i1 4)) 14 k1 i1 7) ≠ 2) →
    wp m_Copy_keep (56, [some (.inr (.inr (25, k0, i0))), some (.inr (.inr (14, k1, i1))), some (.inl x2), some (.inl x3)], [.inl 1, .inr (.inr (25, k0, i0))], (up (up (up (up (up (up σ 25 k0 i0 0 1) 25 k0 i0 1 x2) 25 k0 i0 2 ((up (up σ 25 k0 i0 0 1) 25 k0 i0 1 x2) 14 k1 i1 2)) 25 k0 i0 3 ((up (up (up σ 25 k0 i0 0 1) 25 k0 i0 1 x2) 25 k0 i0 2 ((up (up σ 25 k0 i0 0 1) 25 k0 i0 1 x2) 14 k1 i1 2)) 14 k1 i1 0)) 25 k0 i0 4 ((up (up (up (up σ 25 k0 i0 0 1) 25 k0 i0 1 x2) 25 k0 i0 2 ((up (up σ 25 k0 i0 0 1) 25 k0 i0 1 x2) 14 k1 i1 2)) 25 k0 i0 3 ((up (up (up σ 25 k0 i0 0 1) 25 k0 i0 1 x2) 25 k0 i0 2 ((up (up σ 25 k0 i0 0 1) 25 k0 i0 1 x2) 14 k1 i1 2)) 14 k1 i1 0)) 14 k1 i1 3)) 25 k0 i0 5 ((up (up (up (up (up σ 25 k0 i0 0 1) 25 k0 i0 1 x2) 25 k0 i0 2 ((up (up σ 25 k0 i0 0 1) 25 k0 i0 1 x2) 14 k1 i1 2)) 25 k0 i0 3 ((up (up (up σ 25 k0 i0 0 1) 25 k0 i0 1 x2) 25 k0 i0 2 ((up (up σ 25 k0 i0 0 1) 25 k0 i0 1 x2) 14 k1 i1 2)) 14 k1 i1 0)) 25 k0 i0 4 ((up (up (up (up σ 25 k0 i0 0 1) 25 k0 i0 1 x2) 25 k0 i0 2 ((up (up σ 25 k0 i0 0 1) 25 k0 i0 1 x2) 14 k1 i1 2)) 25 k0 i0 3 ((up (up (up σ 25 k0 i0 0 1) 25 k0 i0 1 x2) 25 k0 i0 2 ((up (up σ 25 k0 i0 0 1) 25 k0 i0 1 x2) 14 k1 i1 2)) 14 k1 i1 0)) 14 k1 i1 3)) 14 k1 i1 4))) Q))) :
  wpM m_Copy_keep [.inr (.inr (25, k0, i0)), .inr (.inr (14, k1, i1)), .inl x2, .inl x3] σ Q :=
 wpM_of ml_85 (L := [some (.inr (.inr (25, k0, i0))), some (.inr (.inr (14, k1, i1))), some (.inl x2), some (.inl x3)]) rfl
 (w_aload_n (p' := 1) f_85_0 rfl rfl
 (w_iconst (p' := 2) f_85_1 rfl
 (w_putZ (p' := 5) f_85_2 rfl rfl (c' := 0) rfl h.1 rfl
 (w_aload_n (p' := 6) f_85_5 rfl rfl
 (w_iload_n (p' := 7) f_85_6 rfl rfl
 (w_putI (p' := 10) f_85_7 rfl rfl (c' := 1) rfl rfl
 (w_aload_n (p' := 11) f_85_10 rfl rfl
 (w_aload_n (p' := 12) f_85_11 rfl rfl
 (w_getfield (p' := 15) f_85_12 rfl (x := .inl ((up (up σ 25 k0 i0 0 1) 25 k0 i0 1 x2) 14 k1 i1 2)) rfl rfl
 (w_putI (p' := 18) f_85_15 rfl rfl (c' := 2) rfl rfl
 (w_aload_n (p' := 19) f_85_18 rfl rfl
 (w_aload_n (p' := 20) f_85_19 rfl rfl
 (w_getfield (p' := 23) f_85_20 rfl (x := .inl ((up (up (up σ 25 k0 i0 0 1) 25 k0 i0 1 x2) 25 k0 i0 2 ((up (up σ 25 k0 i0 0 1) 25 k0 i0 1 x2) 14 k1 i1 2)) 14 k1 i1 0)) rfl rfl
 (w_putI (p' := 26) f_85_23 rfl rfl (c' := 3) rfl rfl
 (w_aload_n (p' := 27) f_85_26 rfl rfl
 (w_aload_n (p' := 28) f_85_27 rfl rfl
 (w_getfield (p' := 31) f_85_28 rfl (x := .inl ((up (up (up (up σ 25 k0 i0 0 1) 25 k0 i0 1 x2) 25 k0 i0 2 ((up (up σ 25 k0 i0 0 1) 25 k0 i0 1 x2) 14 k1 i1 2)) 25 k0 i0 3 ((up (up (up σ 25 k0 i0 0 1) 25 k0 i0 1 x2) 25 k0 i0 2 ((up (up σ 25 k0 i0 0 1) 25 k0 i0 1 x2) 14 k1 i1 2)) 14 k1 i1 0)) 14 k1 i1 3)) rfl rfl
 (w_putI (p' := 34) f_85_31 rfl rfl (c' := 4) rfl rfl
 (w_aload_n (p' := 35) f_85_34 rfl rfl
 (w_aload_n (p' := 36) f_85_35 rfl rfl
 (w_getfield (p' := 39) f_85_36 rfl (x := .inl ((up (up (up (up (up σ 25 k0 i0 0 1) 25 k0 i0 1 x2) 25 k0 i0 2 ((up (up σ 25 k0 i0 0 1) 25 k0 i0 1 x2) 14 k1 i1 2)) 25 k0 i0 3 ((up (up (up σ 25 k0 i0 0 1) 25 k0 i0 1 x2) 25 k0 i0 2 ((up (up σ 25 k0 i0 0 1) 25 k0 i0 1 x2) 14 k1 i1 2)) 14 k1 i1 0)) 25 k0 i0 4 ((up (up (up (up σ 25 k0 i0 0 1) 25 k0 i0 1 x2) 25 k0 i0 2 ((up (up σ 25 k0 i0 0 1) 25 k0 i0 1 x2) 14 k1 i1 2)) 25 k0 i0 3 ((up (up (up σ 25 k0 i0 0 1) 25 k0 i0 1 x2) 25 k0 i0 2 ((up (up σ 25 k0 i0 0 1) 25 k0 i0 1 x2) 14 k1 i1 2)) 14 k1 i1 0)) 14 k1 i1 3)) 14 k1 i1 4)) rfl rfl
 (w_putI (p' := 42) f_85_39 rfl rfl (c' := 5) rfl rfl
 (w_aload_n (p' := 43) f_85_42 rfl rfl
 (w_aload_n (p' := 44) f_85_43 rfl rfl
 (w_getfield (p' := 47) f_85_44 rfl (x := .inl ((up (up (up (up (up (up σ 25 k0 i0 0 1) 25 k0 i0 1 x2) 25 k0 i0 2 ((up (up σ 25 k0 i0 0 1) 25 k0 i0 1 x2) 14 k1 i1 2)) 25 k0 i0 3 ((up (up (up σ 25 k0 i0 0 1) 25 k0 i0 1 x2) 25 k0 i0 2 ((up (up σ 25 k0 i0 0 1) 25 k0 i0 1 x2) 14 k1 i1 2)) 14 k1 i1 0)) 25 k0 i0 4 ((up (up (up (up σ 25 k0 i0 0 1) 25 k0 i0 1 x2) 25 k0 i0 2 ((up (up σ 25 k0 i0 0 1) 25 k0 i0 1 x2) 14 k1 i1 2)) 25 k0 i0 3 ((up (up (up σ 25 k0 i0 0 1) 25 k0 i0 1 x2) 25 k0 i0 2 ((up (up σ 25 k0 i0 0 1) 25 k0 i0 1 x2) 14 k1 i1 2)) 14 k1 i1 0)) 14 k1 i1 3)) 25 k0 i0 5 ((up (up (up (up (up σ 25 k0 i0 0 1) 25 k0 i0 1 x2) 25 k0 i0 2 ((up (up σ 25 k0 i0 0 1) 25 k0 i0 1 x2) 14 k1 i1 2)) 25 k0 i0 3 ((up (up (up σ 25 k0 i0 0 1) 25 k0 i0 1 x2) 25 k0 i0 2 ((up (up σ 25 k0 i0 0 1) 25 k0 i0 1 x2) 14 k1 i1 2)) 14 k1 i1 0)) 25 k0 i0 4 ((up (up (up (up σ 25 k0 i0 0 1) 25 k0 i0 1 x2) 25 k0 i0 2 ((up (up σ 25 k0 i0 0 1) 25 k0 i0 1 x2) 14 k1 i1 2)) 25 k0 i0 3 ((up (up (up σ 25 k0 i0 0 1) 25 k0 i0 1 x2) 25 k0 i0 2 ((up (up σ 25 k0 i0 0 1) 25 k0 i0 1 x2) 14 k1 i1 2)) 14 k1 i1 0)) 14 k1 i1 3)) 14 k1 i1 4)) 14 k1 i1 7)) rfl rfl
 (w_iconst (p' := 48) f_85_47 rfl
 (w_icmp (p' := 55) (q' := 51) f_85_48 rfl rfl
 (fun c101 => w_iconst (p' := 56) f_85_55 rfl
 ((h.2.1 c101)))
 (fun c101 => w_iconst (p' := 52) f_85_51 rfl
 (w_goto (p' := 56) f_85_52 rfl
 ((h.2.2 c101)))))))))))))))))))))))))))))))
set_option maxRecDepth 100000 in
theorem T_Copy_keep_56 (k0 i0 x3 t0 kt1 it1 : Int) (o1 o2 : Option AV) (σ : ST) (Q : Option AV → ST → Prop) (h :
  ((t0 : Int) = 0 ∨ (t0 : Int) = 1) ∧
  ((0 : Int) = 0 ∨ (0 : Int) = 1) ∧
  Q none (up (up (up σ 25 kt1 it1 6 t0) 25 k0 i0 7 x3) 25 k0 i0 8 0)) :
  wp m_Copy_keep (56, [some (.inr (.inr (25, k0, i0))), o1, o2, some (.inl x3)], [.inl t0, .inr (.inr (25, kt1, it1))], σ) Q :=
 w_putZ (p' := 59) f_85_56 rfl rfl (c' := 6) rfl h.1 rfl
 (w_aload_n (p' := 60) f_85_59 rfl rfl
 (w_iload_n (p' := 61) f_85_60 rfl rfl
 (w_putI (p' := 64) f_85_61 rfl rfl (c' := 7) rfl rfl
 (w_aload_n (p' := 65) f_85_64 rfl rfl
 (w_iconst (p' := 66) f_85_65 rfl
 (w_putZ (p' := 69) f_85_66 rfl rfl (c' := 8) rfl h.2.1 rfl
 (w_vret f_85_69 rk_85 h.2.2)))))))
/-! ClosedRooms$Room.place(II)V -/
theorem f_86_0 : fnd 86 0 = some (0, .aload_n 0, 1, 0, 0, 0, 0) := ceB_eq (by decide +kernel)
theorem f_86_1 : fnd 86 1 = some (1, .iload_n 1, 1, 0, 0, 0, 0) := ceB_eq (by decide +kernel)
theorem f_86_2 : fnd 86 2 = some (2, .invokevirtual 47, 3, 38, 2, 7, 0) := ceB_eq (by decide +kernel)
theorem f_86_5 : fnd 86 5 = some (5, .ifCond .eq 10, 3, 0, 0, 0, 0) := ceB_eq (by decide +kernel)
theorem f_86_8 : fnd 86 8 = some (8, .aload_n 0, 1, 0, 0, 0, 0) := ceB_eq (by decide +kernel)
theorem f_86_9 : fnd 86 9 = some (9, .getfield 34, 3, 7, 7, 7, 0) := ceB_eq (by decide +kernel)
theorem f_86_12 : fnd 86 12 = some (12, .iload_n 1, 1, 0, 0, 0, 0) := ceB_eq (by decide +kernel)
theorem f_86_13 : fnd 86 13 = some (13, .iload_n 2, 1, 0, 0, 0, 0) := ceB_eq (by decide +kernel)
theorem f_86_14 : fnd 86 14 = some (14, .iastore, 1, 0, 0, 0, 0) := ceB_eq (by decide +kernel)
theorem f_86_15 : fnd 86 15 = some (15, .return_, 1, 0, 0, 0, 0) := ceB_eq (by decide +kernel)
theorem rk_86 : rkm 86 = 4 := by decide +kernel
theorem ml_86 : (mth 86).2.1 = 3 := by decide +kernel
set_option maxRecDepth 100000 in
theorem T_Room_place (k0 i0 x1 x2 : Int) (σ : ST) (Q : Option AV → ST → Prop) (h :
  wpM m_Room_hasAddress [.inr (.inr (17, k0, i0)), .inl x1] σ (asI fun r101 s101 =>
  (((r101 = 0 : Prop) →
    Q none s101) ∧
  (¬ (r101 = 0) →
    ((0 : Int) ≤ x1 ∧ (x1 : Int) < 8) ∧
    Q none (up s101 18 k0 i0 x1 x2))))) :
  wpM m_Room_place [.inr (.inr (17, k0, i0)), .inl x1, .inl x2] σ Q :=
 wpM_of ml_86 (L := [some (.inr (.inr (17, k0, i0))), some (.inl x1), some (.inl x2)]) rfl
 (w_aload_n (p' := 1) f_86_0 rfl rfl
 (w_iload_n (p' := 2) f_86_1 rfl rfl
 (w_callV (p' := 5) f_86_2 rfl rfl rfl rfl rfl (r := []) rfl rfl (kI (.inr rk_38) fun r101 s101 h101 =>
 w_if (p' := 15) (q' := 8) f_86_5 rfl rfl
 (fun c102 => w_vret f_86_15 rk_86 (h101.1 c102))
 (fun c102 => w_aload_n (p' := 9) f_86_8 rfl rfl
 (w_getfield (p' := 12) f_86_9 rfl (x := .inr (.inr (18, k0, i0))) rfl rfl
 (w_iload_n (p' := 13) f_86_12 rfl rfl
 (w_iload_n (p' := 14) f_86_13 rfl rfl
 (w_iastore (p' := 15) f_86_14 rfl (n := 8) rfl (h101.2 c102).1 rfl
 (w_vret f_86_15 rk_86 (h101.2 c102).2))))))) h)))
/-! ClosedRooms$Acts.evictPage(III)I -/
theorem f_87_0 : fnd 87 0 = some (0, .aload_n 0, 1, 0, 0, 0, 0) := ceB_eq (by decide +kernel)
theorem f_87_1 : fnd 87 1 = some (1, .getfield 12, 3, 3, 0, 0, 0) := ceB_eq (by decide +kernel)
theorem f_87_4 : fnd 87 4 = some (4, .iload_n 1, 1, 0, 0, 0, 0) := ceB_eq (by decide +kernel)
theorem f_87_5 : fnd 87 5 = some (5, .invokevirtual 240, 3, 77, 2, 4, 0) := ceB_eq (by decide +kernel)
theorem f_87_8 : fnd 87 8 = some (8, .ifCond .eq 14, 3, 0, 0, 0, 0) := ceB_eq (by decide +kernel)
theorem f_87_11 : fnd 87 11 = some (11, .aload_n 0, 1, 0, 0, 0, 0) := ceB_eq (by decide +kernel)
theorem f_87_12 : fnd 87 12 = some (12, .getfield 12, 3, 3, 0, 0, 0) := ceB_eq (by decide +kernel)
theorem f_87_15 : fnd 87 15 = some (15, .iload_n 2, 1, 0, 0, 0, 0) := ceB_eq (by decide +kernel)
theorem f_87_16 : fnd 87 16 = some (16, .invokevirtual 252, 3, 35, 2, 4, 0) := ceB_eq (by decide +kernel)
theorem f_87_19 : fnd 87 19 = some (19, .ifCond .ne 9, 3, 0, 0, 0, 0) := ceB_eq (by decide +kernel)
theorem f_87_22 : fnd 87 22 = some (22, .aload_n 0, 1, 0, 0, 0, 0) := ceB_eq (by decide +kernel)
theorem f_87_23 : fnd 87 23 = some (23, .iconst 0, 1, 0, 0, 0, 0) := ceB_eq (by decide +kernel)
theorem f_87_24 : fnd 87 24 = some (24, .invokevirtual 85, 3, 53, 2, 3, 0) := ceB_eq (by decide +kernel)
theorem f_87_27 : fnd 87 27 = some (27, .ireturn, 1, 0, 0, 0, 0) := ceB_eq (by decide +kernel)
theorem f_87_28 : fnd 87 28 = some (28, .iload_n 3, 1, 0, 0, 0, 0) := ceB_eq (by decide +kernel)
theorem f_87_29 : fnd 87 29 = some (29, .ifCond .lt 8, 3, 0, 0, 0, 0) := ceB_eq (by decide +kernel)
theorem f_87_32 : fnd 87 32 = some (32, .iload_n 3, 1, 0, 0, 0, 0) := ceB_eq (by decide +kernel)
theorem f_87_33 : fnd 87 33 = some (33, .iconst 4, 1, 0, 0, 0, 0) := ceB_eq (by decide +kernel)
theorem f_87_34 : fnd 87 34 = some (34, .if_icmp .lt 9, 3, 0, 0, 0, 0) := ceB_eq (by decide +kernel)
theorem f_87_37 : fnd 87 37 = some (37, .aload_n 0, 1, 0, 0, 0, 0) := ceB_eq (by decide +kernel)
theorem f_87_38 : fnd 87 38 = some (38, .iconst 1, 1, 0, 0, 0, 0) := ceB_eq (by decide +kernel)
theorem f_87_39 : fnd 87 39 = some (39, .invokevirtual 85, 3, 53, 2, 3, 0) := ceB_eq (by decide +kernel)
theorem f_87_42 : fnd 87 42 = some (42, .ireturn, 1, 0, 0, 0, 0) := ceB_eq (by decide +kernel)
theorem f_87_43 : fnd 87 43 = some (43, .aload_n 0, 1, 0, 0, 0, 0) := ceB_eq (by decide +kernel)
theorem f_87_44 : fnd 87 44 = some (44, .getfield 12, 3, 3, 0, 0, 0) := ceB_eq (by decide +kernel)
theorem f_87_47 : fnd 87 47 = some (47, .iload_n 1, 1, 0, 0, 0, 0) := ceB_eq (by decide +kernel)
theorem f_87_48 : fnd 87 48 = some (48, .invokevirtual 255, 3, 83, 2, 4, 0) := ceB_eq (by decide +kernel)
theorem f_87_51 : fnd 87 51 = some (51, .ifCond .eq 20, 3, 0, 0, 0, 0) := ceB_eq (by decide +kernel)
theorem f_87_54 : fnd 87 54 = some (54, .aload_n 0, 1, 0, 0, 0, 0) := ceB_eq (by decide +kernel)
theorem f_87_55 : fnd 87 55 = some (55, .getfield 12, 3, 3, 0, 0, 0) := ceB_eq (by decide +kernel)
theorem f_87_58 : fnd 87 58 = some (58, .getfield 122, 3, 4, 5, 5, 0) := ceB_eq (by decide +kernel)
theorem f_87_61 : fnd 87 61 = some (61, .iload_n 2, 1, 0, 0, 0, 0) := ceB_eq (by decide +kernel)
theorem f_87_62 : fnd 87 62 = some (62, .aaload, 1, 0, 0, 0, 0) := ceB_eq (by decide +kernel)
theorem f_87_63 : fnd 87 63 = some (63, .getfield 258, 3, 6, 8, 8, 0) := ceB_eq (by decide +kernel)
theorem f_87_66 : fnd 87 66 = some (66, .iload_n 3, 1, 0, 0, 0, 0) := ceB_eq (by decide +kernel)
theorem f_87_67 : fnd 87 67 = some (67, .iaload, 1, 0, 0, 0, 0) := ceB_eq (by decide +kernel)
theorem f_87_68 : fnd 87 68 = some (68, .ifCond .eq 9, 3, 0, 0, 0, 0) := ceB_eq (by decide +kernel)
theorem f_87_71 : fnd 87 71 = some (71, .aload_n 0, 1, 0, 0, 0, 0) := ceB_eq (by decide +kernel)
theorem f_87_72 : fnd 87 72 = some (72, .iconst 2, 1, 0, 0, 0, 0) := ceB_eq (by decide +kernel)
theorem f_87_73 : fnd 87 73 = some (73, .invokevirtual 85, 3, 53, 2, 3, 0) := ceB_eq (by decide +kernel)
theorem f_87_76 : fnd 87 76 = some (76, .ireturn, 1, 0, 0, 0, 0) := ceB_eq (by decide +kernel)
theorem f_87_77 : fnd 87 77 = some (77, .aload_n 0, 1, 0, 0, 0, 0) := ceB_eq (by decide +kernel)
theorem f_87_78 : fnd 87 78 = some (78, .getfield 12, 3, 3, 0, 0, 0) := ceB_eq (by decide +kernel)
theorem f_87_81 : fnd 87 81 = some (81, .invokevirtual 261, 3, 84, 1, 4, 0) := ceB_eq (by decide +kernel)
theorem f_87_84 : fnd 87 84 = some (84, .istore 4, 2, 0, 0, 0, 0) := ceB_eq (by decide +kernel)
theorem f_87_86 : fnd 87 86 = some (86, .iload 4, 2, 0, 0, 0, 0) := ceB_eq (by decide +kernel)
theorem f_87_88 : fnd 87 88 = some (88, .iconst (-1), 1, 0, 0, 0, 0) := ceB_eq (by decide +kernel)
theorem f_87_89 : fnd 87 89 = some (89, .if_icmp .ne 9, 3, 0, 0, 0, 0) := ceB_eq (by decide +kernel)
theorem f_87_92 : fnd 87 92 = some (92, .aload_n 0, 1, 0, 0, 0, 0) := ceB_eq (by decide +kernel)
theorem f_87_93 : fnd 87 93 = some (93, .iconst 3, 1, 0, 0, 0, 0) := ceB_eq (by decide +kernel)
theorem f_87_94 : fnd 87 94 = some (94, .invokevirtual 85, 3, 53, 2, 3, 0) := ceB_eq (by decide +kernel)
theorem f_87_97 : fnd 87 97 = some (97, .ireturn, 1, 0, 0, 0, 0) := ceB_eq (by decide +kernel)
theorem f_87_98 : fnd 87 98 = some (98, .aload_n 0, 1, 0, 0, 0, 0) := ceB_eq (by decide +kernel)
theorem f_87_99 : fnd 87 99 = some (99, .getfield 12, 3, 3, 0, 0, 0) := ceB_eq (by decide +kernel)
theorem f_87_102 : fnd 87 102 = some (102, .getfield 122, 3, 4, 5, 5, 0) := ceB_eq (by decide +kernel)
theorem f_87_105 : fnd 87 105 = some (105, .iload_n 1, 1, 0, 0, 0, 0) := ceB_eq (by decide +kernel)
theorem f_87_106 : fnd 87 106 = some (106, .aaload, 1, 0, 0, 0, 0) := ceB_eq (by decide +kernel)
theorem f_87_107 : fnd 87 107 = some (107, .astore 5, 2, 0, 0, 0, 0) := ceB_eq (by decide +kernel)
theorem f_87_109 : fnd 87 109 = some (109, .aload_n 0, 1, 0, 0, 0, 0) := ceB_eq (by decide +kernel)
theorem f_87_110 : fnd 87 110 = some (110, .getfield 12, 3, 3, 0, 0, 0) := ceB_eq (by decide +kernel)
theorem f_87_113 : fnd 87 113 = some (113, .aload 5, 2, 0, 0, 0, 0) := ceB_eq (by decide +kernel)
theorem f_87_115 : fnd 87 115 = some (115, .getfield 245, 3, 6, 1, 1, 0) := ceB_eq (by decide +kernel)
theorem f_87_118 : fnd 87 118 = some (118, .invokevirtual 129, 3, 37, 2, 4, 0) := ceB_eq (by decide +kernel)
theorem f_87_121 : fnd 87 121 = some (121, .ifCond .ne 9, 3, 0, 0, 0, 0) := ceB_eq (by decide +kernel)
theorem f_87_124 : fnd 87 124 = some (124, .aload_n 0, 1, 0, 0, 0, 0) := ceB_eq (by decide +kernel)
theorem f_87_125 : fnd 87 125 = some (125, .iconst 2, 1, 0, 0, 0, 0) := ceB_eq (by decide +kernel)
theorem f_87_126 : fnd 87 126 = some (126, .invokevirtual 85, 3, 53, 2, 3, 0) := ceB_eq (by decide +kernel)
theorem f_87_129 : fnd 87 129 = some (129, .ireturn, 1, 0, 0, 0, 0) := ceB_eq (by decide +kernel)
theorem f_87_130 : fnd 87 130 = some (130, .aload_n 0, 1, 0, 0, 0, 0) := ceB_eq (by decide +kernel)
theorem f_87_131 : fnd 87 131 = some (131, .getfield 12, 3, 3, 0, 0, 0) := ceB_eq (by decide +kernel)
theorem f_87_134 : fnd 87 134 = some (134, .getfield 112, 3, 4, 6, 6, 0) := ceB_eq (by decide +kernel)
theorem f_87_137 : fnd 87 137 = some (137, .aload 5, 2, 0, 0, 0, 0) := ceB_eq (by decide +kernel)
theorem f_87_139 : fnd 87 139 = some (139, .getfield 245, 3, 6, 1, 1, 0) := ceB_eq (by decide +kernel)
theorem f_87_142 : fnd 87 142 = some (142, .aaload, 1, 0, 0, 0, 0) := ceB_eq (by decide +kernel)
theorem f_87_143 : fnd 87 143 = some (143, .astore 6, 2, 0, 0, 0, 0) := ceB_eq (by decide +kernel)
theorem f_87_145 : fnd 87 145 = some (145, .aload_n 0, 1, 0, 0, 0, 0) := ceB_eq (by decide +kernel)
theorem f_87_146 : fnd 87 146 = some (146, .getfield 12, 3, 3, 0, 0, 0) := ceB_eq (by decide +kernel)
theorem f_87_149 : fnd 87 149 = some (149, .dup, 1, 0, 0, 0, 0) := ceB_eq (by decide +kernel)
theorem f_87_150 : fnd 87 150 = some (150, .getfield 264, 3, 4, 3, 3, 0) := ceB_eq (by decide +kernel)
theorem f_87_153 : fnd 87 153 = some (153, .iconst 1, 1, 0, 0, 0, 0) := ceB_eq (by decide +kernel)
theorem f_87_154 : fnd 87 154 = some (154, .iadd, 1, 0, 0, 0, 0) := ceB_eq (by decide +kernel)
theorem f_87_155 : fnd 87 155 = some (155, .putfield 264, 3, 4, 3, 3, 0) := ceB_eq (by decide +kernel)
theorem f_87_158 : fnd 87 158 = some (158, .aload_n 0, 1, 0, 0, 0, 0) := ceB_eq (by decide +kernel)
theorem f_87_159 : fnd 87 159 = some (159, .getfield 12, 3, 3, 0, 0, 0) := ceB_eq (by decide +kernel)
theorem f_87_162 : fnd 87 162 = some (162, .getfield 267, 3, 4, 8, 8, 0) := ceB_eq (by decide +kernel)
theorem f_87_165 : fnd 87 165 = some (165, .iload 4, 2, 0, 0, 0, 0) := ceB_eq (by decide +kernel)
theorem f_87_167 : fnd 87 167 = some (167, .aaload, 1, 0, 0, 0, 0) := ceB_eq (by decide +kernel)
theorem f_87_168 : fnd 87 168 = some (168, .aload 5, 2, 0, 0, 0, 0) := ceB_eq (by decide +kernel)
theorem f_87_170 : fnd 87 170 = some (170, .aload 6, 2, 0, 0, 0, 0) := ceB_eq (by decide +kernel)
theorem f_87_172 : fnd 87 172 = some (172, .getfield 172, 3, 7, 1, 1, 0) := ceB_eq (by decide +kernel)
theorem f_87_175 : fnd 87 175 = some (175, .aload_n 0, 1, 0, 0, 0, 0) := ceB_eq (by decide +kernel)
theorem f_87_176 : fnd 87 176 = some (176, .getfield 12, 3, 3, 0, 0, 0) := ceB_eq (by decide +kernel)
theorem f_87_179 : fnd 87 179 = some (179, .getfield 264, 3, 4, 3, 3, 0) := ceB_eq (by decide +kernel)
theorem f_87_182 : fnd 87 182 = some (182, .invokevirtual 271, 3, 85, 4, 9, 0) := ceB_eq (by decide +kernel)
theorem f_87_185 : fnd 87 185 = some (185, .aload_n 0, 1, 0, 0, 0, 0) := ceB_eq (by decide +kernel)
theorem f_87_186 : fnd 87 186 = some (186, .getfield 12, 3, 3, 0, 0, 0) := ceB_eq (by decide +kernel)
theorem f_87_189 : fnd 87 189 = some (189, .getfield 122, 3, 4, 5, 5, 0) := ceB_eq (by decide +kernel)
theorem f_87_192 : fnd 87 192 = some (192, .iload_n 2, 1, 0, 0, 0, 0) := ceB_eq (by decide +kernel)
theorem f_87_193 : fnd 87 193 = some (193, .aaload, 1, 0, 0, 0, 0) := ceB_eq (by decide +kernel)
theorem f_87_194 : fnd 87 194 = some (194, .getfield 258, 3, 6, 8, 8, 0) := ceB_eq (by decide +kernel)
theorem f_87_197 : fnd 87 197 = some (197, .iload_n 3, 1, 0, 0, 0, 0) := ceB_eq (by decide +kernel)
theorem f_87_198 : fnd 87 198 = some (198, .aload_n 0, 1, 0, 0, 0, 0) := ceB_eq (by decide +kernel)
theorem f_87_199 : fnd 87 199 = some (199, .getfield 12, 3, 3, 0, 0, 0) := ceB_eq (by decide +kernel)
theorem f_87_202 : fnd 87 202 = some (202, .getfield 264, 3, 4, 3, 3, 0) := ceB_eq (by decide +kernel)
theorem f_87_205 : fnd 87 205 = some (205, .iastore, 1, 0, 0, 0, 0) := ceB_eq (by decide +kernel)
theorem f_87_206 : fnd 87 206 = some (206, .aload 5, 2, 0, 0, 0, 0) := ceB_eq (by decide +kernel)
theorem f_87_208 : fnd 87 208 = some (208, .getfield 197, 3, 6, 0, 0, 0) := ceB_eq (by decide +kernel)
theorem f_87_211 : fnd 87 211 = some (211, .iconst 1, 1, 0, 0, 0, 0) := ceB_eq (by decide +kernel)
theorem f_87_212 : fnd 87 212 = some (212, .if_icmp .ne 12, 3, 0, 0, 0, 0) := ceB_eq (by decide +kernel)
theorem f_87_215 : fnd 87 215 = some (215, .aload 6, 2, 0, 0, 0, 0) := ceB_eq (by decide +kernel)
theorem f_87_217 : fnd 87 217 = some (217, .iconst 1, 1, 0, 0, 0, 0) := ceB_eq (by decide +kernel)
theorem f_87_218 : fnd 87 218 = some (218, .putfield 187, 3, 7, 6, 6, 0) := ceB_eq (by decide +kernel)
theorem f_87_221 : fnd 87 221 = some (221, .goto 14, 3, 0, 0, 0, 0) := ceB_eq (by decide +kernel)
theorem f_87_224 : fnd 87 224 = some (224, .aload 6, 2, 0, 0, 0, 0) := ceB_eq (by decide +kernel)
theorem f_87_226 : fnd 87 226 = some (226, .aload 5, 2, 0, 0, 0, 0) := ceB_eq (by decide +kernel)
theorem f_87_228 : fnd 87 228 = some (228, .getfield 144, 3, 6, 2, 2, 0) := ceB_eq (by decide +kernel)
theorem f_87_231 : fnd 87 231 = some (231, .iconst 2, 1, 0, 0, 0, 0) := ceB_eq (by decide +kernel)
theorem f_87_232 : fnd 87 232 = some (232, .invokevirtual 277, 3, 86, 3, 7, 0) := ceB_eq (by decide +kernel)
theorem f_87_235 : fnd 87 235 = some (235, .aload 5, 2, 0, 0, 0, 0) := ceB_eq (by decide +kernel)
theorem f_87_237 : fnd 87 237 = some (237, .iconst 0, 1, 0, 0, 0, 0) := ceB_eq (by decide +kernel)
theorem f_87_238 : fnd 87 238 = some (238, .iconst (-1), 1, 0, 0, 0, 0) := ceB_eq (by decide +kernel)
theorem f_87_239 : fnd 87 239 = some (239, .invokevirtual 126, 3, 22, 3, 6, 0) := ceB_eq (by decide +kernel)
theorem f_87_242 : fnd 87 242 = some (242, .iload 4, 2, 0, 0, 0, 0) := ceB_eq (by decide +kernel)
theorem f_87_244 : fnd 87 244 = some (244, .ireturn, 1, 0, 0, 0, 0) := ceB_eq (by decide +kernel)
theorem rk_87 : rkm 87 = 0 := by decide +kernel
theorem ml_87 : (mth 87).2.1 = 7 := by decide +kernel
set_option maxRecDepth 100000 in
theorem T_Acts_evictPage (k0 i0 x1 x2 x3 : Int) (σ : ST) (Q : Option AV → ST → Prop) (h :
  wpM m_World_isFilled [.inr (.inr (12, k0, 0)), .inl x1] σ (asI fun r101 s101 =>
  (((r101 = 0 : Prop) →
    wpM m_Acts_refuse [.inr (.inr (11, k0, i0)), .inl 0] s101 (asI fun r102 s102 =>
    Q (some (.inl r102)) s102)) ∧
  (¬ (r101 = 0) →
    wpM m_World_isSlots [.inr (.inr (12, k0, 0)), .inl x2] s101 (asI fun r103 s103 =>
    (((r103 ≠ 0 : Prop) →
      (((x3 < 0 : Prop) →
        wpM m_Acts_refuse [.inr (.inr (11, k0, i0)), .inl 1] s103 (asI fun r104 s104 =>
        Q (some (.inl r104)) s104)) ∧
      (¬ (x3 < 0) →
        (((x3 < 4 : Prop) →
          wpM m_World_canGo [.inr (.inr (12, k0, 0)), .inl x1] s103 (asI fun r105 s105 =>
          (((r105 = 0 : Prop) →
            wpM m_Acts_refuse [.inr (.inr (11, k0, i0)), .inl 2] s105 (asI fun r106 s106 =>
            Q (some (.inl r106)) s106)) ∧
          (¬ (r105 = 0) →
            ((0 : Int) ≤ x2 ∧ (x2 : Int) < 10) ∧
            ((0 : Int) ≤ x3 ∧ (x3 : Int) < 4) ∧
            ((((s105 15 k0 x2 x3) = 0 : Prop) →
              wpM m_World_lowestEmptyPlace [.inr (.inr (12, k0, 0))] s105 (asI fun r107 s107 =>
              (((r107 ≠ (-1) : Prop) →
                ((0 : Int) ≤ x1 ∧ (x1 : Int) < 10) ∧
                wpM m_World_isRoom [.inr (.inr (12, k0, 0)), .inl (s107 14 k0 x1 1)] s107 (asI fun r108 s108 =>
                (((r108 ≠ 0 : Prop) →
                  ((0 : Int) ≤ (s108 14 k0 x1 1) ∧ ((s108 14 k0 x1 1) : Int) < 4) ∧
                  ((0 : Int) ≤ r107 ∧ (r107 : Int) < 12) ∧
                  wpM m_Copy_keep [.inr (.inr (25, k0, r107)), .inr (.inr (14, k0, x1)), .inl ((up s108 12 k0 0 3 (wr ((s108 12 k0 0 3) + 1))) 17 k0 (s108 14 k0 x1 1) 1), .inl ((up s108 12 k0 0 3 (wr ((s108 12 k0 0 3) + 1))) 12 k0 0 3)] (up s108 12 k0 0 3 (wr ((s108 12 k0 0 3) + 1))) (asV fun s109 =>
                  ((0 : Int) ≤ x2 ∧ (x2 : Int) < 10) ∧
                  ((0 : Int) ≤ x3 ∧ (x3 : Int) < 4) ∧
                  (((((up s109 15 k0 x2 x3 (s109 12 k0 0 3)) 14 k0 x1 0) ≠ 1 : Prop) →
                    wpM m_Room_place [.inr (.inr (17, k0, (s108 14 k0 x1 1))), .inl ((up s109 15 k0 x2 x3 (s109 12 k0 0 3)) 14 k0 x1 2), .inl 2] (up s109 15 k0 x2 x3 (s109 12 k0 0 3)) (asV fun s110 =>
                    wpM m_Page_begin [.inr (.inr (14, k0, x1)), .inl 0, .inl (-1)] s110 (asV fun s111 =>
                    Q (some (.inl r107)) s111))) ∧
                  (¬ (((up s109 15 k0 x2 x3 (s109 12 k0 0 3)) 14 k0 x1 0) ≠ 1) →
                    ((1 : Int) = 0 ∨ (1 : Int) = 1) ∧
                    wpM m_Page_begin [.inr (.inr (14, k0, x1)), .inl 0, .inl (-1)] (up (up s109 15 k0 x2 x3 (s109 12 k0 0 3)) 17 k0 (s108 14 k0 x1 1) 6 1) (asV fun s112 =>
                    Q (some (.inl r107)) s112))))) ∧
                (¬ (r108 ≠ 0) →
                  wpM m_Acts_refuse [.inr (.inr (11, k0, i0)), .inl 2] s108 (asI fun r114 s114 =>
                  Q (some (.inl r114)) s114))))) ∧
              (¬ (r107 ≠ (-1)) →
                wpM m_Acts_refuse [.inr (.inr (11, k0, i0)), .inl 3] s107 (asI fun r116 s116 =>
                Q (some (.inl r116)) s116))))) ∧
            (¬ ((s105 15 k0 x2 x3) = 0) →
              wpM m_Acts_refuse [.inr (.inr (11, k0, i0)), .inl 2] s105 (asI fun r118 s118 =>
              Q (some (.inl r118)) s118))))))) ∧
        (¬ (x3 < 4) →
          wpM m_Acts_refuse [.inr (.inr (11, k0, i0)), .inl 1] s103 (asI fun r121 s121 =>
          Q (some (.inl r121)) s121)))))) ∧
    (¬ (r103 ≠ 0) →
      wpM m_Acts_refuse [.inr (.inr (11, k0, i0)), .inl 0] s103 (asI fun r124 s124 =>
      Q (some (.inl r124)) s124)))))))) :
  wpM m_Acts_evictPage [.inr (.inr (11, k0, i0)), .inl x1, .inl x2, .inl x3] σ Q :=
 wpM_of ml_87 (L := [some (.inr (.inr (11, k0, i0))), some (.inl x1), some (.inl x2), some (.inl x3), none, none, none]) rfl
 (w_aload_n (p' := 1) f_87_0 rfl rfl
 (w_getfield (p' := 4) f_87_1 rfl (x := .inr (.inr (12, k0, 0))) rfl rfl
 (w_iload_n (p' := 5) f_87_4 rfl rfl
 (w_callV (p' := 8) f_87_5 rfl rfl rfl rfl rfl (r := []) rfl rfl (kI (.inr rk_77) fun r101 s101 h101 =>
 w_if (p' := 22) (q' := 11) f_87_8 rfl rfl
 (fun c126 => w_aload_n (p' := 23) f_87_22 rfl rfl
 (w_iconst (p' := 24) f_87_23 rfl
 (w_callV (p' := 27) f_87_24 rfl rfl rfl rfl rfl (r := []) rfl rfl (kI (.inl rk_53) fun r102 s102 h102 =>
 w_iret f_87_27 rk_87 h102) (h101.1 c126))))
 (fun c126 => w_aload_n (p' := 12) f_87_11 rfl rfl
 (w_getfield (p' := 15) f_87_12 rfl (x := .inr (.inr (12, k0, 0))) rfl rfl
 (w_iload_n (p' := 16) f_87_15 rfl rfl
 (w_callV (p' := 19) f_87_16 rfl rfl rfl rfl rfl (r := []) rfl rfl (kI (.inr rk_35) fun r103 s103 h103 =>
 w_if (p' := 28) (q' := 22) f_87_19 rfl rfl
 (fun c125 => w_iload_n (p' := 29) f_87_28 rfl rfl
 (w_if (p' := 37) (q' := 32) f_87_29 rfl rfl
 (fun c123 => w_aload_n (p' := 38) f_87_37 rfl rfl
 (w_iconst (p' := 39) f_87_38 rfl
 (w_callV (p' := 42) f_87_39 rfl rfl rfl rfl rfl (r := []) rfl rfl (kI (.inl rk_53) fun r104 s104 h104 =>
 w_iret f_87_42 rk_87 h104) ((h103.1 c125).1 c123))))
 (fun c123 => w_iload_n (p' := 33) f_87_32 rfl rfl
 (w_iconst (p' := 34) f_87_33 rfl
 (w_icmp (p' := 43) (q' := 37) f_87_34 rfl rfl
 (fun c122 => w_aload_n (p' := 44) f_87_43 rfl rfl
 (w_getfield (p' := 47) f_87_44 rfl (x := .inr (.inr (12, k0, 0))) rfl rfl
 (w_iload_n (p' := 48) f_87_47 rfl rfl
 (w_callV (p' := 51) f_87_48 rfl rfl rfl rfl rfl (r := []) rfl rfl (kI (.inr rk_83) fun r105 s105 h105 =>
 w_if (p' := 71) (q' := 54) f_87_51 rfl rfl
 (fun c120 => w_aload_n (p' := 72) f_87_71 rfl rfl
 (w_iconst (p' := 73) f_87_72 rfl
 (w_callV (p' := 76) f_87_73 rfl rfl rfl rfl rfl (r := []) rfl rfl (kI (.inl rk_53) fun r106 s106 h106 =>
 w_iret f_87_76 rk_87 h106) (h105.1 c120))))
 (fun c120 => w_aload_n (p' := 55) f_87_54 rfl rfl
 (w_getfield (p' := 58) f_87_55 rfl (x := .inr (.inr (12, k0, 0))) rfl rfl
 (w_getfield (p' := 61) f_87_58 rfl (x := .inr (.inr (13, k0, 0))) rfl rfl
 (w_iload_n (p' := 62) f_87_61 rfl rfl
 (w_aaload (p' := 63) f_87_62 rfl (n := 10) rfl (x := (14, k0, x2)) rfl (h105.2 c120).1 rfl
 (w_getfield (p' := 66) f_87_63 rfl (x := .inr (.inr (15, k0, x2))) rfl rfl
 (w_iload_n (p' := 67) f_87_66 rfl rfl
 (w_iaload (p' := 68) f_87_67 rfl (n := 4) rfl (h105.2 c120).2.1 rfl
 (w_if (p' := 77) (q' := 71) f_87_68 rfl rfl
 (fun c119 => w_aload_n (p' := 78) f_87_77 rfl rfl
 (w_getfield (p' := 81) f_87_78 rfl (x := .inr (.inr (12, k0, 0))) rfl rfl
 (w_callV (p' := 84) f_87_81 rfl rfl rfl rfl rfl (r := []) rfl rfl (kI (.inl rk_84) fun r107 s107 h107 =>
 w_istore (p' := 86) f_87_84 (L' := [some (.inr (.inr (11, k0, i0))), some (.inl x1), some (.inl x2), some (.inl x3), some (.inl r107), none, none]) rfl rfl
 (w_iload (p' := 88) f_87_86 rfl rfl
 (w_iconst (p' := 89) f_87_88 rfl
 (w_icmp (p' := 98) (q' := 92) f_87_89 rfl rfl
 (fun c117 => w_aload_n (p' := 99) f_87_98 rfl rfl
 (w_getfield (p' := 102) f_87_99 rfl (x := .inr (.inr (12, k0, 0))) rfl rfl
 (w_getfield (p' := 105) f_87_102 rfl (x := .inr (.inr (13, k0, 0))) rfl rfl
 (w_iload_n (p' := 106) f_87_105 rfl rfl
 (w_aaload (p' := 107) f_87_106 rfl (n := 10) rfl (x := (14, k0, x1)) rfl (h107.1 c117).1 rfl
 (w_astore (p' := 109) f_87_107 (L' := [some (.inr (.inr (11, k0, i0))), some (.inl x1), some (.inl x2), some (.inl x3), some (.inl r107), some (.inr (.inr (14, k0, x1))), none]) rfl rfl
 (w_aload_n (p' := 110) f_87_109 rfl rfl
 (w_getfield (p' := 113) f_87_110 rfl (x := .inr (.inr (12, k0, 0))) rfl rfl
 (w_aload (p' := 115) f_87_113 rfl rfl
 (w_getfield (p' := 118) f_87_115 rfl (x := .inl (s107 14 k0 x1 1)) rfl rfl
 (w_callV (p' := 121) f_87_118 rfl rfl rfl rfl rfl (r := []) rfl rfl (kI (.inr rk_37) fun r108 s108 h108 =>
 w_if (p' := 130) (q' := 124) f_87_121 rfl rfl
 (fun c115 => w_aload_n (p' := 131) f_87_130 rfl rfl
 (w_getfield (p' := 134) f_87_131 rfl (x := .inr (.inr (12, k0, 0))) rfl rfl
 (w_getfield (p' := 137) f_87_134 rfl (x := .inr (.inr (16, k0, 0))) rfl rfl
 (w_aload (p' := 139) f_87_137 rfl rfl
 (w_getfield (p' := 142) f_87_139 rfl (x := .inl (s108 14 k0 x1 1)) rfl rfl
 (w_aaload (p' := 143) f_87_142 rfl (n := 4) rfl (x := (17, k0, (s108 14 k0 x1 1))) rfl (h108.1 c115).1 rfl
 (w_astore (p' := 145) f_87_143 (L' := [some (.inr (.inr (11, k0, i0))), some (.inl x1), some (.inl x2), some (.inl x3), some (.inl r107), some (.inr (.inr (14, k0, x1))), some (.inr (.inr (17, k0, (s108 14 k0 x1 1))))]) rfl rfl
 (w_aload_n (p' := 146) f_87_145 rfl rfl
 (w_getfield (p' := 149) f_87_146 rfl (x := .inr (.inr (12, k0, 0))) rfl rfl
 (w_dupR (p' := 150) f_87_149 rfl
 (w_getfield (p' := 153) f_87_150 rfl (x := .inl (s108 12 k0 0 3)) rfl rfl
 (w_iconst (p' := 154) f_87_153 rfl
 (w_iadd (p' := 155) f_87_154 rfl
 (w_putI (p' := 158) f_87_155 rfl rfl (c' := 3) rfl rfl
 (w_aload_n (p' := 159) f_87_158 rfl rfl
 (w_getfield (p' := 162) f_87_159 rfl (x := .inr (.inr (12, k0, 0))) rfl rfl
 (w_getfield (p' := 165) f_87_162 rfl (x := .inr (.inr (24, k0, 0))) rfl rfl
 (w_iload (p' := 167) f_87_165 rfl rfl
 (w_aaload (p' := 168) f_87_167 rfl (n := 12) rfl (x := (25, k0, r107)) rfl (h108.1 c115).2.1 rfl
 (w_aload (p' := 170) f_87_168 rfl rfl
 (w_aload (p' := 172) f_87_170 rfl rfl
 (w_getfield (p' := 175) f_87_172 rfl (x := .inl ((up s108 12 k0 0 3 (wr ((s108 12 k0 0 3) + 1))) 17 k0 (s108 14 k0 x1 1) 1)) rfl rfl
 (w_aload_n (p' := 176) f_87_175 rfl rfl
 (w_getfield (p' := 179) f_87_176 rfl (x := .inr (.inr (12, k0, 0))) rfl rfl
 (w_getfield (p' := 182) f_87_179 rfl (x := .inl ((up s108 12 k0 0 3 (wr ((s108 12 k0 0 3) + 1))) 12 k0 0 3)) rfl rfl
 (w_callV (p' := 185) f_87_182 rfl rfl rfl rfl rfl (r := []) rfl rfl (kV rk_85 fun s109 h109 =>
 w_aload_n (p' := 186) f_87_185 rfl rfl
 (w_getfield (p' := 189) f_87_186 rfl (x := .inr (.inr (12, k0, 0))) rfl rfl
 (w_getfield (p' := 192) f_87_189 rfl (x := .inr (.inr (13, k0, 0))) rfl rfl
 (w_iload_n (p' := 193) f_87_192 rfl rfl
 (w_aaload (p' := 194) f_87_193 rfl (n := 10) rfl (x := (14, k0, x2)) rfl h109.1 rfl
 (w_getfield (p' := 197) f_87_194 rfl (x := .inr (.inr (15, k0, x2))) rfl rfl
 (w_iload_n (p' := 198) f_87_197 rfl rfl
 (w_aload_n (p' := 199) f_87_198 rfl rfl
 (w_getfield (p' := 202) f_87_199 rfl (x := .inr (.inr (12, k0, 0))) rfl rfl
 (w_getfield (p' := 205) f_87_202 rfl (x := .inl (s109 12 k0 0 3)) rfl rfl
 (w_iastore (p' := 206) f_87_205 rfl (n := 4) rfl h109.2.1 rfl
 (w_aload (p' := 208) f_87_206 rfl rfl
 (w_getfield (p' := 211) f_87_208 rfl (x := .inl ((up s109 15 k0 x2 x3 (s109 12 k0 0 3)) 14 k0 x1 0)) rfl rfl
 (w_iconst (p' := 212) f_87_211 rfl
 (w_icmp (p' := 224) (q' := 215) f_87_212 rfl rfl
 (fun c113 => w_aload (p' := 226) f_87_224 rfl rfl
 (w_aload (p' := 228) f_87_226 rfl rfl
 (w_getfield (p' := 231) f_87_228 rfl (x := .inl ((up s109 15 k0 x2 x3 (s109 12 k0 0 3)) 14 k0 x1 2)) rfl rfl
 (w_iconst (p' := 232) f_87_231 rfl
 (w_callV (p' := 235) f_87_232 rfl rfl rfl rfl rfl (r := []) rfl rfl (kV rk_86 fun s110 h110 =>
 w_aload (p' := 237) f_87_235 rfl rfl
 (w_iconst (p' := 238) f_87_237 rfl
 (w_iconst (p' := 239) f_87_238 rfl
 (w_callV (p' := 242) f_87_239 rfl rfl rfl rfl rfl (r := []) rfl rfl (kV rk_22 fun s111 h111 =>
 w_iload (p' := 244) f_87_242 rfl rfl
 (w_iret f_87_244 rk_87 h111)) h110)))) (h109.2.2.1 c113))))))
 (fun c113 => w_aload (p' := 217) f_87_215 rfl rfl
 (w_iconst (p' := 218) f_87_217 rfl
 (w_putZ (p' := 221) f_87_218 rfl rfl (c' := 6) rfl (h109.2.2.2 c113).1 rfl
 (w_goto (p' := 235) f_87_221 rfl
 (w_aload (p' := 237) f_87_235 rfl rfl
 (w_iconst (p' := 238) f_87_237 rfl
 (w_iconst (p' := 239) f_87_238 rfl
 (w_callV (p' := 242) f_87_239 rfl rfl rfl rfl rfl (r := []) rfl rfl (kV rk_22 fun s112 h112 =>
 w_iload (p' := 244) f_87_242 rfl rfl
 (w_iret f_87_244 rk_87 h112)) (h109.2.2.2 c113).2))))))))))))))))))))))) (h108.1 c115).2.2))))))))))))))))))))))))))
 (fun c115 => w_aload_n (p' := 125) f_87_124 rfl rfl
 (w_iconst (p' := 126) f_87_125 rfl
 (w_callV (p' := 129) f_87_126 rfl rfl rfl rfl rfl (r := []) rfl rfl (kI (.inl rk_53) fun r114 s114 h114 =>
 w_iret f_87_129 rk_87 h114) (h108.2 c115))))) (h107.1 c117).2)))))))))))
 (fun c117 => w_aload_n (p' := 93) f_87_92 rfl rfl
 (w_iconst (p' := 94) f_87_93 rfl
 (w_callV (p' := 97) f_87_94 rfl rfl rfl rfl rfl (r := []) rfl rfl (kI (.inl rk_53) fun r116 s116 h116 =>
 w_iret f_87_97 rk_87 h116) (h107.2 c117)))))))) ((h105.2 c120).2.2.1 c119))))
 (fun c119 => w_aload_n (p' := 72) f_87_71 rfl rfl
 (w_iconst (p' := 73) f_87_72 rfl
 (w_callV (p' := 76) f_87_73 rfl rfl rfl rfl rfl (r := []) rfl rfl (kI (.inl rk_53) fun r118 s118 h118 =>
 w_iret f_87_76 rk_87 h118) ((h105.2 c120).2.2.2 c119)))))))))))))) (((h103.1 c125).2 c123).1 c122)))))
 (fun c122 => w_aload_n (p' := 38) f_87_37 rfl rfl
 (w_iconst (p' := 39) f_87_38 rfl
 (w_callV (p' := 42) f_87_39 rfl rfl rfl rfl rfl (r := []) rfl rfl (kI (.inl rk_53) fun r121 s121 h121 =>
 w_iret f_87_42 rk_87 h121) (((h103.1 c125).2 c123).2 c122)))))))))
 (fun c125 => w_aload_n (p' := 23) f_87_22 rfl rfl
 (w_iconst (p' := 24) f_87_23 rfl
 (w_callV (p' := 27) f_87_24 rfl rfl rfl rfl rfl (r := []) rfl rfl (kI (.inl rk_53) fun r124 s124 h124 =>
 w_iret f_87_27 rk_87 h124) (h103.2 c125))))) (h101.2 c126)))))) h))))
/-! ClosedRooms$World.roomOfSerial(I)I -/
theorem f_88_0 : fnd 88 0 = some (0, .iconst 0, 1, 0, 0, 0, 0) := ceB_eq (by decide +kernel)
theorem f_88_1 : fnd 88 1 = some (1, .istore_n 2, 1, 0, 0, 0, 0) := ceB_eq (by decide +kernel)
theorem f_88_2 : fnd 88 2 = some (2, .iload_n 2, 1, 0, 0, 0, 0) := ceB_eq (by decide +kernel)
theorem f_88_3 : fnd 88 3 = some (3, .iconst 4, 1, 0, 0, 0, 0) := ceB_eq (by decide +kernel)
theorem f_88_4 : fnd 88 4 = some (4, .if_icmp .ge 36, 3, 0, 0, 0, 0) := ceB_eq (by decide +kernel)
theorem f_88_7 : fnd 88 7 = some (7, .aload_n 0, 1, 0, 0, 0, 0) := ceB_eq (by decide +kernel)
theorem f_88_8 : fnd 88 8 = some (8, .getfield 35, 3, 4, 6, 6, 0) := ceB_eq (by decide +kernel)
theorem f_88_11 : fnd 88 11 = some (11, .iload_n 2, 1, 0, 0, 0, 0) := ceB_eq (by decide +kernel)
theorem f_88_12 : fnd 88 12 = some (12, .aaload, 1, 0, 0, 0, 0) := ceB_eq (by decide +kernel)
theorem f_88_13 : fnd 88 13 = some (13, .getfield 66, 3, 7, 0, 0, 0) := ceB_eq (by decide +kernel)
theorem f_88_16 : fnd 88 16 = some (16, .ifCond .eq 18, 3, 0, 0, 0, 0) := ceB_eq (by decide +kernel)
theorem f_88_19 : fnd 88 19 = some (19, .aload_n 0, 1, 0, 0, 0, 0) := ceB_eq (by decide +kernel)
theorem f_88_20 : fnd 88 20 = some (20, .getfield 35, 3, 4, 6, 6, 0) := ceB_eq (by decide +kernel)
theorem f_88_23 : fnd 88 23 = some (23, .iload_n 2, 1, 0, 0, 0, 0) := ceB_eq (by decide +kernel)
theorem f_88_24 : fnd 88 24 = some (24, .aaload, 1, 0, 0, 0, 0) := ceB_eq (by decide +kernel)
theorem f_88_25 : fnd 88 25 = some (25, .getfield 110, 3, 7, 1, 1, 0) := ceB_eq (by decide +kernel)
theorem f_88_28 : fnd 88 28 = some (28, .iload_n 1, 1, 0, 0, 0, 0) := ceB_eq (by decide +kernel)
theorem f_88_29 : fnd 88 29 = some (29, .if_icmp .ne 5, 3, 0, 0, 0, 0) := ceB_eq (by decide +kernel)
theorem f_88_32 : fnd 88 32 = some (32, .iload_n 2, 1, 0, 0, 0, 0) := ceB_eq (by decide +kernel)
theorem f_88_33 : fnd 88 33 = some (33, .ireturn, 1, 0, 0, 0, 0) := ceB_eq (by decide +kernel)
theorem f_88_34 : fnd 88 34 = some (34, .iinc 2 1, 3, 0, 0, 0, 0) := ceB_eq (by decide +kernel)
theorem f_88_37 : fnd 88 37 = some (37, .goto (-35), 3, 0, 0, 0, 0) := ceB_eq (by decide +kernel)
theorem f_88_40 : fnd 88 40 = some (40, .iconst (-1), 1, 0, 0, 0, 0) := ceB_eq (by decide +kernel)
theorem f_88_41 : fnd 88 41 = some (41, .ireturn, 1, 0, 0, 0, 0) := ceB_eq (by decide +kernel)
theorem rk_88 : rkm 88 = 0 := by decide +kernel
theorem ml_88 : (mth 88).2.1 = 3 := by decide +kernel
set_option maxRecDepth 100000 in
theorem T_World_roomOfSerial (k0 i0 x1 : Int) (σ : ST) (Q : Option AV → ST → Prop) (h :
  wp m_World_roomOfSerial (2, [some (.inr (.inr (12, k0, i0))), some (.inl x1), some (.inl 0)], [], σ) Q) :
  wpM m_World_roomOfSerial [.inr (.inr (12, k0, i0)), .inl x1] σ Q :=
 wpM_of ml_88 (L := [some (.inr (.inr (12, k0, i0))), some (.inl x1), none]) rfl
 (w_iconst (p' := 1) f_88_0 rfl
 (w_istore_n (p' := 2) f_88_1 (L' := [some (.inr (.inr (12, k0, i0))), some (.inl x1), some (.inl 0)]) rfl rfl
 (h)))
set_option maxRecDepth 100000 in
theorem T_World_roomOfSerial_2 (k0 i0 x1 x2 : Int) (σ : ST) (Q : Option AV → ST → Prop) (h :
  (((4 ≤ x2 : Prop) →
    Q (some (.inl (-1))) σ) ∧
  (¬ (4 ≤ x2) →
    ((0 : Int) ≤ x2 ∧ (x2 : Int) < 4) ∧
    ((((bz (σ 17 k0 x2 0)) = 0 : Prop) →
      wp m_World_roomOfSerial (2, [some (.inr (.inr (12, k0, i0))), some (.inl x1), some (.inl (wr (x2 + 1)))], [], σ) Q) ∧
    (¬ ((bz (σ 17 k0 x2 0)) = 0) →
      ((0 : Int) ≤ x2 ∧ (x2 : Int) < 4) ∧
      ((((σ 17 k0 x2 1) ≠ x1 : Prop) →
        wp m_World_roomOfSerial (2, [some (.inr (.inr (12, k0, i0))), some (.inl x1), some (.inl (wr (x2 + 1)))], [], σ) Q) ∧
      (¬ ((σ 17 k0 x2 1) ≠ x1) →
        Q (some (.inl x2)) σ))))))) :
  wp m_World_roomOfSerial (2, [some (.inr (.inr (12, k0, i0))), some (.inl x1), some (.inl x2)], [], σ) Q :=
 w_iload_n (p' := 3) f_88_2 rfl rfl
 (w_iconst (p' := 4) f_88_3 rfl
 (w_icmp (p' := 40) (q' := 7) f_88_4 rfl rfl
 (fun c103 => w_iconst (p' := 41) f_88_40 rfl
 (w_iret f_88_41 rk_88 (h.1 c103)))
 (fun c103 => w_aload_n (p' := 8) f_88_7 rfl rfl
 (w_getfield (p' := 11) f_88_8 rfl (x := .inr (.inr (16, k0, 0))) rfl rfl
 (w_iload_n (p' := 12) f_88_11 rfl rfl
 (w_aaload (p' := 13) f_88_12 rfl (n := 4) rfl (x := (17, k0, x2)) rfl (h.2 c103).1 rfl
 (w_getfield (p' := 16) f_88_13 rfl (x := .inl (bz (σ 17 k0 x2 0))) rfl rfl
 (w_if (p' := 34) (q' := 19) f_88_16 rfl rfl
 (fun c102 => w_iinc (p' := 37) f_88_34 rfl (L' := [some (.inr (.inr (12, k0, i0))), some (.inl x1), some (.inl (wr (x2 + 1)))]) rfl rfl
 (w_goto (p' := 2) f_88_37 rfl
 (((h.2 c103).2.1 c102))))
 (fun c102 => w_aload_n (p' := 20) f_88_19 rfl rfl
 (w_getfield (p' := 23) f_88_20 rfl (x := .inr (.inr (16, k0, 0))) rfl rfl
 (w_iload_n (p' := 24) f_88_23 rfl rfl
 (w_aaload (p' := 25) f_88_24 rfl (n := 4) rfl (x := (17, k0, x2)) rfl ((h.2 c103).2.2 c102).1 rfl
 (w_getfield (p' := 28) f_88_25 rfl (x := .inl (σ 17 k0 x2 1)) rfl rfl
 (w_iload_n (p' := 29) f_88_28 rfl rfl
 (w_icmp (p' := 34) (q' := 32) f_88_29 rfl rfl
 (fun c101 => w_iinc (p' := 37) f_88_34 rfl (L' := [some (.inr (.inr (12, k0, i0))), some (.inl x1), some (.inl (wr (x2 + 1)))]) rfl rfl
 (w_goto (p' := 2) f_88_37 rfl
 ((((h.2 c103).2.2 c102).2.1 c101))))
 (fun c101 => w_iload_n (p' := 33) f_88_32 rfl rfl
 (w_iret f_88_33 rk_88 (((h.2 c103).2.2 c102).2.2 c101))))))))))))))))))
/-! ClosedRooms$Copy.fill(LClosedRooms$Page;I)V -/
theorem f_89_0 : fnd 89 0 = some (0, .aload_n 1, 1, 0, 0, 0, 0) := ceB_eq (by decide +kernel)
theorem f_89_1 : fnd 89 1 = some (1, .aload_n 0, 1, 0, 0, 0, 0) := ceB_eq (by decide +kernel)
theorem f_89_2 : fnd 89 2 = some (2, .getfield 22, 3, 9, 3, 3, 0) := ceB_eq (by decide +kernel)
theorem f_89_5 : fnd 89 5 = some (5, .iload_n 2, 1, 0, 0, 0, 0) := ceB_eq (by decide +kernel)
theorem f_89_6 : fnd 89 6 = some (6, .invokevirtual 49, 3, 22, 3, 6, 0) := ceB_eq (by decide +kernel)
theorem f_89_9 : fnd 89 9 = some (9, .aload_n 1, 1, 0, 0, 0, 0) := ceB_eq (by decide +kernel)
theorem f_89_10 : fnd 89 10 = some (10, .aload_n 0, 1, 0, 0, 0, 0) := ceB_eq (by decide +kernel)
theorem f_89_11 : fnd 89 11 = some (11, .getfield 19, 3, 9, 2, 2, 0) := ceB_eq (by decide +kernel)
theorem f_89_14 : fnd 89 14 = some (14, .putfield 40, 3, 6, 2, 2, 0) := ceB_eq (by decide +kernel)
theorem f_89_17 : fnd 89 17 = some (17, .aload_n 1, 1, 0, 0, 0, 0) := ceB_eq (by decide +kernel)
theorem f_89_18 : fnd 89 18 = some (18, .aload_n 0, 1, 0, 0, 0, 0) := ceB_eq (by decide +kernel)
theorem f_89_19 : fnd 89 19 = some (19, .getfield 25, 3, 9, 4, 4, 0) := ceB_eq (by decide +kernel)
theorem f_89_22 : fnd 89 22 = some (22, .putfield 44, 3, 6, 3, 3, 0) := ceB_eq (by decide +kernel)
theorem f_89_25 : fnd 89 25 = some (25, .aload_n 1, 1, 0, 0, 0, 0) := ceB_eq (by decide +kernel)
theorem f_89_26 : fnd 89 26 = some (26, .aload_n 0, 1, 0, 0, 0, 0) := ceB_eq (by decide +kernel)
theorem f_89_27 : fnd 89 27 = some (27, .getfield 28, 3, 9, 5, 5, 0) := ceB_eq (by decide +kernel)
theorem f_89_30 : fnd 89 30 = some (30, .putfield 45, 3, 6, 4, 4, 0) := ceB_eq (by decide +kernel)
theorem f_89_33 : fnd 89 33 = some (33, .aload_n 1, 1, 0, 0, 0, 0) := ceB_eq (by decide +kernel)
theorem f_89_34 : fnd 89 34 = some (34, .aload_n 0, 1, 0, 0, 0, 0) := ceB_eq (by decide +kernel)
theorem f_89_35 : fnd 89 35 = some (35, .getfield 31, 3, 9, 6, 6, 0) := ceB_eq (by decide +kernel)
theorem f_89_38 : fnd 89 38 = some (38, .ifCond .eq 7, 3, 0, 0, 0, 0) := ceB_eq (by decide +kernel)
theorem f_89_41 : fnd 89 41 = some (41, .iconst 2, 1, 0, 0, 0, 0) := ceB_eq (by decide +kernel)
theorem f_89_42 : fnd 89 42 = some (42, .goto 4, 3, 0, 0, 0, 0) := ceB_eq (by decide +kernel)
theorem f_89_45 : fnd 89 45 = some (45, .iconst 0, 1, 0, 0, 0, 0) := ceB_eq (by decide +kernel)
theorem f_89_46 : fnd 89 46 = some (46, .putfield 46, 3, 6, 7, 7, 0) := ceB_eq (by decide +kernel)
theorem f_89_49 : fnd 89 49 = some (49, .return_, 1, 0, 0, 0, 0) := ceB_eq (by decide +kernel)
theorem rk_89 : rkm 89 = 4 := by decide +kernel
theorem ml_89 : (mth 89).2.1 = 3 := by decide +kernel
set_option maxRecDepth 100000 in
theorem T_Copy_fill (k0 i0 k1 i1 x2 : Int) (σ : ST) (Q : Option AV → ST → Prop) (h :
  wpM m_Page_begin [.inr (.inr (14, k1, i1)), .inl (σ 25 k0 i0 3), .inl x2] σ (asV fun s101 =>
  ((((bz ((up (up (up s101 14 k1 i1 2 (s101 25 k0 i0 2)) 14 k1 i1 3 ((up s101 14 k1 i1 2 (s101 25 k0 i0 2)) 25 k0 i0 4)) 14 k1 i1 4 ((up (up s101 14 k1 i1 2 (s101 25 k0 i0 2)) 14 k1 i1 3 ((up s101 14 k1 i1 2 (s101 25 k0 i0 2)) 25 k0 i0 4)) 25 k0 i0 5)) 25 k0 i0 6)) = 0 : Prop) →
    Q none (up (up (up (up s101 14 k1 i1 2 (s101 25 k0 i0 2)) 14 k1 i1 3 ((up s101 14 k1 i1 2 (s101 25 k0 i0 2)) 25 k0 i0 4)) 14 k1 i1 4 ((up (up s101 14 k1 i1 2 (s101 25 k0 i0 2)) 14 k1 i1 3 ((up s101 14 k1 i1 2 (s101 25 k0 i0 2)) 25 k0 i0 4)) 25 k0 i0 5)) 14 k1 i1 7 0)) ∧
  (¬ ((bz ((up (up (up s101 14 k1 i1 2 (s101 25 k0 i0 2)) 14 k1 i1 3 ((up s101 14 k1 i1 2 (s101 25 k0 i0 2)) 25 k0 i0 4)) 14 k1 i1 4 ((up (up s101 14 k1 i1 2 (s101 25 k0 i0 2)) 14 k1 i1 3 ((up s101 14 k1 i1 2 (s101 25 k0 i0 2)) 25 k0 i0 4)) 25 k0 i0 5)) 25 k0 i0 6)) = 0) →
    Q none (up (up (up (up s101 14 k1 i1 2 (s101 25 k0 i0 2)) 14 k1 i1 3 ((up s101 14 k1 i1 2 (s101 25 k0 i0 2)) 25 k0 i0 4)) 14 k1 i1 4 ((up (up s101 14 k1 i1 2 (s101 25 k0 i0 2)) 14 k1 i1 3 ((up s101 14 k1 i1 2 (s101 25 k0 i0 2)) 25 k0 i0 4)) 25 k0 i0 5)) 14 k1 i1 7 2))))) :
  wpM m_Copy_fill [.inr (.inr (25, k0, i0)), .inr (.inr (14, k1, i1)), .inl x2] σ Q :=
 wpM_of ml_89 (L := [some (.inr (.inr (25, k0, i0))), some (.inr (.inr (14, k1, i1))), some (.inl x2)]) rfl
 (w_aload_n (p' := 1) f_89_0 rfl rfl
 (w_aload_n (p' := 2) f_89_1 rfl rfl
 (w_getfield (p' := 5) f_89_2 rfl (x := .inl (σ 25 k0 i0 3)) rfl rfl
 (w_iload_n (p' := 6) f_89_5 rfl rfl
 (w_callV (p' := 9) f_89_6 rfl rfl rfl rfl rfl (r := []) rfl rfl (kV rk_22 fun s101 h101 =>
 w_aload_n (p' := 10) f_89_9 rfl rfl
 (w_aload_n (p' := 11) f_89_10 rfl rfl
 (w_getfield (p' := 14) f_89_11 rfl (x := .inl (s101 25 k0 i0 2)) rfl rfl
 (w_putI (p' := 17) f_89_14 rfl rfl (c' := 2) rfl rfl
 (w_aload_n (p' := 18) f_89_17 rfl rfl
 (w_aload_n (p' := 19) f_89_18 rfl rfl
 (w_getfield (p' := 22) f_89_19 rfl (x := .inl ((up s101 14 k1 i1 2 (s101 25 k0 i0 2)) 25 k0 i0 4)) rfl rfl
 (w_putI (p' := 25) f_89_22 rfl rfl (c' := 3) rfl rfl
 (w_aload_n (p' := 26) f_89_25 rfl rfl
 (w_aload_n (p' := 27) f_89_26 rfl rfl
 (w_getfield (p' := 30) f_89_27 rfl (x := .inl ((up (up s101 14 k1 i1 2 (s101 25 k0 i0 2)) 14 k1 i1 3 ((up s101 14 k1 i1 2 (s101 25 k0 i0 2)) 25 k0 i0 4)) 25 k0 i0 5)) rfl rfl
 (w_putI (p' := 33) f_89_30 rfl rfl (c' := 4) rfl rfl
 (w_aload_n (p' := 34) f_89_33 rfl rfl
 (w_aload_n (p' := 35) f_89_34 rfl rfl
 (w_getfield (p' := 38) f_89_35 rfl (x := .inl (bz ((up (up (up s101 14 k1 i1 2 (s101 25 k0 i0 2)) 14 k1 i1 3 ((up s101 14 k1 i1 2 (s101 25 k0 i0 2)) 25 k0 i0 4)) 14 k1 i1 4 ((up (up s101 14 k1 i1 2 (s101 25 k0 i0 2)) 14 k1 i1 3 ((up s101 14 k1 i1 2 (s101 25 k0 i0 2)) 25 k0 i0 4)) 25 k0 i0 5)) 25 k0 i0 6))) rfl rfl
 (w_if (p' := 45) (q' := 41) f_89_38 rfl rfl
 (fun c102 => w_iconst (p' := 46) f_89_45 rfl
 (w_putI (p' := 49) f_89_46 rfl rfl (c' := 7) rfl rfl
 (w_vret f_89_49 rk_89 (h101.1 c102))))
 (fun c102 => w_iconst (p' := 42) f_89_41 rfl
 (w_goto (p' := 46) f_89_42 rfl
 (w_putI (p' := 49) f_89_46 rfl rfl (c' := 7) rfl rfl
 (w_vret f_89_49 rk_89 (h101.2 c102))))))))))))))))))))) h)))))
/-! ClosedRooms$Acts.loadCopy(III)I -/
theorem f_90_0 : fnd 90 0 = some (0, .aload_n 0, 1, 0, 0, 0, 0) := ceB_eq (by decide +kernel)
theorem f_90_1 : fnd 90 1 = some (1, .getfield 12, 3, 3, 0, 0, 0) := ceB_eq (by decide +kernel)
theorem f_90_4 : fnd 90 4 = some (4, .iload_n 1, 1, 0, 0, 0, 0) := ceB_eq (by decide +kernel)
theorem f_90_5 : fnd 90 5 = some (5, .invokevirtual 280, 3, 43, 2, 4, 0) := ceB_eq (by decide +kernel)
theorem f_90_8 : fnd 90 8 = some (8, .ifCond .eq 14, 3, 0, 0, 0, 0) := ceB_eq (by decide +kernel)
theorem f_90_11 : fnd 90 11 = some (11, .aload_n 0, 1, 0, 0, 0, 0) := ceB_eq (by decide +kernel)
theorem f_90_12 : fnd 90 12 = some (12, .getfield 12, 3, 3, 0, 0, 0) := ceB_eq (by decide +kernel)
theorem f_90_15 : fnd 90 15 = some (15, .iload_n 2, 1, 0, 0, 0, 0) := ceB_eq (by decide +kernel)
theorem f_90_16 : fnd 90 16 = some (16, .invokevirtual 252, 3, 35, 2, 4, 0) := ceB_eq (by decide +kernel)
theorem f_90_19 : fnd 90 19 = some (19, .ifCond .ne 9, 3, 0, 0, 0, 0) := ceB_eq (by decide +kernel)
theorem f_90_22 : fnd 90 22 = some (22, .aload_n 0, 1, 0, 0, 0, 0) := ceB_eq (by decide +kernel)
theorem f_90_23 : fnd 90 23 = some (23, .iconst 0, 1, 0, 0, 0, 0) := ceB_eq (by decide +kernel)
theorem f_90_24 : fnd 90 24 = some (24, .invokevirtual 85, 3, 53, 2, 3, 0) := ceB_eq (by decide +kernel)
theorem f_90_27 : fnd 90 27 = some (27, .ireturn, 1, 0, 0, 0, 0) := ceB_eq (by decide +kernel)
theorem f_90_28 : fnd 90 28 = some (28, .iload_n 3, 1, 0, 0, 0, 0) := ceB_eq (by decide +kernel)
theorem f_90_29 : fnd 90 29 = some (29, .ifCond .lt 8, 3, 0, 0, 0, 0) := ceB_eq (by decide +kernel)
theorem f_90_32 : fnd 90 32 = some (32, .iload_n 3, 1, 0, 0, 0, 0) := ceB_eq (by decide +kernel)
theorem f_90_33 : fnd 90 33 = some (33, .iconst 4, 1, 0, 0, 0, 0) := ceB_eq (by decide +kernel)
theorem f_90_34 : fnd 90 34 = some (34, .if_icmp .lt 9, 3, 0, 0, 0, 0) := ceB_eq (by decide +kernel)
theorem f_90_37 : fnd 90 37 = some (37, .aload_n 0, 1, 0, 0, 0, 0) := ceB_eq (by decide +kernel)
theorem f_90_38 : fnd 90 38 = some (38, .iconst 1, 1, 0, 0, 0, 0) := ceB_eq (by decide +kernel)
theorem f_90_39 : fnd 90 39 = some (39, .invokevirtual 85, 3, 53, 2, 3, 0) := ceB_eq (by decide +kernel)
theorem f_90_42 : fnd 90 42 = some (42, .ireturn, 1, 0, 0, 0, 0) := ceB_eq (by decide +kernel)
theorem f_90_43 : fnd 90 43 = some (43, .aload_n 0, 1, 0, 0, 0, 0) := ceB_eq (by decide +kernel)
theorem f_90_44 : fnd 90 44 = some (44, .getfield 12, 3, 3, 0, 0, 0) := ceB_eq (by decide +kernel)
theorem f_90_47 : fnd 90 47 = some (47, .invokevirtual 103, 3, 54, 1, 4, 0) := ceB_eq (by decide +kernel)
theorem f_90_50 : fnd 90 50 = some (50, .istore 4, 2, 0, 0, 0, 0) := ceB_eq (by decide +kernel)
theorem f_90_52 : fnd 90 52 = some (52, .iload 4, 2, 0, 0, 0, 0) := ceB_eq (by decide +kernel)
theorem f_90_54 : fnd 90 54 = some (54, .iconst (-1), 1, 0, 0, 0, 0) := ceB_eq (by decide +kernel)
theorem f_90_55 : fnd 90 55 = some (55, .if_icmp .ne 9, 3, 0, 0, 0, 0) := ceB_eq (by decide +kernel)
theorem f_90_58 : fnd 90 58 = some (58, .aload_n 0, 1, 0, 0, 0, 0) := ceB_eq (by decide +kernel)
theorem f_90_59 : fnd 90 59 = some (59, .iconst 3, 1, 0, 0, 0, 0) := ceB_eq (by decide +kernel)
theorem f_90_60 : fnd 90 60 = some (60, .invokevirtual 85, 3, 53, 2, 3, 0) := ceB_eq (by decide +kernel)
theorem f_90_63 : fnd 90 63 = some (63, .ireturn, 1, 0, 0, 0, 0) := ceB_eq (by decide +kernel)
theorem f_90_64 : fnd 90 64 = some (64, .aload_n 0, 1, 0, 0, 0, 0) := ceB_eq (by decide +kernel)
theorem f_90_65 : fnd 90 65 = some (65, .getfield 12, 3, 3, 0, 0, 0) := ceB_eq (by decide +kernel)
theorem f_90_68 : fnd 90 68 = some (68, .getfield 267, 3, 4, 8, 8, 0) := ceB_eq (by decide +kernel)
theorem f_90_71 : fnd 90 71 = some (71, .iload_n 1, 1, 0, 0, 0, 0) := ceB_eq (by decide +kernel)
theorem f_90_72 : fnd 90 72 = some (72, .aaload, 1, 0, 0, 0, 0) := ceB_eq (by decide +kernel)
theorem f_90_73 : fnd 90 73 = some (73, .astore 5, 2, 0, 0, 0, 0) := ceB_eq (by decide +kernel)
theorem f_90_75 : fnd 90 75 = some (75, .aload 5, 2, 0, 0, 0, 0) := ceB_eq (by decide +kernel)
theorem f_90_77 : fnd 90 77 = some (77, .getfield 283, 3, 9, 8, 8, 0) := ceB_eq (by decide +kernel)
theorem f_90_80 : fnd 90 80 = some (80, .ifCond .ne 25, 3, 0, 0, 0, 0) := ceB_eq (by decide +kernel)
theorem f_90_83 : fnd 90 83 = some (83, .aload_n 0, 1, 0, 0, 0, 0) := ceB_eq (by decide +kernel)
theorem f_90_84 : fnd 90 84 = some (84, .getfield 12, 3, 3, 0, 0, 0) := ceB_eq (by decide +kernel)
theorem f_90_87 : fnd 90 87 = some (87, .getfield 122, 3, 4, 5, 5, 0) := ceB_eq (by decide +kernel)
theorem f_90_90 : fnd 90 90 = some (90, .iload_n 2, 1, 0, 0, 0, 0) := ceB_eq (by decide +kernel)
theorem f_90_91 : fnd 90 91 = some (91, .aaload, 1, 0, 0, 0, 0) := ceB_eq (by decide +kernel)
theorem f_90_92 : fnd 90 92 = some (92, .getfield 258, 3, 6, 8, 8, 0) := ceB_eq (by decide +kernel)
theorem f_90_95 : fnd 90 95 = some (95, .iload_n 3, 1, 0, 0, 0, 0) := ceB_eq (by decide +kernel)
theorem f_90_96 : fnd 90 96 = some (96, .iaload, 1, 0, 0, 0, 0) := ceB_eq (by decide +kernel)
theorem f_90_97 : fnd 90 97 = some (97, .aload 5, 2, 0, 0, 0, 0) := ceB_eq (by decide +kernel)
theorem f_90_99 : fnd 90 99 = some (99, .getfield 286, 3, 9, 7, 7, 0) := ceB_eq (by decide +kernel)
theorem f_90_102 : fnd 90 102 = some (102, .if_icmp .eq 9, 3, 0, 0, 0, 0) := ceB_eq (by decide +kernel)
theorem f_90_105 : fnd 90 105 = some (105, .aload_n 0, 1, 0, 0, 0, 0) := ceB_eq (by decide +kernel)
theorem f_90_106 : fnd 90 106 = some (106, .iconst 4, 1, 0, 0, 0, 0) := ceB_eq (by decide +kernel)
theorem f_90_107 : fnd 90 107 = some (107, .invokevirtual 85, 3, 53, 2, 3, 0) := ceB_eq (by decide +kernel)
theorem f_90_110 : fnd 90 110 = some (110, .ireturn, 1, 0, 0, 0, 0) := ceB_eq (by decide +kernel)
theorem f_90_111 : fnd 90 111 = some (111, .aload_n 0, 1, 0, 0, 0, 0) := ceB_eq (by decide +kernel)
theorem f_90_112 : fnd 90 112 = some (112, .getfield 12, 3, 3, 0, 0, 0) := ceB_eq (by decide +kernel)
theorem f_90_115 : fnd 90 115 = some (115, .aload 5, 2, 0, 0, 0, 0) := ceB_eq (by decide +kernel)
theorem f_90_117 : fnd 90 117 = some (117, .getfield 289, 3, 9, 1, 1, 0) := ceB_eq (by decide +kernel)
theorem f_90_120 : fnd 90 120 = some (120, .invokevirtual 290, 3, 88, 2, 4, 0) := ceB_eq (by decide +kernel)
theorem f_90_123 : fnd 90 123 = some (123, .istore 6, 2, 0, 0, 0, 0) := ceB_eq (by decide +kernel)
theorem f_90_125 : fnd 90 125 = some (125, .iload 6, 2, 0, 0, 0, 0) := ceB_eq (by decide +kernel)
theorem f_90_127 : fnd 90 127 = some (127, .iconst (-1), 1, 0, 0, 0, 0) := ceB_eq (by decide +kernel)
theorem f_90_128 : fnd 90 128 = some (128, .if_icmp .ne 9, 3, 0, 0, 0, 0) := ceB_eq (by decide +kernel)
theorem f_90_131 : fnd 90 131 = some (131, .aload_n 0, 1, 0, 0, 0, 0) := ceB_eq (by decide +kernel)
theorem f_90_132 : fnd 90 132 = some (132, .iconst 4, 1, 0, 0, 0, 0) := ceB_eq (by decide +kernel)
theorem f_90_133 : fnd 90 133 = some (133, .invokevirtual 85, 3, 53, 2, 3, 0) := ceB_eq (by decide +kernel)
theorem f_90_136 : fnd 90 136 = some (136, .ireturn, 1, 0, 0, 0, 0) := ceB_eq (by decide +kernel)
theorem f_90_137 : fnd 90 137 = some (137, .aload_n 0, 1, 0, 0, 0, 0) := ceB_eq (by decide +kernel)
theorem f_90_138 : fnd 90 138 = some (138, .getfield 12, 3, 3, 0, 0, 0) := ceB_eq (by decide +kernel)
theorem f_90_141 : fnd 90 141 = some (141, .getfield 112, 3, 4, 6, 6, 0) := ceB_eq (by decide +kernel)
theorem f_90_144 : fnd 90 144 = some (144, .iload 6, 2, 0, 0, 0, 0) := ceB_eq (by decide +kernel)
theorem f_90_146 : fnd 90 146 = some (146, .aaload, 1, 0, 0, 0, 0) := ceB_eq (by decide +kernel)
theorem f_90_147 : fnd 90 147 = some (147, .astore 7, 2, 0, 0, 0, 0) := ceB_eq (by decide +kernel)
theorem f_90_149 : fnd 90 149 = some (149, .aload 5, 2, 0, 0, 0, 0) := ceB_eq (by decide +kernel)
theorem f_90_151 : fnd 90 151 = some (151, .getfield 293, 3, 9, 3, 3, 0) := ceB_eq (by decide +kernel)
theorem f_90_154 : fnd 90 154 = some (154, .iconst 1, 1, 0, 0, 0, 0) := ceB_eq (by decide +kernel)
theorem f_90_155 : fnd 90 155 = some (155, .if_icmp .eq 17, 3, 0, 0, 0, 0) := ceB_eq (by decide +kernel)
theorem f_90_158 : fnd 90 158 = some (158, .aload 7, 2, 0, 0, 0, 0) := ceB_eq (by decide +kernel)
theorem f_90_160 : fnd 90 160 = some (160, .getfield 187, 3, 7, 6, 6, 0) := ceB_eq (by decide +kernel)
theorem f_90_163 : fnd 90 163 = some (163, .ifCond .eq 9, 3, 0, 0, 0, 0) := ceB_eq (by decide +kernel)
theorem f_90_166 : fnd 90 166 = some (166, .aload_n 0, 1, 0, 0, 0, 0) := ceB_eq (by decide +kernel)
theorem f_90_167 : fnd 90 167 = some (167, .iconst 4, 1, 0, 0, 0, 0) := ceB_eq (by decide +kernel)
theorem f_90_168 : fnd 90 168 = some (168, .invokevirtual 85, 3, 53, 2, 3, 0) := ceB_eq (by decide +kernel)
theorem f_90_171 : fnd 90 171 = some (171, .ireturn, 1, 0, 0, 0, 0) := ceB_eq (by decide +kernel)
theorem f_90_172 : fnd 90 172 = some (172, .aload 5, 2, 0, 0, 0, 0) := ceB_eq (by decide +kernel)
theorem f_90_174 : fnd 90 174 = some (174, .aload_n 0, 1, 0, 0, 0, 0) := ceB_eq (by decide +kernel)
theorem f_90_175 : fnd 90 175 = some (175, .getfield 12, 3, 3, 0, 0, 0) := ceB_eq (by decide +kernel)
theorem f_90_178 : fnd 90 178 = some (178, .getfield 122, 3, 4, 5, 5, 0) := ceB_eq (by decide +kernel)
theorem f_90_181 : fnd 90 181 = some (181, .iload 4, 2, 0, 0, 0, 0) := ceB_eq (by decide +kernel)
theorem f_90_183 : fnd 90 183 = some (183, .aaload, 1, 0, 0, 0, 0) := ceB_eq (by decide +kernel)
theorem f_90_184 : fnd 90 184 = some (184, .iload 6, 2, 0, 0, 0, 0) := ceB_eq (by decide +kernel)
theorem f_90_186 : fnd 90 186 = some (186, .invokevirtual 294, 3, 89, 3, 9, 0) := ceB_eq (by decide +kernel)
theorem f_90_189 : fnd 90 189 = some (189, .aload 5, 2, 0, 0, 0, 0) := ceB_eq (by decide +kernel)
theorem f_90_191 : fnd 90 191 = some (191, .getfield 293, 3, 9, 3, 3, 0) := ceB_eq (by decide +kernel)
theorem f_90_194 : fnd 90 194 = some (194, .iconst 1, 1, 0, 0, 0, 0) := ceB_eq (by decide +kernel)
theorem f_90_195 : fnd 90 195 = some (195, .if_icmp .ne 12, 3, 0, 0, 0, 0) := ceB_eq (by decide +kernel)
theorem f_90_198 : fnd 90 198 = some (198, .aload 7, 2, 0, 0, 0, 0) := ceB_eq (by decide +kernel)
theorem f_90_200 : fnd 90 200 = some (200, .iconst 0, 1, 0, 0, 0, 0) := ceB_eq (by decide +kernel)
theorem f_90_201 : fnd 90 201 = some (201, .putfield 187, 3, 7, 6, 6, 0) := ceB_eq (by decide +kernel)
theorem f_90_204 : fnd 90 204 = some (204, .goto 15, 3, 0, 0, 0, 0) := ceB_eq (by decide +kernel)
theorem f_90_207 : fnd 90 207 = some (207, .aload 7, 2, 0, 0, 0, 0) := ceB_eq (by decide +kernel)
theorem f_90_209 : fnd 90 209 = some (209, .aload 5, 2, 0, 0, 0, 0) := ceB_eq (by decide +kernel)
theorem f_90_211 : fnd 90 211 = some (211, .getfield 298, 3, 9, 2, 2, 0) := ceB_eq (by decide +kernel)
theorem f_90_214 : fnd 90 214 = some (214, .iload 4, 2, 0, 0, 0, 0) := ceB_eq (by decide +kernel)
theorem f_90_216 : fnd 90 216 = some (216, .invokevirtual 153, 3, 60, 3, 7, 0) := ceB_eq (by decide +kernel)
theorem f_90_219 : fnd 90 219 = some (219, .aload_n 0, 1, 0, 0, 0, 0) := ceB_eq (by decide +kernel)
theorem f_90_220 : fnd 90 220 = some (220, .getfield 12, 3, 3, 0, 0, 0) := ceB_eq (by decide +kernel)
theorem f_90_223 : fnd 90 223 = some (223, .getfield 122, 3, 4, 5, 5, 0) := ceB_eq (by decide +kernel)
theorem f_90_226 : fnd 90 226 = some (226, .iload_n 2, 1, 0, 0, 0, 0) := ceB_eq (by decide +kernel)
theorem f_90_227 : fnd 90 227 = some (227, .aaload, 1, 0, 0, 0, 0) := ceB_eq (by decide +kernel)
theorem f_90_228 : fnd 90 228 = some (228, .getfield 258, 3, 6, 8, 8, 0) := ceB_eq (by decide +kernel)
theorem f_90_231 : fnd 90 231 = some (231, .iload_n 3, 1, 0, 0, 0, 0) := ceB_eq (by decide +kernel)
theorem f_90_232 : fnd 90 232 = some (232, .iconst 0, 1, 0, 0, 0, 0) := ceB_eq (by decide +kernel)
theorem f_90_233 : fnd 90 233 = some (233, .iastore, 1, 0, 0, 0, 0) := ceB_eq (by decide +kernel)
theorem f_90_234 : fnd 90 234 = some (234, .iload 4, 2, 0, 0, 0, 0) := ceB_eq (by decide +kernel)
theorem f_90_236 : fnd 90 236 = some (236, .ireturn, 1, 0, 0, 0, 0) := ceB_eq (by decide +kernel)
theorem rk_90 : rkm 90 = 0 := by decide +kernel
theorem ml_90 : (mth 90).2.1 = 8 := by decide +kernel
set_option maxRecDepth 100000 in
theorem T_Acts_loadCopy (k0 i0 x1 x2 x3 : Int) (σ : ST) (Q : Option AV → ST → Prop) (h :
  wpM m_World_isCopy [.inr (.inr (12, k0, 0)), .inl x1] σ (asI fun r101 s101 =>
  (((r101 = 0 : Prop) →
    wpM m_Acts_refuse [.inr (.inr (11, k0, i0)), .inl 0] s101 (asI fun r102 s102 =>
    Q (some (.inl r102)) s102)) ∧
  (¬ (r101 = 0) →
    wpM m_World_isSlots [.inr (.inr (12, k0, 0)), .inl x2] s101 (asI fun r103 s103 =>
    (((r103 ≠ 0 : Prop) →
      (((x3 < 0 : Prop) →
        wpM m_Acts_refuse [.inr (.inr (11, k0, i0)), .inl 1] s103 (asI fun r104 s104 =>
        Q (some (.inl r104)) s104)) ∧
      (¬ (x3 < 0) →
        (((x3 < 4 : Prop) →
          wpM m_World_lowestFreePage [.inr (.inr (12, k0, 0))] s103 (asI fun r105 s105 =>
          (((r105 ≠ (-1) : Prop) →
            ((0 : Int) ≤ x1 ∧ (x1 : Int) < 12) ∧
            ((((bz (s105 25 k0 x1 8)) ≠ 0 : Prop) →
              wpM m_Acts_refuse [.inr (.inr (11, k0, i0)), .inl 4] s105 (asI fun r106 s106 =>
              Q (some (.inl r106)) s106)) ∧
            (¬ ((bz (s105 25 k0 x1 8)) ≠ 0) →
              ((0 : Int) ≤ x2 ∧ (x2 : Int) < 10) ∧
              ((0 : Int) ≤ x3 ∧ (x3 : Int) < 4) ∧
              ((((s105 15 k0 x2 x3) = (s105 25 k0 x1 7) : Prop) →
                wpM m_World_roomOfSerial [.inr (.inr (12, k0, 0)), .inl (s105 25 k0 x1 1)] s105 (asI fun r107 s107 =>
                (((r107 ≠ (-1) : Prop) →
                  ((0 : Int) ≤ r107 ∧ (r107 : Int) < 4) ∧
                  ((((s107 25 k0 x1 3) = 1 : Prop) →
                    wp m_Acts_loadCopy (172, [some (.inr (.inr (11, k0, i0))), some (.inl x1), some (.inl x2), some (.inl x3), some (.inl r105), some (.inr (.inr (25, k0, x1))), some (.inl r107), some (.inr (.inr (17, k0, r107)))], [], s107) Q) ∧
                  (¬ ((s107 25 k0 x1 3) = 1) →
                    ((((bz (s107 17 k0 r107 6)) = 0 : Prop) →
                      wp m_Acts_loadCopy (172, [some (.inr (.inr (11, k0, i0))), some (.inl x1), some (.inl x2), some (.inl x3), some (.inl r105), some (.inr (.inr (25, k0, x1))), some (.inl r107), some (.inr (.inr (17, k0, r107)))], [], s107) Q) ∧
                    (¬ ((bz (s107 17 k0 r107 6)) = 0) →
                      wpM m_Acts_refuse [.inr (.inr (11, k0, i0)), .inl 4] s107 (asI fun r108 s108 =>
                      Q (some (.inl r108)) s108)))))) ∧
                (¬ (r107 ≠ (-1)) →
                  wpM m_Acts_refuse [.inr (.inr (11, k0, i0)), .inl 4] s107 (asI fun r111 s111 =>
                  Q (some (.inl r111)) s111))))) ∧
              (¬ ((s105 15 k0 x2 x3) = (s105 25 k0 x1 7)) →
                wpM m_Acts_refuse [.inr (.inr (11, k0, i0)), .inl 4] s105 (asI fun r113 s113 =>
                Q (some (.inl r113)) s113)))))) ∧
          (¬ (r105 ≠ (-1)) →
            wpM m_Acts_refuse [.inr (.inr (11, k0, i0)), .inl 3] s105 (asI fun r116 s116 =>
            Q (some (.inl r116)) s116))))) ∧
        (¬ (x3 < 4) →
          wpM m_Acts_refuse [.inr (.inr (11, k0, i0)), .inl 1] s103 (asI fun r118 s118 =>
          Q (some (.inl r118)) s118)))))) ∧
    (¬ (r103 ≠ 0) →
      wpM m_Acts_refuse [.inr (.inr (11, k0, i0)), .inl 0] s103 (asI fun r121 s121 =>
      Q (some (.inl r121)) s121)))))))) :
  wpM m_Acts_loadCopy [.inr (.inr (11, k0, i0)), .inl x1, .inl x2, .inl x3] σ Q :=
 wpM_of ml_90 (L := [some (.inr (.inr (11, k0, i0))), some (.inl x1), some (.inl x2), some (.inl x3), none, none, none, none]) rfl
 (w_aload_n (p' := 1) f_90_0 rfl rfl
 (w_getfield (p' := 4) f_90_1 rfl (x := .inr (.inr (12, k0, 0))) rfl rfl
 (w_iload_n (p' := 5) f_90_4 rfl rfl
 (w_callV (p' := 8) f_90_5 rfl rfl rfl rfl rfl (r := []) rfl rfl (kI (.inr rk_43) fun r101 s101 h101 =>
 w_if (p' := 22) (q' := 11) f_90_8 rfl rfl
 (fun c123 => w_aload_n (p' := 23) f_90_22 rfl rfl
 (w_iconst (p' := 24) f_90_23 rfl
 (w_callV (p' := 27) f_90_24 rfl rfl rfl rfl rfl (r := []) rfl rfl (kI (.inl rk_53) fun r102 s102 h102 =>
 w_iret f_90_27 rk_90 h102) (h101.1 c123))))
 (fun c123 => w_aload_n (p' := 12) f_90_11 rfl rfl
 (w_getfield (p' := 15) f_90_12 rfl (x := .inr (.inr (12, k0, 0))) rfl rfl
 (w_iload_n (p' := 16) f_90_15 rfl rfl
 (w_callV (p' := 19) f_90_16 rfl rfl rfl rfl rfl (r := []) rfl rfl (kI (.inr rk_35) fun r103 s103 h103 =>
 w_if (p' := 28) (q' := 22) f_90_19 rfl rfl
 (fun c122 => w_iload_n (p' := 29) f_90_28 rfl rfl
 (w_if (p' := 37) (q' := 32) f_90_29 rfl rfl
 (fun c120 => w_aload_n (p' := 38) f_90_37 rfl rfl
 (w_iconst (p' := 39) f_90_38 rfl
 (w_callV (p' := 42) f_90_39 rfl rfl rfl rfl rfl (r := []) rfl rfl (kI (.inl rk_53) fun r104 s104 h104 =>
 w_iret f_90_42 rk_90 h104) ((h103.1 c122).1 c120))))
 (fun c120 => w_iload_n (p' := 33) f_90_32 rfl rfl
 (w_iconst (p' := 34) f_90_33 rfl
 (w_icmp (p' := 43) (q' := 37) f_90_34 rfl rfl
 (fun c119 => w_aload_n (p' := 44) f_90_43 rfl rfl
 (w_getfield (p' := 47) f_90_44 rfl (x := .inr (.inr (12, k0, 0))) rfl rfl
 (w_callV (p' := 50) f_90_47 rfl rfl rfl rfl rfl (r := []) rfl rfl (kI (.inl rk_54) fun r105 s105 h105 =>
 w_istore (p' := 52) f_90_50 (L' := [some (.inr (.inr (11, k0, i0))), some (.inl x1), some (.inl x2), some (.inl x3), some (.inl r105), none, none, none]) rfl rfl
 (w_iload (p' := 54) f_90_52 rfl rfl
 (w_iconst (p' := 55) f_90_54 rfl
 (w_icmp (p' := 64) (q' := 58) f_90_55 rfl rfl
 (fun c117 => w_aload_n (p' := 65) f_90_64 rfl rfl
 (w_getfield (p' := 68) f_90_65 rfl (x := .inr (.inr (12, k0, 0))) rfl rfl
 (w_getfield (p' := 71) f_90_68 rfl (x := .inr (.inr (24, k0, 0))) rfl rfl
 (w_iload_n (p' := 72) f_90_71 rfl rfl
 (w_aaload (p' := 73) f_90_72 rfl (n := 12) rfl (x := (25, k0, x1)) rfl (h105.1 c117).1 rfl
 (w_astore (p' := 75) f_90_73 (L' := [some (.inr (.inr (11, k0, i0))), some (.inl x1), some (.inl x2), some (.inl x3), some (.inl r105), some (.inr (.inr (25, k0, x1))), none, none]) rfl rfl
 (w_aload (p' := 77) f_90_75 rfl rfl
 (w_getfield (p' := 80) f_90_77 rfl (x := .inl (bz (s105 25 k0 x1 8))) rfl rfl
 (w_if (p' := 105) (q' := 83) f_90_80 rfl rfl
 (fun c115 => w_aload_n (p' := 106) f_90_105 rfl rfl
 (w_iconst (p' := 107) f_90_106 rfl
 (w_callV (p' := 110) f_90_107 rfl rfl rfl rfl rfl (r := []) rfl rfl (kI (.inl rk_53) fun r106 s106 h106 =>
 w_iret f_90_110 rk_90 h106) ((h105.1 c117).2.1 c115))))
 (fun c115 => w_aload_n (p' := 84) f_90_83 rfl rfl
 (w_getfield (p' := 87) f_90_84 rfl (x := .inr (.inr (12, k0, 0))) rfl rfl
 (w_getfield (p' := 90) f_90_87 rfl (x := .inr (.inr (13, k0, 0))) rfl rfl
 (w_iload_n (p' := 91) f_90_90 rfl rfl
 (w_aaload (p' := 92) f_90_91 rfl (n := 10) rfl (x := (14, k0, x2)) rfl ((h105.1 c117).2.2 c115).1 rfl
 (w_getfield (p' := 95) f_90_92 rfl (x := .inr (.inr (15, k0, x2))) rfl rfl
 (w_iload_n (p' := 96) f_90_95 rfl rfl
 (w_iaload (p' := 97) f_90_96 rfl (n := 4) rfl ((h105.1 c117).2.2 c115).2.1 rfl
 (w_aload (p' := 99) f_90_97 rfl rfl
 (w_getfield (p' := 102) f_90_99 rfl (x := .inl (s105 25 k0 x1 7)) rfl rfl
 (w_icmp (p' := 111) (q' := 105) f_90_102 rfl rfl
 (fun c114 => w_aload_n (p' := 112) f_90_111 rfl rfl
 (w_getfield (p' := 115) f_90_112 rfl (x := .inr (.inr (12, k0, 0))) rfl rfl
 (w_aload (p' := 117) f_90_115 rfl rfl
 (w_getfield (p' := 120) f_90_117 rfl (x := .inl (s105 25 k0 x1 1)) rfl rfl
 (w_callV (p' := 123) f_90_120 rfl rfl rfl rfl rfl (r := []) rfl rfl (kI (.inl rk_88) fun r107 s107 h107 =>
 w_istore (p' := 125) f_90_123 (L' := [some (.inr (.inr (11, k0, i0))), some (.inl x1), some (.inl x2), some (.inl x3), some (.inl r105), some (.inr (.inr (25, k0, x1))), some (.inl r107), none]) rfl rfl
 (w_iload (p' := 127) f_90_125 rfl rfl
 (w_iconst (p' := 128) f_90_127 rfl
 (w_icmp (p' := 137) (q' := 131) f_90_128 rfl rfl
 (fun c112 => w_aload_n (p' := 138) f_90_137 rfl rfl
 (w_getfield (p' := 141) f_90_138 rfl (x := .inr (.inr (12, k0, 0))) rfl rfl
 (w_getfield (p' := 144) f_90_141 rfl (x := .inr (.inr (16, k0, 0))) rfl rfl
 (w_iload (p' := 146) f_90_144 rfl rfl
 (w_aaload (p' := 147) f_90_146 rfl (n := 4) rfl (x := (17, k0, r107)) rfl (h107.1 c112).1 rfl
 (w_astore (p' := 149) f_90_147 (L' := [some (.inr (.inr (11, k0, i0))), some (.inl x1), some (.inl x2), some (.inl x3), some (.inl r105), some (.inr (.inr (25, k0, x1))), some (.inl r107), some (.inr (.inr (17, k0, r107)))]) rfl rfl
 (w_aload (p' := 151) f_90_149 rfl rfl
 (w_getfield (p' := 154) f_90_151 rfl (x := .inl (s107 25 k0 x1 3)) rfl rfl
 (w_iconst (p' := 155) f_90_154 rfl
 (w_icmp (p' := 172) (q' := 158) f_90_155 rfl rfl
 (fun c110 => ((h107.1 c112).2.1 c110))
 (fun c110 => w_aload (p' := 160) f_90_158 rfl rfl
 (w_getfield (p' := 163) f_90_160 rfl (x := .inl (bz (s107 17 k0 r107 6))) rfl rfl
 (w_if (p' := 172) (q' := 166) f_90_163 rfl rfl
 (fun c109 => (((h107.1 c112).2.2 c110).1 c109))
 (fun c109 => w_aload_n (p' := 167) f_90_166 rfl rfl
 (w_iconst (p' := 168) f_90_167 rfl
 (w_callV (p' := 171) f_90_168 rfl rfl rfl rfl rfl (r := []) rfl rfl (kI (.inl rk_53) fun r108 s108 h108 =>
 w_iret f_90_171 rk_90 h108) (((h107.1 c112).2.2 c110).2 c109)))))))))))))))))
 (fun c112 => w_aload_n (p' := 132) f_90_131 rfl rfl
 (w_iconst (p' := 133) f_90_132 rfl
 (w_callV (p' := 136) f_90_133 rfl rfl rfl rfl rfl (r := []) rfl rfl (kI (.inl rk_53) fun r111 s111 h111 =>
 w_iret f_90_136 rk_90 h111) (h107.2 c112)))))))) (((h105.1 c117).2.2 c115).2.2.1 c114))))))
 (fun c114 => w_aload_n (p' := 106) f_90_105 rfl rfl
 (w_iconst (p' := 107) f_90_106 rfl
 (w_callV (p' := 110) f_90_107 rfl rfl rfl rfl rfl (r := []) rfl rfl (kI (.inl rk_53) fun r113 s113 h113 =>
 w_iret f_90_110 rk_90 h113) (((h105.1 c117).2.2 c115).2.2.2 c114))))))))))))))))))))))))
 (fun c117 => w_aload_n (p' := 59) f_90_58 rfl rfl
 (w_iconst (p' := 60) f_90_59 rfl
 (w_callV (p' := 63) f_90_60 rfl rfl rfl rfl rfl (r := []) rfl rfl (kI (.inl rk_53) fun r116 s116 h116 =>
 w_iret f_90_63 rk_90 h116) (h105.2 c117)))))))) (((h103.1 c122).2 c120).1 c119))))
 (fun c119 => w_aload_n (p' := 38) f_90_37 rfl rfl
 (w_iconst (p' := 39) f_90_38 rfl
 (w_callV (p' := 42) f_90_39 rfl rfl rfl rfl rfl (r := []) rfl rfl (kI (.inl rk_53) fun r118 s118 h118 =>
 w_iret f_90_42 rk_90 h118) (((h103.1 c122).2 c120).2 c119)))))))))
 (fun c122 => w_aload_n (p' := 23) f_90_22 rfl rfl
 (w_iconst (p' := 24) f_90_23 rfl
 (w_callV (p' := 27) f_90_24 rfl rfl rfl rfl rfl (r := []) rfl rfl (kI (.inl rk_53) fun r121 s121 h121 =>
 w_iret f_90_27 rk_90 h121) (h103.2 c122))))) (h101.2 c123)))))) h))))
set_option maxRecDepth 100000 in
theorem T_Acts_loadCopy_172 (k0 i0 x2 x3 x4 k5 i5 x6 k7 i7 : Int) (o1 : Option AV) (σ : ST) (Q : Option AV → ST → Prop) (h :
  ((0 : Int) ≤ x4 ∧ (x4 : Int) < 10) ∧
  wpM m_Copy_fill [.inr (.inr (25, k5, i5)), .inr (.inr (14, k0, x4)), .inl x6] σ (asV fun s101 =>
  ((((s101 25 k5 i5 3) ≠ 1 : Prop) →
    wpM m_Room_settle [.inr (.inr (17, k7, i7)), .inl (s101 25 k5 i5 2), .inl x4] s101 (asV fun s102 =>
    wp m_Acts_loadCopy (219, [some (.inr (.inr (11, k0, i0))), o1, some (.inl x2), some (.inl x3), some (.inl x4), some (.inr (.inr (25, k5, i5))), some (.inl x6), some (.inr (.inr (17, k7, i7)))], [], s102) Q)) ∧
  (¬ ((s101 25 k5 i5 3) ≠ 1) →
    ((0 : Int) = 0 ∨ (0 : Int) = 1) ∧
    wp m_Acts_loadCopy (219, [some (.inr (.inr (11, k0, i0))), o1, some (.inl x2), some (.inl x3), some (.inl x4), some (.inr (.inr (25, k5, i5))), some (.inl x6), some (.inr (.inr (17, k7, i7)))], [], (up s101 17 k7 i7 6 0)) Q)))) :
  wp m_Acts_loadCopy (172, [some (.inr (.inr (11, k0, i0))), o1, some (.inl x2), some (.inl x3), some (.inl x4), some (.inr (.inr (25, k5, i5))), some (.inl x6), some (.inr (.inr (17, k7, i7)))], [], σ) Q :=
 w_aload (p' := 174) f_90_172 rfl rfl
 (w_aload_n (p' := 175) f_90_174 rfl rfl
 (w_getfield (p' := 178) f_90_175 rfl (x := .inr (.inr (12, k0, 0))) rfl rfl
 (w_getfield (p' := 181) f_90_178 rfl (x := .inr (.inr (13, k0, 0))) rfl rfl
 (w_iload (p' := 183) f_90_181 rfl rfl
 (w_aaload (p' := 184) f_90_183 rfl (n := 10) rfl (x := (14, k0, x4)) rfl h.1 rfl
 (w_iload (p' := 186) f_90_184 rfl rfl
 (w_callV (p' := 189) f_90_186 rfl rfl rfl rfl rfl (r := []) rfl rfl (kV rk_89 fun s101 h101 =>
 w_aload (p' := 191) f_90_189 rfl rfl
 (w_getfield (p' := 194) f_90_191 rfl (x := .inl (s101 25 k5 i5 3)) rfl rfl
 (w_iconst (p' := 195) f_90_194 rfl
 (w_icmp (p' := 207) (q' := 198) f_90_195 rfl rfl
 (fun c103 => w_aload (p' := 209) f_90_207 rfl rfl
 (w_aload (p' := 211) f_90_209 rfl rfl
 (w_getfield (p' := 214) f_90_211 rfl (x := .inl (s101 25 k5 i5 2)) rfl rfl
 (w_iload (p' := 216) f_90_214 rfl rfl
 (w_callV (p' := 219) f_90_216 rfl rfl rfl rfl rfl (r := []) rfl rfl (kV rk_60 fun s102 h102 =>
 h102) (h101.1 c103))))))
 (fun c103 => w_aload (p' := 200) f_90_198 rfl rfl
 (w_iconst (p' := 201) f_90_200 rfl
 (w_putZ (p' := 204) f_90_201 rfl rfl (c' := 6) rfl (h101.2 c103).1 rfl
 (w_goto (p' := 219) f_90_204 rfl
 ((h101.2 c103).2))))))))) h.2)))))))
set_option maxRecDepth 100000 in
theorem T_Acts_loadCopy_219 (k0 i0 x2 x3 x4 : Int) (o1 o5 o6 o7 : Option AV) (σ : ST) (Q : Option AV → ST → Prop) (h :
  ((0 : Int) ≤ x2 ∧ (x2 : Int) < 10) ∧
  ((0 : Int) ≤ x3 ∧ (x3 : Int) < 4) ∧
  Q (some (.inl x4)) (up σ 15 k0 x2 x3 0)) :
  wp m_Acts_loadCopy (219, [some (.inr (.inr (11, k0, i0))), o1, some (.inl x2), some (.inl x3), some (.inl x4), o5, o6, o7], [], σ) Q :=
 w_aload_n (p' := 220) f_90_219 rfl rfl
 (w_getfield (p' := 223) f_90_220 rfl (x := .inr (.inr (12, k0, 0))) rfl rfl
 (w_getfield (p' := 226) f_90_223 rfl (x := .inr (.inr (13, k0, 0))) rfl rfl
 (w_iload_n (p' := 227) f_90_226 rfl rfl
 (w_aaload (p' := 228) f_90_227 rfl (n := 10) rfl (x := (14, k0, x2)) rfl h.1 rfl
 (w_getfield (p' := 231) f_90_228 rfl (x := .inr (.inr (15, k0, x2))) rfl rfl
 (w_iload_n (p' := 232) f_90_231 rfl rfl
 (w_iconst (p' := 233) f_90_232 rfl
 (w_iastore (p' := 234) f_90_233 rfl (n := 4) rfl h.2.1 rfl
 (w_iload (p' := 236) f_90_234 rfl rfl
 (w_iret f_90_236 rk_90 h.2.2))))))))))
/-! ClosedRooms$Page.emptySlots()I -/
theorem f_91_0 : fnd 91 0 = some (0, .iconst 0, 1, 0, 0, 0, 0) := ceB_eq (by decide +kernel)
theorem f_91_1 : fnd 91 1 = some (1, .istore_n 1, 1, 0, 0, 0, 0) := ceB_eq (by decide +kernel)
theorem f_91_2 : fnd 91 2 = some (2, .iconst 0, 1, 0, 0, 0, 0) := ceB_eq (by decide +kernel)
theorem f_91_3 : fnd 91 3 = some (3, .istore_n 2, 1, 0, 0, 0, 0) := ceB_eq (by decide +kernel)
theorem f_91_4 : fnd 91 4 = some (4, .iload_n 2, 1, 0, 0, 0, 0) := ceB_eq (by decide +kernel)
theorem f_91_5 : fnd 91 5 = some (5, .iconst 4, 1, 0, 0, 0, 0) := ceB_eq (by decide +kernel)
theorem f_91_6 : fnd 91 6 = some (6, .if_icmp .ge 21, 3, 0, 0, 0, 0) := ceB_eq (by decide +kernel)
theorem f_91_9 : fnd 91 9 = some (9, .aload_n 0, 1, 0, 0, 0, 0) := ceB_eq (by decide +kernel)
theorem f_91_10 : fnd 91 10 = some (10, .getfield 9, 3, 6, 8, 8, 0) := ceB_eq (by decide +kernel)
theorem f_91_13 : fnd 91 13 = some (13, .iload_n 2, 1, 0, 0, 0, 0) := ceB_eq (by decide +kernel)
theorem f_91_14 : fnd 91 14 = some (14, .iaload, 1, 0, 0, 0, 0) := ceB_eq (by decide +kernel)
theorem f_91_15 : fnd 91 15 = some (15, .ifCond .ne 6, 3, 0, 0, 0, 0) := ceB_eq (by decide +kernel)
theorem f_91_18 : fnd 91 18 = some (18, .iinc 1 1, 3, 0, 0, 0, 0) := ceB_eq (by decide +kernel)
theorem f_91_21 : fnd 91 21 = some (21, .iinc 2 1, 3, 0, 0, 0, 0) := ceB_eq (by decide +kernel)
theorem f_91_24 : fnd 91 24 = some (24, .goto (-20), 3, 0, 0, 0, 0) := ceB_eq (by decide +kernel)
theorem f_91_27 : fnd 91 27 = some (27, .iload_n 1, 1, 0, 0, 0, 0) := ceB_eq (by decide +kernel)
theorem f_91_28 : fnd 91 28 = some (28, .ireturn, 1, 0, 0, 0, 0) := ceB_eq (by decide +kernel)
theorem rk_91 : rkm 91 = 0 := by decide +kernel
theorem ml_91 : (mth 91).2.1 = 3 := by decide +kernel
set_option maxRecDepth 100000 in
theorem T_Page_emptySlots (k0 i0 : Int) (σ : ST) (Q : Option AV → ST → Prop) (h :
  wp m_Page_emptySlots (4, [some (.inr (.inr (14, k0, i0))), some (.inl 0), some (.inl 0)], [], σ) Q) :
  wpM m_Page_emptySlots [.inr (.inr (14, k0, i0))] σ Q :=
 wpM_of ml_91 (L := [some (.inr (.inr (14, k0, i0))), none, none]) rfl
 (w_iconst (p' := 1) f_91_0 rfl
 (w_istore_n (p' := 2) f_91_1 (L' := [some (.inr (.inr (14, k0, i0))), some (.inl 0), none]) rfl rfl
 (w_iconst (p' := 3) f_91_2 rfl
 (w_istore_n (p' := 4) f_91_3 (L' := [some (.inr (.inr (14, k0, i0))), some (.inl 0), some (.inl 0)]) rfl rfl
 (h)))))
set_option maxRecDepth 100000 in
theorem T_Page_emptySlots_4 (k0 i0 x1 x2 : Int) (σ : ST) (Q : Option AV → ST → Prop) (h :
  (((4 ≤ x2 : Prop) →
    Q (some (.inl x1)) σ) ∧
  (¬ (4 ≤ x2) →
    ((0 : Int) ≤ x2 ∧ (x2 : Int) < 4) ∧
    ((((σ 15 k0 i0 x2) ≠ 0 : Prop) →
      wp m_Page_emptySlots (4, [some (.inr (.inr (14, k0, i0))), some (.inl x1), some (.inl (wr (x2 + 1)))], [], σ) Q) ∧
    (¬ ((σ 15 k0 i0 x2) ≠ 0) →
      wp m_Page_emptySlots (4, [some (.inr (.inr (14, k0, i0))), some (.inl (wr (x1 + 1))), some (.inl (wr (x2 + 1)))], [], σ) Q))))) :
  wp m_Page_emptySlots (4, [some (.inr (.inr (14, k0, i0))), some (.inl x1), some (.inl x2)], [], σ) Q :=
 w_iload_n (p' := 5) f_91_4 rfl rfl
 (w_iconst (p' := 6) f_91_5 rfl
 (w_icmp (p' := 27) (q' := 9) f_91_6 rfl rfl
 (fun c102 => w_iload_n (p' := 28) f_91_27 rfl rfl
 (w_iret f_91_28 rk_91 (h.1 c102)))
 (fun c102 => w_aload_n (p' := 10) f_91_9 rfl rfl
 (w_getfield (p' := 13) f_91_10 rfl (x := .inr (.inr (15, k0, i0))) rfl rfl
 (w_iload_n (p' := 14) f_91_13 rfl rfl
 (w_iaload (p' := 15) f_91_14 rfl (n := 4) rfl (h.2 c102).1 rfl
 (w_if (p' := 21) (q' := 18) f_91_15 rfl rfl
 (fun c101 => w_iinc (p' := 24) f_91_21 rfl (L' := [some (.inr (.inr (14, k0, i0))), some (.inl x1), some (.inl (wr (x2 + 1)))]) rfl rfl
 (w_goto (p' := 4) f_91_24 rfl
 (((h.2 c102).2.1 c101))))
 (fun c101 => w_iinc (p' := 21) f_91_18 rfl (L' := [some (.inr (.inr (14, k0, i0))), some (.inl (wr (x1 + 1))), some (.inl x2)]) rfl rfl
 (w_iinc (p' := 24) f_91_21 rfl (L' := [some (.inr (.inr (14, k0, i0))), some (.inl (wr (x1 + 1))), some (.inl (wr (x2 + 1)))]) rfl rfl
 (w_goto (p' := 4) f_91_24 rfl
 (((h.2 c102).2.2 c101))))))))))))
/-! ClosedRooms$Acts.removePage(I)I -/
theorem f_92_0 : fnd 92 0 = some (0, .aload_n 0, 1, 0, 0, 0, 0) := ceB_eq (by decide +kernel)
theorem f_92_1 : fnd 92 1 = some (1, .getfield 12, 3, 3, 0, 0, 0) := ceB_eq (by decide +kernel)
theorem f_92_4 : fnd 92 4 = some (4, .iload_n 1, 1, 0, 0, 0, 0) := ceB_eq (by decide +kernel)
theorem f_92_5 : fnd 92 5 = some (5, .invokevirtual 240, 3, 77, 2, 4, 0) := ceB_eq (by decide +kernel)
theorem f_92_8 : fnd 92 8 = some (8, .ifCond .ne 9, 3, 0, 0, 0, 0) := ceB_eq (by decide +kernel)
theorem f_92_11 : fnd 92 11 = some (11, .aload_n 0, 1, 0, 0, 0, 0) := ceB_eq (by decide +kernel)
theorem f_92_12 : fnd 92 12 = some (12, .iconst 0, 1, 0, 0, 0, 0) := ceB_eq (by decide +kernel)
theorem f_92_13 : fnd 92 13 = some (13, .invokevirtual 85, 3, 53, 2, 3, 0) := ceB_eq (by decide +kernel)
theorem f_92_16 : fnd 92 16 = some (16, .ireturn, 1, 0, 0, 0, 0) := ceB_eq (by decide +kernel)
theorem f_92_17 : fnd 92 17 = some (17, .aload_n 0, 1, 0, 0, 0, 0) := ceB_eq (by decide +kernel)
theorem f_92_18 : fnd 92 18 = some (18, .getfield 12, 3, 3, 0, 0, 0) := ceB_eq (by decide +kernel)
theorem f_92_21 : fnd 92 21 = some (21, .getfield 122, 3, 4, 5, 5, 0) := ceB_eq (by decide +kernel)
theorem f_92_24 : fnd 92 24 = some (24, .iload_n 1, 1, 0, 0, 0, 0) := ceB_eq (by decide +kernel)
theorem f_92_25 : fnd 92 25 = some (25, .aaload, 1, 0, 0, 0, 0) := ceB_eq (by decide +kernel)
theorem f_92_26 : fnd 92 26 = some (26, .astore_n 2, 1, 0, 0, 0, 0) := ceB_eq (by decide +kernel)
theorem f_92_27 : fnd 92 27 = some (27, .aload_n 2, 1, 0, 0, 0, 0) := ceB_eq (by decide +kernel)
theorem f_92_28 : fnd 92 28 = some (28, .getfield 197, 3, 6, 0, 0, 0) := ceB_eq (by decide +kernel)
theorem f_92_31 : fnd 92 31 = some (31, .istore_n 3, 1, 0, 0, 0, 0) := ceB_eq (by decide +kernel)
theorem f_92_32 : fnd 92 32 = some (32, .iload_n 3, 1, 0, 0, 0, 0) := ceB_eq (by decide +kernel)
theorem f_92_33 : fnd 92 33 = some (33, .iconst 4, 1, 0, 0, 0, 0) := ceB_eq (by decide +kernel)
theorem f_92_34 : fnd 92 34 = some (34, .if_icmp .ne 17, 3, 0, 0, 0, 0) := ceB_eq (by decide +kernel)
theorem f_92_37 : fnd 92 37 = some (37, .aload_n 2, 1, 0, 0, 0, 0) := ceB_eq (by decide +kernel)
theorem f_92_38 : fnd 92 38 = some (38, .invokevirtual 299, 3, 91, 1, 6, 0) := ceB_eq (by decide +kernel)
theorem f_92_41 : fnd 92 41 = some (41, .iconst 4, 1, 0, 0, 0, 0) := ceB_eq (by decide +kernel)
theorem f_92_42 : fnd 92 42 = some (42, .if_icmp .ge 9, 3, 0, 0, 0, 0) := ceB_eq (by decide +kernel)
theorem f_92_45 : fnd 92 45 = some (45, .aload_n 0, 1, 0, 0, 0, 0) := ceB_eq (by decide +kernel)
theorem f_92_46 : fnd 92 46 = some (46, .iconst 2, 1, 0, 0, 0, 0) := ceB_eq (by decide +kernel)
theorem f_92_47 : fnd 92 47 = some (47, .invokevirtual 85, 3, 53, 2, 3, 0) := ceB_eq (by decide +kernel)
theorem f_92_50 : fnd 92 50 = some (50, .ireturn, 1, 0, 0, 0, 0) := ceB_eq (by decide +kernel)
theorem f_92_51 : fnd 92 51 = some (51, .aload_n 2, 1, 0, 0, 0, 0) := ceB_eq (by decide +kernel)
theorem f_92_52 : fnd 92 52 = some (52, .invokevirtual 302, 3, 33, 1, 6, 0) := ceB_eq (by decide +kernel)
theorem f_92_55 : fnd 92 55 = some (55, .ifCond .eq 26, 3, 0, 0, 0, 0) := ceB_eq (by decide +kernel)
theorem f_92_58 : fnd 92 58 = some (58, .aload_n 0, 1, 0, 0, 0, 0) := ceB_eq (by decide +kernel)
theorem f_92_59 : fnd 92 59 = some (59, .getfield 12, 3, 3, 0, 0, 0) := ceB_eq (by decide +kernel)
theorem f_92_62 : fnd 92 62 = some (62, .aload_n 2, 1, 0, 0, 0, 0) := ceB_eq (by decide +kernel)
theorem f_92_63 : fnd 92 63 = some (63, .getfield 245, 3, 6, 1, 1, 0) := ceB_eq (by decide +kernel)
theorem f_92_66 : fnd 92 66 = some (66, .ldc_w 305, 3, 0, 0, 0, 2147483647) := ceB_eq (by decide +kernel)
theorem f_92_69 : fnd 92 69 = some (69, .invokevirtual 249, 3, 80, 3, 4, 0) := ceB_eq (by decide +kernel)
theorem f_92_72 : fnd 92 72 = some (72, .ifCond .eq 9, 3, 0, 0, 0, 0) := ceB_eq (by decide +kernel)
theorem f_92_75 : fnd 92 75 = some (75, .aload_n 0, 1, 0, 0, 0, 0) := ceB_eq (by decide +kernel)
theorem f_92_76 : fnd 92 76 = some (76, .iconst 2, 1, 0, 0, 0, 0) := ceB_eq (by decide +kernel)
theorem f_92_77 : fnd 92 77 = some (77, .invokevirtual 85, 3, 53, 2, 3, 0) := ceB_eq (by decide +kernel)
theorem f_92_80 : fnd 92 80 = some (80, .ireturn, 1, 0, 0, 0, 0) := ceB_eq (by decide +kernel)
theorem f_92_81 : fnd 92 81 = some (81, .iload_n 3, 1, 0, 0, 0, 0) := ceB_eq (by decide +kernel)
theorem f_92_82 : fnd 92 82 = some (82, .iconst 1, 1, 0, 0, 0, 0) := ceB_eq (by decide +kernel)
theorem f_92_83 : fnd 92 83 = some (83, .if_icmp .ne 24, 3, 0, 0, 0, 0) := ceB_eq (by decide +kernel)
theorem f_92_86 : fnd 92 86 = some (86, .aload_n 0, 1, 0, 0, 0, 0) := ceB_eq (by decide +kernel)
theorem f_92_87 : fnd 92 87 = some (87, .getfield 12, 3, 3, 0, 0, 0) := ceB_eq (by decide +kernel)
theorem f_92_90 : fnd 92 90 = some (90, .aload_n 2, 1, 0, 0, 0, 0) := ceB_eq (by decide +kernel)
theorem f_92_91 : fnd 92 91 = some (91, .getfield 245, 3, 6, 1, 1, 0) := ceB_eq (by decide +kernel)
theorem f_92_94 : fnd 92 94 = some (94, .invokevirtual 306, 3, 82, 2, 4, 0) := ceB_eq (by decide +kernel)
theorem f_92_97 : fnd 92 97 = some (97, .iconst 1, 1, 0, 0, 0, 0) := ceB_eq (by decide +kernel)
theorem f_92_98 : fnd 92 98 = some (98, .if_icmp .le 9, 3, 0, 0, 0, 0) := ceB_eq (by decide +kernel)
theorem f_92_101 : fnd 92 101 = some (101, .aload_n 0, 1, 0, 0, 0, 0) := ceB_eq (by decide +kernel)
theorem f_92_102 : fnd 92 102 = some (102, .iconst 2, 1, 0, 0, 0, 0) := ceB_eq (by decide +kernel)
theorem f_92_103 : fnd 92 103 = some (103, .invokevirtual 85, 3, 53, 2, 3, 0) := ceB_eq (by decide +kernel)
theorem f_92_106 : fnd 92 106 = some (106, .ireturn, 1, 0, 0, 0, 0) := ceB_eq (by decide +kernel)
theorem f_92_107 : fnd 92 107 = some (107, .aload_n 0, 1, 0, 0, 0, 0) := ceB_eq (by decide +kernel)
theorem f_92_108 : fnd 92 108 = some (108, .getfield 12, 3, 3, 0, 0, 0) := ceB_eq (by decide +kernel)
theorem f_92_111 : fnd 92 111 = some (111, .aload_n 2, 1, 0, 0, 0, 0) := ceB_eq (by decide +kernel)
theorem f_92_112 : fnd 92 112 = some (112, .getfield 245, 3, 6, 1, 1, 0) := ceB_eq (by decide +kernel)
theorem f_92_115 : fnd 92 115 = some (115, .invokevirtual 129, 3, 37, 2, 4, 0) := ceB_eq (by decide +kernel)
theorem f_92_118 : fnd 92 118 = some (118, .ifCond .eq 47, 3, 0, 0, 0, 0) := ceB_eq (by decide +kernel)
theorem f_92_121 : fnd 92 121 = some (121, .iload_n 3, 1, 0, 0, 0, 0) := ceB_eq (by decide +kernel)
theorem f_92_122 : fnd 92 122 = some (122, .iconst 1, 1, 0, 0, 0, 0) := ceB_eq (by decide +kernel)
theorem f_92_123 : fnd 92 123 = some (123, .if_icmp .ne 22, 3, 0, 0, 0, 0) := ceB_eq (by decide +kernel)
theorem f_92_126 : fnd 92 126 = some (126, .aload_n 0, 1, 0, 0, 0, 0) := ceB_eq (by decide +kernel)
theorem f_92_127 : fnd 92 127 = some (127, .getfield 12, 3, 3, 0, 0, 0) := ceB_eq (by decide +kernel)
theorem f_92_130 : fnd 92 130 = some (130, .getfield 112, 3, 4, 6, 6, 0) := ceB_eq (by decide +kernel)
theorem f_92_133 : fnd 92 133 = some (133, .aload_n 2, 1, 0, 0, 0, 0) := ceB_eq (by decide +kernel)
theorem f_92_134 : fnd 92 134 = some (134, .getfield 245, 3, 6, 1, 1, 0) := ceB_eq (by decide +kernel)
theorem f_92_137 : fnd 92 137 = some (137, .aaload, 1, 0, 0, 0, 0) := ceB_eq (by decide +kernel)
theorem f_92_138 : fnd 92 138 = some (138, .iconst 0, 1, 0, 0, 0, 0) := ceB_eq (by decide +kernel)
theorem f_92_139 : fnd 92 139 = some (139, .putfield 309, 3, 7, 0, 0, 0) := ceB_eq (by decide +kernel)
theorem f_92_142 : fnd 92 142 = some (142, .goto 23, 3, 0, 0, 0, 0) := ceB_eq (by decide +kernel)
theorem f_92_145 : fnd 92 145 = some (145, .aload_n 0, 1, 0, 0, 0, 0) := ceB_eq (by decide +kernel)
theorem f_92_146 : fnd 92 146 = some (146, .getfield 12, 3, 3, 0, 0, 0) := ceB_eq (by decide +kernel)
theorem f_92_149 : fnd 92 149 = some (149, .getfield 112, 3, 4, 6, 6, 0) := ceB_eq (by decide +kernel)
theorem f_92_152 : fnd 92 152 = some (152, .aload_n 2, 1, 0, 0, 0, 0) := ceB_eq (by decide +kernel)
theorem f_92_153 : fnd 92 153 = some (153, .getfield 245, 3, 6, 1, 1, 0) := ceB_eq (by decide +kernel)
theorem f_92_156 : fnd 92 156 = some (156, .aaload, 1, 0, 0, 0, 0) := ceB_eq (by decide +kernel)
theorem f_92_157 : fnd 92 157 = some (157, .aload_n 2, 1, 0, 0, 0, 0) := ceB_eq (by decide +kernel)
theorem f_92_158 : fnd 92 158 = some (158, .getfield 144, 3, 6, 2, 2, 0) := ceB_eq (by decide +kernel)
theorem f_92_161 : fnd 92 161 = some (161, .iconst 0, 1, 0, 0, 0, 0) := ceB_eq (by decide +kernel)
theorem f_92_162 : fnd 92 162 = some (162, .invokevirtual 277, 3, 86, 3, 7, 0) := ceB_eq (by decide +kernel)
theorem f_92_165 : fnd 92 165 = some (165, .aload_n 2, 1, 0, 0, 0, 0) := ceB_eq (by decide +kernel)
theorem f_92_166 : fnd 92 166 = some (166, .iconst 0, 1, 0, 0, 0, 0) := ceB_eq (by decide +kernel)
theorem f_92_167 : fnd 92 167 = some (167, .iconst (-1), 1, 0, 0, 0, 0) := ceB_eq (by decide +kernel)
theorem f_92_168 : fnd 92 168 = some (168, .invokevirtual 126, 3, 22, 3, 6, 0) := ceB_eq (by decide +kernel)
theorem f_92_171 : fnd 92 171 = some (171, .iload_n 3, 1, 0, 0, 0, 0) := ceB_eq (by decide +kernel)
theorem f_92_172 : fnd 92 172 = some (172, .ireturn, 1, 0, 0, 0, 0) := ceB_eq (by decide +kernel)
theorem rk_92 : rkm 92 = 0 := by decide +kernel
theorem ml_92 : (mth 92).2.1 = 4 := by decide +kernel
set_option maxRecDepth 100000 in
theorem T_Acts_removePage (k0 i0 x1 : Int) (σ : ST) (Q : Option AV → ST → Prop) (h :
  wpM m_World_isFilled [.inr (.inr (12, k0, 0)), .inl x1] σ (asI fun r101 s101 =>
  (((r101 ≠ 0 : Prop) →
    ((0 : Int) ≤ x1 ∧ (x1 : Int) < 10) ∧
    ((((s101 14 k0 x1 0) ≠ 4 : Prop) →
      wp m_Acts_removePage (51, [some (.inr (.inr (11, k0, i0))), some (.inl x1), some (.inr (.inr (14, k0, x1))), some (.inl (s101 14 k0 x1 0))], [], s101) Q) ∧
    (¬ ((s101 14 k0 x1 0) ≠ 4) →
      wpM m_Page_emptySlots [.inr (.inr (14, k0, x1))] s101 (asI fun r102 s102 =>
      (((4 ≤ r102 : Prop) →
        wp m_Acts_removePage (51, [some (.inr (.inr (11, k0, i0))), some (.inl x1), some (.inr (.inr (14, k0, x1))), some (.inl (s101 14 k0 x1 0))], [], s102) Q) ∧
      (¬ (4 ≤ r102) →
        wpM m_Acts_refuse [.inr (.inr (11, k0, i0)), .inl 2] s102 (asI fun r103 s103 =>
        Q (some (.inl r103)) s103))))))) ∧
  (¬ (r101 ≠ 0) →
    wpM m_Acts_refuse [.inr (.inr (11, k0, i0)), .inl 0] s101 (asI fun r106 s106 =>
    Q (some (.inl r106)) s106))))) :
  wpM m_Acts_removePage [.inr (.inr (11, k0, i0)), .inl x1] σ Q :=
 wpM_of ml_92 (L := [some (.inr (.inr (11, k0, i0))), some (.inl x1), none, none]) rfl
 (w_aload_n (p' := 1) f_92_0 rfl rfl
 (w_getfield (p' := 4) f_92_1 rfl (x := .inr (.inr (12, k0, 0))) rfl rfl
 (w_iload_n (p' := 5) f_92_4 rfl rfl
 (w_callV (p' := 8) f_92_5 rfl rfl rfl rfl rfl (r := []) rfl rfl (kI (.inr rk_77) fun r101 s101 h101 =>
 w_if (p' := 17) (q' := 11) f_92_8 rfl rfl
 (fun c107 => w_aload_n (p' := 18) f_92_17 rfl rfl
 (w_getfield (p' := 21) f_92_18 rfl (x := .inr (.inr (12, k0, 0))) rfl rfl
 (w_getfield (p' := 24) f_92_21 rfl (x := .inr (.inr (13, k0, 0))) rfl rfl
 (w_iload_n (p' := 25) f_92_24 rfl rfl
 (w_aaload (p' := 26) f_92_25 rfl (n := 10) rfl (x := (14, k0, x1)) rfl (h101.1 c107).1 rfl
 (w_astore_n (p' := 27) f_92_26 (L' := [some (.inr (.inr (11, k0, i0))), some (.inl x1), some (.inr (.inr (14, k0, x1))), none]) rfl rfl
 (w_aload_n (p' := 28) f_92_27 rfl rfl
 (w_getfield (p' := 31) f_92_28 rfl (x := .inl (s101 14 k0 x1 0)) rfl rfl
 (w_istore_n (p' := 32) f_92_31 (L' := [some (.inr (.inr (11, k0, i0))), some (.inl x1), some (.inr (.inr (14, k0, x1))), some (.inl (s101 14 k0 x1 0))]) rfl rfl
 (w_iload_n (p' := 33) f_92_32 rfl rfl
 (w_iconst (p' := 34) f_92_33 rfl
 (w_icmp (p' := 51) (q' := 37) f_92_34 rfl rfl
 (fun c105 => ((h101.1 c107).2.1 c105))
 (fun c105 => w_aload_n (p' := 38) f_92_37 rfl rfl
 (w_callV (p' := 41) f_92_38 rfl rfl rfl rfl rfl (r := []) rfl rfl (kI (.inl rk_91) fun r102 s102 h102 =>
 w_iconst (p' := 42) f_92_41 rfl
 (w_icmp (p' := 51) (q' := 45) f_92_42 rfl rfl
 (fun c104 => (h102.1 c104))
 (fun c104 => w_aload_n (p' := 46) f_92_45 rfl rfl
 (w_iconst (p' := 47) f_92_46 rfl
 (w_callV (p' := 50) f_92_47 rfl rfl rfl rfl rfl (r := []) rfl rfl (kI (.inl rk_53) fun r103 s103 h103 =>
 w_iret f_92_50 rk_92 h103) (h102.2 c104)))))) ((h101.1 c107).2.2 c105)))))))))))))))
 (fun c107 => w_aload_n (p' := 12) f_92_11 rfl rfl
 (w_iconst (p' := 13) f_92_12 rfl
 (w_callV (p' := 16) f_92_13 rfl rfl rfl rfl rfl (r := []) rfl rfl (kI (.inl rk_53) fun r106 s106 h106 =>
 w_iret f_92_16 rk_92 h106) (h101.2 c107))))) h))))
set_option maxRecDepth 100000 in
theorem T_Acts_removePage_51 (k0 i0 k2 i2 x3 : Int) (o1 : Option AV) (σ : ST) (Q : Option AV → ST → Prop) (h :
  wpM m_Page_hasRoom [.inr (.inr (14, k2, i2))] σ (asI fun r101 s101 =>
  (((r101 = 0 : Prop) →
    wp m_Acts_removePage (81, [some (.inr (.inr (11, k0, i0))), o1, some (.inr (.inr (14, k2, i2))), some (.inl x3)], [], s101) Q) ∧
  (¬ (r101 = 0) →
    wpM m_World_coresInside [.inr (.inr (12, k0, 0)), .inl (s101 14 k2 i2 1), .inl 2147483647] s101 (asI fun r102 s102 =>
    (((r102 = 0 : Prop) →
      wp m_Acts_removePage (81, [some (.inr (.inr (11, k0, i0))), o1, some (.inr (.inr (14, k2, i2))), some (.inl x3)], [], s102) Q) ∧
    (¬ (r102 = 0) →
      wpM m_Acts_refuse [.inr (.inr (11, k0, i0)), .inl 2] s102 (asI fun r103 s103 =>
      Q (some (.inl r103)) s103)))))))) :
  wp m_Acts_removePage (51, [some (.inr (.inr (11, k0, i0))), o1, some (.inr (.inr (14, k2, i2))), some (.inl x3)], [], σ) Q :=
 w_aload_n (p' := 52) f_92_51 rfl rfl
 (w_callV (p' := 55) f_92_52 rfl rfl rfl rfl rfl (r := []) rfl rfl (kI (.inr rk_33) fun r101 s101 h101 =>
 w_if (p' := 81) (q' := 58) f_92_55 rfl rfl
 (fun c105 => (h101.1 c105))
 (fun c105 => w_aload_n (p' := 59) f_92_58 rfl rfl
 (w_getfield (p' := 62) f_92_59 rfl (x := .inr (.inr (12, k0, 0))) rfl rfl
 (w_aload_n (p' := 63) f_92_62 rfl rfl
 (w_getfield (p' := 66) f_92_63 rfl (x := .inl (s101 14 k2 i2 1)) rfl rfl
 (w_ldc_w (p' := 69) f_92_66 rfl
 (w_callV (p' := 72) f_92_69 rfl rfl rfl rfl rfl (r := []) rfl rfl (kI (.inl rk_80) fun r102 s102 h102 =>
 w_if (p' := 81) (q' := 75) f_92_72 rfl rfl
 (fun c104 => (h102.1 c104))
 (fun c104 => w_aload_n (p' := 76) f_92_75 rfl rfl
 (w_iconst (p' := 77) f_92_76 rfl
 (w_callV (p' := 80) f_92_77 rfl rfl rfl rfl rfl (r := []) rfl rfl (kI (.inl rk_53) fun r103 s103 h103 =>
 w_iret f_92_80 rk_92 h103) (h102.2 c104))))) (h101.2 c105)))))))) h)
set_option maxRecDepth 100000 in
theorem T_Acts_removePage_81 (k0 i0 k2 i2 x3 : Int) (o1 : Option AV) (σ : ST) (Q : Option AV → ST → Prop) (h :
  (((x3 ≠ 1 : Prop) →
    wp m_Acts_removePage (107, [some (.inr (.inr (11, k0, i0))), o1, some (.inr (.inr (14, k2, i2))), some (.inl x3)], [], σ) Q) ∧
  (¬ (x3 ≠ 1) →
    wpM m_World_pagesHere [.inr (.inr (12, k0, 0)), .inl (σ 14 k2 i2 1)] σ (asI fun r101 s101 =>
    (((r101 ≤ 1 : Prop) →
      wp m_Acts_removePage (107, [some (.inr (.inr (11, k0, i0))), o1, some (.inr (.inr (14, k2, i2))), some (.inl x3)], [], s101) Q) ∧
    (¬ (r101 ≤ 1) →
      wpM m_Acts_refuse [.inr (.inr (11, k0, i0)), .inl 2] s101 (asI fun r102 s102 =>
      Q (some (.inl r102)) s102))))))) :
  wp m_Acts_removePage (81, [some (.inr (.inr (11, k0, i0))), o1, some (.inr (.inr (14, k2, i2))), some (.inl x3)], [], σ) Q :=
 w_iload_n (p' := 82) f_92_81 rfl rfl
 (w_iconst (p' := 83) f_92_82 rfl
 (w_icmp (p' := 107) (q' := 86) f_92_83 rfl rfl
 (fun c104 => (h.1 c104))
 (fun c104 => w_aload_n (p' := 87) f_92_86 rfl rfl
 (w_getfield (p' := 90) f_92_87 rfl (x := .inr (.inr (12, k0, 0))) rfl rfl
 (w_aload_n (p' := 91) f_92_90 rfl rfl
 (w_getfield (p' := 94) f_92_91 rfl (x := .inl (σ 14 k2 i2 1)) rfl rfl
 (w_callV (p' := 97) f_92_94 rfl rfl rfl rfl rfl (r := []) rfl rfl (kI (.inl rk_82) fun r101 s101 h101 =>
 w_iconst (p' := 98) f_92_97 rfl
 (w_icmp (p' := 107) (q' := 101) f_92_98 rfl rfl
 (fun c103 => (h101.1 c103))
 (fun c103 => w_aload_n (p' := 102) f_92_101 rfl rfl
 (w_iconst (p' := 103) f_92_102 rfl
 (w_callV (p' := 106) f_92_103 rfl rfl rfl rfl rfl (r := []) rfl rfl (kI (.inl rk_53) fun r102 s102 h102 =>
 w_iret f_92_106 rk_92 h102) (h101.2 c103)))))) (h.2 c104))))))))
set_option maxRecDepth 100000 in
theorem T_Acts_removePage_107 (k0 i0 k2 i2 x3 : Int) (o1 : Option AV) (σ : ST) (Q : Option AV → ST → Prop) (h :
  wpM m_World_isRoom [.inr (.inr (12, k0, 0)), .inl (σ 14 k2 i2 1)] σ (asI fun r101 s101 =>
  (((r101 = 0 : Prop) →
    wpM m_Page_begin [.inr (.inr (14, k2, i2)), .inl 0, .inl (-1)] s101 (asV fun s102 =>
    Q (some (.inl x3)) s102)) ∧
  (¬ (r101 = 0) →
    (((x3 ≠ 1 : Prop) →
      ((0 : Int) ≤ (s101 14 k2 i2 1) ∧ ((s101 14 k2 i2 1) : Int) < 4) ∧
      wpM m_Room_place [.inr (.inr (17, k0, (s101 14 k2 i2 1))), .inl (s101 14 k2 i2 2), .inl 0] s101 (asV fun s103 =>
      wpM m_Page_begin [.inr (.inr (14, k2, i2)), .inl 0, .inl (-1)] s103 (asV fun s104 =>
      Q (some (.inl x3)) s104))) ∧
    (¬ (x3 ≠ 1) →
      ((0 : Int) ≤ (s101 14 k2 i2 1) ∧ ((s101 14 k2 i2 1) : Int) < 4) ∧
      ((0 : Int) = 0 ∨ (0 : Int) = 1) ∧
      wpM m_Page_begin [.inr (.inr (14, k2, i2)), .inl 0, .inl (-1)] (up s101 17 k0 (s101 14 k2 i2 1) 0 0) (asV fun s105 =>
      Q (some (.inl x3)) s105))))))) :
  wp m_Acts_removePage (107, [some (.inr (.inr (11, k0, i0))), o1, some (.inr (.inr (14, k2, i2))), some (.inl x3)], [], σ) Q :=
 w_aload_n (p' := 108) f_92_107 rfl rfl
 (w_getfield (p' := 111) f_92_108 rfl (x := .inr (.inr (12, k0, 0))) rfl rfl
 (w_aload_n (p' := 112) f_92_111 rfl rfl
 (w_getfield (p' := 115) f_92_112 rfl (x := .inl (σ 14 k2 i2 1)) rfl rfl
 (w_callV (p' := 118) f_92_115 rfl rfl rfl rfl rfl (r := []) rfl rfl (kI (.inr rk_37) fun r101 s101 h101 =>
 w_if (p' := 165) (q' := 121) f_92_118 rfl rfl
 (fun c107 => w_aload_n (p' := 166) f_92_165 rfl rfl
 (w_iconst (p' := 167) f_92_166 rfl
 (w_iconst (p' := 168) f_92_167 rfl
 (w_callV (p' := 171) f_92_168 rfl rfl rfl rfl rfl (r := []) rfl rfl (kV rk_22 fun s102 h102 =>
 w_iload_n (p' := 172) f_92_171 rfl rfl
 (w_iret f_92_172 rk_92 h102)) (h101.1 c107)))))
 (fun c107 => w_iload_n (p' := 122) f_92_121 rfl rfl
 (w_iconst (p' := 123) f_92_122 rfl
 (w_icmp (p' := 145) (q' := 126) f_92_123 rfl rfl
 (fun c106 => w_aload_n (p' := 146) f_92_145 rfl rfl
 (w_getfield (p' := 149) f_92_146 rfl (x := .inr (.inr (12, k0, 0))) rfl rfl
 (w_getfield (p' := 152) f_92_149 rfl (x := .inr (.inr (16, k0, 0))) rfl rfl
 (w_aload_n (p' := 153) f_92_152 rfl rfl
 (w_getfield (p' := 156) f_92_153 rfl (x := .inl (s101 14 k2 i2 1)) rfl rfl
 (w_aaload (p' := 157) f_92_156 rfl (n := 4) rfl (x := (17, k0, (s101 14 k2 i2 1))) rfl ((h101.2 c107).1 c106).1 rfl
 (w_aload_n (p' := 158) f_92_157 rfl rfl
 (w_getfield (p' := 161) f_92_158 rfl (x := .inl (s101 14 k2 i2 2)) rfl rfl
 (w_iconst (p' := 162) f_92_161 rfl
 (w_callV (p' := 165) f_92_162 rfl rfl rfl rfl rfl (r := []) rfl rfl (kV rk_86 fun s103 h103 =>
 w_aload_n (p' := 166) f_92_165 rfl rfl
 (w_iconst (p' := 167) f_92_166 rfl
 (w_iconst (p' := 168) f_92_167 rfl
 (w_callV (p' := 171) f_92_168 rfl rfl rfl rfl rfl (r := []) rfl rfl (kV rk_22 fun s104 h104 =>
 w_iload_n (p' := 172) f_92_171 rfl rfl
 (w_iret f_92_172 rk_92 h104)) h103)))) ((h101.2 c107).1 c106).2))))))))))
 (fun c106 => w_aload_n (p' := 127) f_92_126 rfl rfl
 (w_getfield (p' := 130) f_92_127 rfl (x := .inr (.inr (12, k0, 0))) rfl rfl
 (w_getfield (p' := 133) f_92_130 rfl (x := .inr (.inr (16, k0, 0))) rfl rfl
 (w_aload_n (p' := 134) f_92_133 rfl rfl
 (w_getfield (p' := 137) f_92_134 rfl (x := .inl (s101 14 k2 i2 1)) rfl rfl
 (w_aaload (p' := 138) f_92_137 rfl (n := 4) rfl (x := (17, k0, (s101 14 k2 i2 1))) rfl ((h101.2 c107).2 c106).1 rfl
 (w_iconst (p' := 139) f_92_138 rfl
 (w_putZ (p' := 142) f_92_139 rfl rfl (c' := 0) rfl ((h101.2 c107).2 c106).2.1 rfl
 (w_goto (p' := 165) f_92_142 rfl
 (w_aload_n (p' := 166) f_92_165 rfl rfl
 (w_iconst (p' := 167) f_92_166 rfl
 (w_iconst (p' := 168) f_92_167 rfl
 (w_callV (p' := 171) f_92_168 rfl rfl rfl rfl rfl (r := []) rfl rfl (kV rk_22 fun s105 h105 =>
 w_iload_n (p' := 172) f_92_171 rfl rfl
 (w_iret f_92_172 rk_92 h105)) ((h101.2 c107).2 c106).2.2))))))))))))))))) h))))
/-! ClosedRooms$Acts.tellMap(III)I -/
theorem f_93_0 : fnd 93 0 = some (0, .aload_n 0, 1, 0, 0, 0, 0) := ceB_eq (by decide +kernel)
theorem f_93_1 : fnd 93 1 = some (1, .getfield 12, 3, 3, 0, 0, 0) := ceB_eq (by decide +kernel)
theorem f_93_4 : fnd 93 4 = some (4, .iload_n 1, 1, 0, 0, 0, 0) := ceB_eq (by decide +kernel)
theorem f_93_5 : fnd 93 5 = some (5, .invokevirtual 129, 3, 37, 2, 4, 0) := ceB_eq (by decide +kernel)
theorem f_93_8 : fnd 93 8 = some (8, .ifCond .ne 9, 3, 0, 0, 0, 0) := ceB_eq (by decide +kernel)
theorem f_93_11 : fnd 93 11 = some (11, .aload_n 0, 1, 0, 0, 0, 0) := ceB_eq (by decide +kernel)
theorem f_93_12 : fnd 93 12 = some (12, .iconst 0, 1, 0, 0, 0, 0) := ceB_eq (by decide +kernel)
theorem f_93_13 : fnd 93 13 = some (13, .invokevirtual 85, 3, 53, 2, 3, 0) := ceB_eq (by decide +kernel)
theorem f_93_16 : fnd 93 16 = some (16, .ireturn, 1, 0, 0, 0, 0) := ceB_eq (by decide +kernel)
theorem f_93_17 : fnd 93 17 = some (17, .aload_n 0, 1, 0, 0, 0, 0) := ceB_eq (by decide +kernel)
theorem f_93_18 : fnd 93 18 = some (18, .getfield 12, 3, 3, 0, 0, 0) := ceB_eq (by decide +kernel)
theorem f_93_21 : fnd 93 21 = some (21, .getfield 112, 3, 4, 6, 6, 0) := ceB_eq (by decide +kernel)
theorem f_93_24 : fnd 93 24 = some (24, .iload_n 1, 1, 0, 0, 0, 0) := ceB_eq (by decide +kernel)
theorem f_93_25 : fnd 93 25 = some (25, .aaload, 1, 0, 0, 0, 0) := ceB_eq (by decide +kernel)
theorem f_93_26 : fnd 93 26 = some (26, .astore 4, 2, 0, 0, 0, 0) := ceB_eq (by decide +kernel)
theorem f_93_28 : fnd 93 28 = some (28, .aload 4, 2, 0, 0, 0, 0) := ceB_eq (by decide +kernel)
theorem f_93_30 : fnd 93 30 = some (30, .iload_n 2, 1, 0, 0, 0, 0) := ceB_eq (by decide +kernel)
theorem f_93_31 : fnd 93 31 = some (31, .invokevirtual 133, 3, 38, 2, 7, 0) := ceB_eq (by decide +kernel)
theorem f_93_34 : fnd 93 34 = some (34, .ifCond .eq 19, 3, 0, 0, 0, 0) := ceB_eq (by decide +kernel)
theorem f_93_37 : fnd 93 37 = some (37, .iload_n 3, 1, 0, 0, 0, 0) := ceB_eq (by decide +kernel)
theorem f_93_38 : fnd 93 38 = some (38, .iconst (-1), 1, 0, 0, 0, 0) := ceB_eq (by decide +kernel)
theorem f_93_39 : fnd 93 39 = some (39, .if_icmp .eq 20, 3, 0, 0, 0, 0) := ceB_eq (by decide +kernel)
theorem f_93_42 : fnd 93 42 = some (42, .aload_n 0, 1, 0, 0, 0, 0) := ceB_eq (by decide +kernel)
theorem f_93_43 : fnd 93 43 = some (43, .getfield 12, 3, 3, 0, 0, 0) := ceB_eq (by decide +kernel)
theorem f_93_46 : fnd 93 46 = some (46, .iload_n 3, 1, 0, 0, 0, 0) := ceB_eq (by decide +kernel)
theorem f_93_47 : fnd 93 47 = some (47, .invokevirtual 220, 3, 32, 2, 4, 0) := ceB_eq (by decide +kernel)
theorem f_93_50 : fnd 93 50 = some (50, .ifCond .ne 9, 3, 0, 0, 0, 0) := ceB_eq (by decide +kernel)
theorem f_93_53 : fnd 93 53 = some (53, .aload_n 0, 1, 0, 0, 0, 0) := ceB_eq (by decide +kernel)
theorem f_93_54 : fnd 93 54 = some (54, .iconst 1, 1, 0, 0, 0, 0) := ceB_eq (by decide +kernel)
theorem f_93_55 : fnd 93 55 = some (55, .invokevirtual 85, 3, 53, 2, 3, 0) := ceB_eq (by decide +kernel)
theorem f_93_58 : fnd 93 58 = some (58, .ireturn, 1, 0, 0, 0, 0) := ceB_eq (by decide +kernel)
theorem f_93_59 : fnd 93 59 = some (59, .aload 4, 2, 0, 0, 0, 0) := ceB_eq (by decide +kernel)
theorem f_93_61 : fnd 93 61 = some (61, .getfield 190, 3, 7, 8, 8, 0) := ceB_eq (by decide +kernel)
theorem f_93_64 : fnd 93 64 = some (64, .iload_n 2, 1, 0, 0, 0, 0) := ceB_eq (by decide +kernel)
theorem f_93_65 : fnd 93 65 = some (65, .iaload, 1, 0, 0, 0, 0) := ceB_eq (by decide +kernel)
theorem f_93_66 : fnd 93 66 = some (66, .istore 5, 2, 0, 0, 0, 0) := ceB_eq (by decide +kernel)
theorem f_93_68 : fnd 93 68 = some (68, .iload 5, 2, 0, 0, 0, 0) := ceB_eq (by decide +kernel)
theorem f_93_70 : fnd 93 70 = some (70, .iload_n 3, 1, 0, 0, 0, 0) := ceB_eq (by decide +kernel)
theorem f_93_71 : fnd 93 71 = some (71, .if_icmp .ne 9, 3, 0, 0, 0, 0) := ceB_eq (by decide +kernel)
theorem f_93_74 : fnd 93 74 = some (74, .aload_n 0, 1, 0, 0, 0, 0) := ceB_eq (by decide +kernel)
theorem f_93_75 : fnd 93 75 = some (75, .iconst 2, 1, 0, 0, 0, 0) := ceB_eq (by decide +kernel)
theorem f_93_76 : fnd 93 76 = some (76, .invokevirtual 85, 3, 53, 2, 3, 0) := ceB_eq (by decide +kernel)
theorem f_93_79 : fnd 93 79 = some (79, .ireturn, 1, 0, 0, 0, 0) := ceB_eq (by decide +kernel)
theorem f_93_80 : fnd 93 80 = some (80, .aload 4, 2, 0, 0, 0, 0) := ceB_eq (by decide +kernel)
theorem f_93_82 : fnd 93 82 = some (82, .getfield 190, 3, 7, 8, 8, 0) := ceB_eq (by decide +kernel)
theorem f_93_85 : fnd 93 85 = some (85, .iload_n 2, 1, 0, 0, 0, 0) := ceB_eq (by decide +kernel)
theorem f_93_86 : fnd 93 86 = some (86, .iload_n 3, 1, 0, 0, 0, 0) := ceB_eq (by decide +kernel)
theorem f_93_87 : fnd 93 87 = some (87, .iastore, 1, 0, 0, 0, 0) := ceB_eq (by decide +kernel)
theorem f_93_88 : fnd 93 88 = some (88, .iload 5, 2, 0, 0, 0, 0) := ceB_eq (by decide +kernel)
theorem f_93_90 : fnd 93 90 = some (90, .ireturn, 1, 0, 0, 0, 0) := ceB_eq (by decide +kernel)
theorem rk_93 : rkm 93 = 0 := by decide +kernel
theorem ml_93 : (mth 93).2.1 = 6 := by decide +kernel
set_option maxRecDepth 100000 in
theorem T_Acts_tellMap (k0 i0 x1 x2 x3 : Int) (σ : ST) (Q : Option AV → ST → Prop) (h :
  wpM m_World_isRoom [.inr (.inr (12, k0, 0)), .inl x1] σ (asI fun r101 s101 =>
  (((r101 ≠ 0 : Prop) →
    ((0 : Int) ≤ x1 ∧ (x1 : Int) < 4) ∧
    wpM m_Room_hasAddress [.inr (.inr (17, k0, x1)), .inl x2] s101 (asI fun r102 s102 =>
    (((r102 = 0 : Prop) →
      wpM m_Acts_refuse [.inr (.inr (11, k0, i0)), .inl 1] s102 (asI fun r103 s103 =>
      Q (some (.inl r103)) s103)) ∧
    (¬ (r102 = 0) →
      (((x3 = (-1) : Prop) →
        wp m_Acts_tellMap (59, [some (.inr (.inr (11, k0, i0))), some (.inl x1), some (.inl x2), some (.inl x3), some (.inr (.inr (17, k0, x1))), none], [], s102) Q) ∧
      (¬ (x3 = (-1)) →
        wpM m_World_isPage [.inr (.inr (12, k0, 0)), .inl x3] s102 (asI fun r104 s104 =>
        (((r104 ≠ 0 : Prop) →
          wp m_Acts_tellMap (59, [some (.inr (.inr (11, k0, i0))), some (.inl x1), some (.inl x2), some (.inl x3), some (.inr (.inr (17, k0, x1))), none], [], s104) Q) ∧
        (¬ (r104 ≠ 0) →
          wpM m_Acts_refuse [.inr (.inr (11, k0, i0)), .inl 1] s104 (asI fun r105 s105 =>
          Q (some (.inl r105)) s105)))))))))) ∧
  (¬ (r101 ≠ 0) →
    wpM m_Acts_refuse [.inr (.inr (11, k0, i0)), .inl 0] s101 (asI fun r109 s109 =>
    Q (some (.inl r109)) s109))))) :
  wpM m_Acts_tellMap [.inr (.inr (11, k0, i0)), .inl x1, .inl x2, .inl x3] σ Q :=
 wpM_of ml_93 (L := [some (.inr (.inr (11, k0, i0))), some (.inl x1), some (.inl x2), some (.inl x3), none, none]) rfl
 (w_aload_n (p' := 1) f_93_0 rfl rfl
 (w_getfield (p' := 4) f_93_1 rfl (x := .inr (.inr (12, k0, 0))) rfl rfl
 (w_iload_n (p' := 5) f_93_4 rfl rfl
 (w_callV (p' := 8) f_93_5 rfl rfl rfl rfl rfl (r := []) rfl rfl (kI (.inr rk_37) fun r101 s101 h101 =>
 w_if (p' := 17) (q' := 11) f_93_8 rfl rfl
 (fun c110 => w_aload_n (p' := 18) f_93_17 rfl rfl
 (w_getfield (p' := 21) f_93_18 rfl (x := .inr (.inr (12, k0, 0))) rfl rfl
 (w_getfield (p' := 24) f_93_21 rfl (x := .inr (.inr (16, k0, 0))) rfl rfl
 (w_iload_n (p' := 25) f_93_24 rfl rfl
 (w_aaload (p' := 26) f_93_25 rfl (n := 4) rfl (x := (17, k0, x1)) rfl (h101.1 c110).1 rfl
 (w_astore (p' := 28) f_93_26 (L' := [some (.inr (.inr (11, k0, i0))), some (.inl x1), some (.inl x2), some (.inl x3), some (.inr (.inr (17, k0, x1))), none]) rfl rfl
 (w_aload (p' := 30) f_93_28 rfl rfl
 (w_iload_n (p' := 31) f_93_30 rfl rfl
 (w_callV (p' := 34) f_93_31 rfl rfl rfl rfl rfl (r := []) rfl rfl (kI (.inr rk_38) fun r102 s102 h102 =>
 w_if (p' := 53) (q' := 37) f_93_34 rfl rfl
 (fun c108 => w_aload_n (p' := 54) f_93_53 rfl rfl
 (w_iconst (p' := 55) f_93_54 rfl
 (w_callV (p' := 58) f_93_55 rfl rfl rfl rfl rfl (r := []) rfl rfl (kI (.inl rk_53) fun r103 s103 h103 =>
 w_iret f_93_58 rk_93 h103) (h102.1 c108))))
 (fun c108 => w_iload_n (p' := 38) f_93_37 rfl rfl
 (w_iconst (p' := 39) f_93_38 rfl
 (w_icmp (p' := 59) (q' := 42) f_93_39 rfl rfl
 (fun c107 => ((h102.2 c108).1 c107))
 (fun c107 => w_aload_n (p' := 43) f_93_42 rfl rfl
 (w_getfield (p' := 46) f_93_43 rfl (x := .inr (.inr (12, k0, 0))) rfl rfl
 (w_iload_n (p' := 47) f_93_46 rfl rfl
 (w_callV (p' := 50) f_93_47 rfl rfl rfl rfl rfl (r := []) rfl rfl (kI (.inr rk_32) fun r104 s104 h104 =>
 w_if (p' := 59) (q' := 53) f_93_50 rfl rfl
 (fun c106 => (h104.1 c106))
 (fun c106 => w_aload_n (p' := 54) f_93_53 rfl rfl
 (w_iconst (p' := 55) f_93_54 rfl
 (w_callV (p' := 58) f_93_55 rfl rfl rfl rfl rfl (r := []) rfl rfl (kI (.inl rk_53) fun r105 s105 h105 =>
 w_iret f_93_58 rk_93 h105) (h104.2 c106))))) ((h102.2 c108).2 c107))))))))) (h101.1 c110).2)))))))))
 (fun c110 => w_aload_n (p' := 12) f_93_11 rfl rfl
 (w_iconst (p' := 13) f_93_12 rfl
 (w_callV (p' := 16) f_93_13 rfl rfl rfl rfl rfl (r := []) rfl rfl (kI (.inl rk_53) fun r109 s109 h109 =>
 w_iret f_93_16 rk_93 h109) (h101.2 c110))))) h))))
set_option maxRecDepth 100000 in
theorem T_Acts_tellMap_59 (k0 i0 x2 x3 k4 i4 : Int) (o1 o5 : Option AV) (σ : ST) (Q : Option AV → ST → Prop) (h :
  ((0 : Int) ≤ x2 ∧ (x2 : Int) < 8) ∧
  ((((σ 19 k4 i4 x2) ≠ x3 : Prop) →
    ((0 : Int) ≤ x2 ∧ (x2 : Int) < 8) ∧
    Q (some (.inl (σ 19 k4 i4 x2))) (up σ 19 k4 i4 x2 x3)) ∧
  (¬ ((σ 19 k4 i4 x2) ≠ x3) →
    wpM m_Acts_refuse [.inr (.inr (11, k0, i0)), .inl 2] σ (asI fun r101 s101 =>
    Q (some (.inl r101)) s101)))) :
  wp m_Acts_tellMap (59, [some (.inr (.inr (11, k0, i0))), o1, some (.inl x2), some (.inl x3), some (.inr (.inr (17, k4, i4))), o5], [], σ) Q :=
 w_aload (p' := 61) f_93_59 rfl rfl
 (w_getfield (p' := 64) f_93_61 rfl (x := .inr (.inr (19, k4, i4))) rfl rfl
 (w_iload_n (p' := 65) f_93_64 rfl rfl
 (w_iaload (p' := 66) f_93_65 rfl (n := 8) rfl h.1 rfl
 (w_istore (p' := 68) f_93_66 (L' := [some (.inr (.inr (11, k0, i0))), o1, some (.inl x2), some (.inl x3), some (.inr (.inr (17, k4, i4))), some (.inl (σ 19 k4 i4 x2))]) rfl rfl
 (w_iload (p' := 70) f_93_68 rfl rfl
 (w_iload_n (p' := 71) f_93_70 rfl rfl
 (w_icmp (p' := 80) (q' := 74) f_93_71 rfl rfl
 (fun c102 => w_aload (p' := 82) f_93_80 rfl rfl
 (w_getfield (p' := 85) f_93_82 rfl (x := .inr (.inr (19, k4, i4))) rfl rfl
 (w_iload_n (p' := 86) f_93_85 rfl rfl
 (w_iload_n (p' := 87) f_93_86 rfl rfl
 (w_iastore (p' := 88) f_93_87 rfl (n := 8) rfl (h.2.1 c102).1 rfl
 (w_iload (p' := 90) f_93_88 rfl rfl
 (w_iret f_93_90 rk_93 (h.2.1 c102).2)))))))
 (fun c102 => w_aload_n (p' := 75) f_93_74 rfl rfl
 (w_iconst (p' := 76) f_93_75 rfl
 (w_callV (p' := 79) f_93_76 rfl rfl rfl rfl rfl (r := []) rfl rfl (kI (.inl rk_53) fun r101 s101 h101 =>
 w_iret f_93_79 rk_93 h101) (h.2.2 c102)))))))))))
/-! ClosedRooms$Acts.doubleCopy(I)I -/
theorem f_94_0 : fnd 94 0 = some (0, .aload_n 0, 1, 0, 0, 0, 0) := ceB_eq (by decide +kernel)
theorem f_94_1 : fnd 94 1 = some (1, .getfield 12, 3, 3, 0, 0, 0) := ceB_eq (by decide +kernel)
theorem f_94_4 : fnd 94 4 = some (4, .iload_n 1, 1, 0, 0, 0, 0) := ceB_eq (by decide +kernel)
theorem f_94_5 : fnd 94 5 = some (5, .invokevirtual 280, 3, 43, 2, 4, 0) := ceB_eq (by decide +kernel)
theorem f_94_8 : fnd 94 8 = some (8, .ifCond .ne 9, 3, 0, 0, 0, 0) := ceB_eq (by decide +kernel)
theorem f_94_11 : fnd 94 11 = some (11, .aload_n 0, 1, 0, 0, 0, 0) := ceB_eq (by decide +kernel)
theorem f_94_12 : fnd 94 12 = some (12, .iconst 0, 1, 0, 0, 0, 0) := ceB_eq (by decide +kernel)
theorem f_94_13 : fnd 94 13 = some (13, .invokevirtual 85, 3, 53, 2, 3, 0) := ceB_eq (by decide +kernel)
theorem f_94_16 : fnd 94 16 = some (16, .ireturn, 1, 0, 0, 0, 0) := ceB_eq (by decide +kernel)
theorem f_94_17 : fnd 94 17 = some (17, .aload_n 0, 1, 0, 0, 0, 0) := ceB_eq (by decide +kernel)
theorem f_94_18 : fnd 94 18 = some (18, .getfield 12, 3, 3, 0, 0, 0) := ceB_eq (by decide +kernel)
theorem f_94_21 : fnd 94 21 = some (21, .invokevirtual 261, 3, 84, 1, 4, 0) := ceB_eq (by decide +kernel)
theorem f_94_24 : fnd 94 24 = some (24, .istore_n 2, 1, 0, 0, 0, 0) := ceB_eq (by decide +kernel)
theorem f_94_25 : fnd 94 25 = some (25, .iload_n 2, 1, 0, 0, 0, 0) := ceB_eq (by decide +kernel)
theorem f_94_26 : fnd 94 26 = some (26, .iconst (-1), 1, 0, 0, 0, 0) := ceB_eq (by decide +kernel)
theorem f_94_27 : fnd 94 27 = some (27, .if_icmp .ne 9, 3, 0, 0, 0, 0) := ceB_eq (by decide +kernel)
theorem f_94_30 : fnd 94 30 = some (30, .aload_n 0, 1, 0, 0, 0, 0) := ceB_eq (by decide +kernel)
theorem f_94_31 : fnd 94 31 = some (31, .iconst 3, 1, 0, 0, 0, 0) := ceB_eq (by decide +kernel)
theorem f_94_32 : fnd 94 32 = some (32, .invokevirtual 85, 3, 53, 2, 3, 0) := ceB_eq (by decide +kernel)
theorem f_94_35 : fnd 94 35 = some (35, .ireturn, 1, 0, 0, 0, 0) := ceB_eq (by decide +kernel)
theorem f_94_36 : fnd 94 36 = some (36, .aload_n 0, 1, 0, 0, 0, 0) := ceB_eq (by decide +kernel)
theorem f_94_37 : fnd 94 37 = some (37, .getfield 12, 3, 3, 0, 0, 0) := ceB_eq (by decide +kernel)
theorem f_94_40 : fnd 94 40 = some (40, .getfield 267, 3, 4, 8, 8, 0) := ceB_eq (by decide +kernel)
theorem f_94_43 : fnd 94 43 = some (43, .iload_n 2, 1, 0, 0, 0, 0) := ceB_eq (by decide +kernel)
theorem f_94_44 : fnd 94 44 = some (44, .aaload, 1, 0, 0, 0, 0) := ceB_eq (by decide +kernel)
theorem f_94_45 : fnd 94 45 = some (45, .aload_n 0, 1, 0, 0, 0, 0) := ceB_eq (by decide +kernel)
theorem f_94_46 : fnd 94 46 = some (46, .getfield 12, 3, 3, 0, 0, 0) := ceB_eq (by decide +kernel)
theorem f_94_49 : fnd 94 49 = some (49, .getfield 267, 3, 4, 8, 8, 0) := ceB_eq (by decide +kernel)
theorem f_94_52 : fnd 94 52 = some (52, .iload_n 1, 1, 0, 0, 0, 0) := ceB_eq (by decide +kernel)
theorem f_94_53 : fnd 94 53 = some (53, .aaload, 1, 0, 0, 0, 0) := ceB_eq (by decide +kernel)
theorem f_94_54 : fnd 94 54 = some (54, .invokevirtual 312, 3, 50, 2, 9, 0) := ceB_eq (by decide +kernel)
theorem f_94_57 : fnd 94 57 = some (57, .iload_n 2, 1, 0, 0, 0, 0) := ceB_eq (by decide +kernel)
theorem f_94_58 : fnd 94 58 = some (58, .ireturn, 1, 0, 0, 0, 0) := ceB_eq (by decide +kernel)
theorem rk_94 : rkm 94 = 0 := by decide +kernel
theorem ml_94 : (mth 94).2.1 = 3 := by decide +kernel
set_option maxRecDepth 100000 in
theorem T_Acts_doubleCopy (k0 i0 x1 : Int) (σ : ST) (Q : Option AV → ST → Prop) (h :
  wpM m_World_isCopy [.inr (.inr (12, k0, 0)), .inl x1] σ (asI fun r101 s101 =>
  (((r101 ≠ 0 : Prop) →
    wpM m_World_lowestEmptyPlace [.inr (.inr (12, k0, 0))] s101 (asI fun r102 s102 =>
    (((r102 ≠ (-1) : Prop) →
      ((0 : Int) ≤ r102 ∧ (r102 : Int) < 12) ∧
      ((0 : Int) ≤ x1 ∧ (x1 : Int) < 12) ∧
      wpM m_Copy_take [.inr (.inr (25, k0, r102)), .inr (.inr (25, k0, x1))] s102 (asV fun s103 =>
      Q (some (.inl r102)) s103)) ∧
    (¬ (r102 ≠ (-1)) →
      wpM m_Acts_refuse [.inr (.inr (11, k0, i0)), .inl 3] s102 (asI fun r104 s104 =>
      Q (some (.inl r104)) s104))))) ∧
  (¬ (r101 ≠ 0) →
    wpM m_Acts_refuse [.inr (.inr (11, k0, i0)), .inl 0] s101 (asI fun r106 s106 =>
    Q (some (.inl r106)) s106))))) :
  wpM m_Acts_doubleCopy [.inr (.inr (11, k0, i0)), .inl x1] σ Q :=
 wpM_of ml_94 (L := [some (.inr (.inr (11, k0, i0))), some (.inl x1), none]) rfl
 (w_aload_n (p' := 1) f_94_0 rfl rfl
 (w_getfield (p' := 4) f_94_1 rfl (x := .inr (.inr (12, k0, 0))) rfl rfl
 (w_iload_n (p' := 5) f_94_4 rfl rfl
 (w_callV (p' := 8) f_94_5 rfl rfl rfl rfl rfl (r := []) rfl rfl (kI (.inr rk_43) fun r101 s101 h101 =>
 w_if (p' := 17) (q' := 11) f_94_8 rfl rfl
 (fun c107 => w_aload_n (p' := 18) f_94_17 rfl rfl
 (w_getfield (p' := 21) f_94_18 rfl (x := .inr (.inr (12, k0, 0))) rfl rfl
 (w_callV (p' := 24) f_94_21 rfl rfl rfl rfl rfl (r := []) rfl rfl (kI (.inl rk_84) fun r102 s102 h102 =>
 w_istore_n (p' := 25) f_94_24 (L' := [some (.inr (.inr (11, k0, i0))), some (.inl x1), some (.inl r102)]) rfl rfl
 (w_iload_n (p' := 26) f_94_25 rfl rfl
 (w_iconst (p' := 27) f_94_26 rfl
 (w_icmp (p' := 36) (q' := 30) f_94_27 rfl rfl
 (fun c105 => w_aload_n (p' := 37) f_94_36 rfl rfl
 (w_getfield (p' := 40) f_94_37 rfl (x := .inr (.inr (12, k0, 0))) rfl rfl
 (w_getfield (p' := 43) f_94_40 rfl (x := .inr (.inr (24, k0, 0))) rfl rfl
 (w_iload_n (p' := 44) f_94_43 rfl rfl
 (w_aaload (p' := 45) f_94_44 rfl (n := 12) rfl (x := (25, k0, r102)) rfl (h102.1 c105).1 rfl
 (w_aload_n (p' := 46) f_94_45 rfl rfl
 (w_getfield (p' := 49) f_94_46 rfl (x := .inr (.inr (12, k0, 0))) rfl rfl
 (w_getfield (p' := 52) f_94_49 rfl (x := .inr (.inr (24, k0, 0))) rfl rfl
 (w_iload_n (p' := 53) f_94_52 rfl rfl
 (w_aaload (p' := 54) f_94_53 rfl (n := 12) rfl (x := (25, k0, x1)) rfl (h102.1 c105).2.1 rfl
 (w_callV (p' := 57) f_94_54 rfl rfl rfl rfl rfl (r := []) rfl rfl (kV rk_50 fun s103 h103 =>
 w_iload_n (p' := 58) f_94_57 rfl rfl
 (w_iret f_94_58 rk_94 h103)) (h102.1 c105).2.2)))))))))))
 (fun c105 => w_aload_n (p' := 31) f_94_30 rfl rfl
 (w_iconst (p' := 32) f_94_31 rfl
 (w_callV (p' := 35) f_94_32 rfl rfl rfl rfl rfl (r := []) rfl rfl (kI (.inl rk_53) fun r104 s104 h104 =>
 w_iret f_94_35 rk_94 h104) (h102.2 c105)))))))) (h101.1 c107))))
 (fun c107 => w_aload_n (p' := 12) f_94_11 rfl rfl
 (w_iconst (p' := 13) f_94_12 rfl
 (w_callV (p' := 16) f_94_13 rfl rfl rfl rfl rfl (r := []) rfl rfl (kI (.inl rk_53) fun r106 s106 h106 =>
 w_iret f_94_16 rk_94 h106) (h101.2 c107))))) h))))
/-! ClosedRooms$Acts.changeCopy(II)I -/
theorem f_95_0 : fnd 95 0 = some (0, .aload_n 0, 1, 0, 0, 0, 0) := ceB_eq (by decide +kernel)
theorem f_95_1 : fnd 95 1 = some (1, .getfield 12, 3, 3, 0, 0, 0) := ceB_eq (by decide +kernel)
theorem f_95_4 : fnd 95 4 = some (4, .iload_n 1, 1, 0, 0, 0, 0) := ceB_eq (by decide +kernel)
theorem f_95_5 : fnd 95 5 = some (5, .invokevirtual 280, 3, 43, 2, 4, 0) := ceB_eq (by decide +kernel)
theorem f_95_8 : fnd 95 8 = some (8, .ifCond .ne 9, 3, 0, 0, 0, 0) := ceB_eq (by decide +kernel)
theorem f_95_11 : fnd 95 11 = some (11, .aload_n 0, 1, 0, 0, 0, 0) := ceB_eq (by decide +kernel)
theorem f_95_12 : fnd 95 12 = some (12, .iconst 0, 1, 0, 0, 0, 0) := ceB_eq (by decide +kernel)
theorem f_95_13 : fnd 95 13 = some (13, .invokevirtual 85, 3, 53, 2, 3, 0) := ceB_eq (by decide +kernel)
theorem f_95_16 : fnd 95 16 = some (16, .ireturn, 1, 0, 0, 0, 0) := ceB_eq (by decide +kernel)
theorem f_95_17 : fnd 95 17 = some (17, .iload_n 2, 1, 0, 0, 0, 0) := ceB_eq (by decide +kernel)
theorem f_95_18 : fnd 95 18 = some (18, .ifCond .lt 10, 3, 0, 0, 0, 0) := ceB_eq (by decide +kernel)
theorem f_95_21 : fnd 95 21 = some (21, .iload_n 2, 1, 0, 0, 0, 0) := ceB_eq (by decide +kernel)
theorem f_95_22 : fnd 95 22 = some (22, .sipush 999, 3, 0, 0, 0, 0) := ceB_eq (by decide +kernel)
theorem f_95_25 : fnd 95 25 = some (25, .if_icmp .le 9, 3, 0, 0, 0, 0) := ceB_eq (by decide +kernel)
theorem f_95_28 : fnd 95 28 = some (28, .aload_n 0, 1, 0, 0, 0, 0) := ceB_eq (by decide +kernel)
theorem f_95_29 : fnd 95 29 = some (29, .iconst 1, 1, 0, 0, 0, 0) := ceB_eq (by decide +kernel)
theorem f_95_30 : fnd 95 30 = some (30, .invokevirtual 85, 3, 53, 2, 3, 0) := ceB_eq (by decide +kernel)
theorem f_95_33 : fnd 95 33 = some (33, .ireturn, 1, 0, 0, 0, 0) := ceB_eq (by decide +kernel)
theorem f_95_34 : fnd 95 34 = some (34, .aload_n 0, 1, 0, 0, 0, 0) := ceB_eq (by decide +kernel)
theorem f_95_35 : fnd 95 35 = some (35, .getfield 12, 3, 3, 0, 0, 0) := ceB_eq (by decide +kernel)
theorem f_95_38 : fnd 95 38 = some (38, .getfield 267, 3, 4, 8, 8, 0) := ceB_eq (by decide +kernel)
theorem f_95_41 : fnd 95 41 = some (41, .iload_n 1, 1, 0, 0, 0, 0) := ceB_eq (by decide +kernel)
theorem f_95_42 : fnd 95 42 = some (42, .aaload, 1, 0, 0, 0, 0) := ceB_eq (by decide +kernel)
theorem f_95_43 : fnd 95 43 = some (43, .astore_n 3, 1, 0, 0, 0, 0) := ceB_eq (by decide +kernel)
theorem f_95_44 : fnd 95 44 = some (44, .aload_n 3, 1, 0, 0, 0, 0) := ceB_eq (by decide +kernel)
theorem f_95_45 : fnd 95 45 = some (45, .getfield 316, 3, 9, 5, 5, 0) := ceB_eq (by decide +kernel)
theorem f_95_48 : fnd 95 48 = some (48, .istore 4, 2, 0, 0, 0, 0) := ceB_eq (by decide +kernel)
theorem f_95_50 : fnd 95 50 = some (50, .iload 4, 2, 0, 0, 0, 0) := ceB_eq (by decide +kernel)
theorem f_95_52 : fnd 95 52 = some (52, .iload_n 2, 1, 0, 0, 0, 0) := ceB_eq (by decide +kernel)
theorem f_95_53 : fnd 95 53 = some (53, .if_icmp .ne 9, 3, 0, 0, 0, 0) := ceB_eq (by decide +kernel)
theorem f_95_56 : fnd 95 56 = some (56, .aload_n 0, 1, 0, 0, 0, 0) := ceB_eq (by decide +kernel)
theorem f_95_57 : fnd 95 57 = some (57, .iconst 2, 1, 0, 0, 0, 0) := ceB_eq (by decide +kernel)
theorem f_95_58 : fnd 95 58 = some (58, .invokevirtual 85, 3, 53, 2, 3, 0) := ceB_eq (by decide +kernel)
theorem f_95_61 : fnd 95 61 = some (61, .ireturn, 1, 0, 0, 0, 0) := ceB_eq (by decide +kernel)
theorem f_95_62 : fnd 95 62 = some (62, .aload_n 3, 1, 0, 0, 0, 0) := ceB_eq (by decide +kernel)
theorem f_95_63 : fnd 95 63 = some (63, .iload_n 2, 1, 0, 0, 0, 0) := ceB_eq (by decide +kernel)
theorem f_95_64 : fnd 95 64 = some (64, .putfield 316, 3, 9, 5, 5, 0) := ceB_eq (by decide +kernel)
theorem f_95_67 : fnd 95 67 = some (67, .aload_n 3, 1, 0, 0, 0, 0) := ceB_eq (by decide +kernel)
theorem f_95_68 : fnd 95 68 = some (68, .iconst 1, 1, 0, 0, 0, 0) := ceB_eq (by decide +kernel)
theorem f_95_69 : fnd 95 69 = some (69, .putfield 283, 3, 9, 8, 8, 0) := ceB_eq (by decide +kernel)
theorem f_95_72 : fnd 95 72 = some (72, .iload 4, 2, 0, 0, 0, 0) := ceB_eq (by decide +kernel)
theorem f_95_74 : fnd 95 74 = some (74, .ireturn, 1, 0, 0, 0, 0) := ceB_eq (by decide +kernel)
theorem rk_95 : rkm 95 = 0 := by decide +kernel
theorem ml_95 : (mth 95).2.1 = 5 := by decide +kernel
set_option maxRecDepth 100000 in
theorem T_Acts_changeCopy (k0 i0 x1 x2 : Int) (σ : ST) (Q : Option AV → ST → Prop) (h :
  wpM m_World_isCopy [.inr (.inr (12, k0, 0)), .inl x1] σ (asI fun r101 s101 =>
  (((r101 ≠ 0 : Prop) →
    (((x2 < 0 : Prop) →
      wpM m_Acts_refuse [.inr (.inr (11, k0, i0)), .inl 1] s101 (asI fun r102 s102 =>
      Q (some (.inl r102)) s102)) ∧
    (¬ (x2 < 0) →
      (((x2 ≤ 999 : Prop) →
        ((0 : Int) ≤ x1 ∧ (x1 : Int) < 12) ∧
        ((((s101 25 k0 x1 5) ≠ x2 : Prop) →
          ((1 : Int) = 0 ∨ (1 : Int) = 1) ∧
          Q (some (.inl (s101 25 k0 x1 5))) (up (up s101 25 k0 x1 5 x2) 25 k0 x1 8 1)) ∧
        (¬ ((s101 25 k0 x1 5) ≠ x2) →
          wpM m_Acts_refuse [.inr (.inr (11, k0, i0)), .inl 2] s101 (asI fun r103 s103 =>
          Q (some (.inl r103)) s103)))) ∧
      (¬ (x2 ≤ 999) →
        wpM m_Acts_refuse [.inr (.inr (11, k0, i0)), .inl 1] s101 (asI fun r105 s105 =>
        Q (some (.inl r105)) s105)))))) ∧
  (¬ (r101 ≠ 0) →
    wpM m_Acts_refuse [.inr (.inr (11, k0, i0)), .inl 0] s101 (asI fun r108 s108 =>
    Q (some (.inl r108)) s108))))) :
  wpM m_Acts_changeCopy [.inr (.inr (11, k0, i0)), .inl x1, .inl x2] σ Q :=
 wpM_of ml_95 (L := [some (.inr (.inr (11, k0, i0))), some (.inl x1), some (.inl x2), none, none]) rfl
 (w_aload_n (p' := 1) f_95_0 rfl rfl
 (w_getfield (p' := 4) f_95_1 rfl (x := .inr (.inr (12, k0, 0))) rfl rfl
 (w_iload_n (p' := 5) f_95_4 rfl rfl
 (w_callV (p' := 8) f_95_5 rfl rfl rfl rfl rfl (r := []) rfl rfl (kI (.inr rk_43) fun r101 s101 h101 =>
 w_if (p' := 17) (q' := 11) f_95_8 rfl rfl
 (fun c109 => w_iload_n (p' := 18) f_95_17 rfl rfl
 (w_if (p' := 28) (q' := 21) f_95_18 rfl rfl
 (fun c107 => w_aload_n (p' := 29) f_95_28 rfl rfl
 (w_iconst (p' := 30) f_95_29 rfl
 (w_callV (p' := 33) f_95_30 rfl rfl rfl rfl rfl (r := []) rfl rfl (kI (.inl rk_53) fun r102 s102 h102 =>
 w_iret f_95_33 rk_95 h102) ((h101.1 c109).1 c107))))
 (fun c107 => w_iload_n (p' := 22) f_95_21 rfl rfl
 (w_sipush (p' := 25) f_95_22 rfl
 (w_icmp (p' := 34) (q' := 28) f_95_25 rfl rfl
 (fun c106 => w_aload_n (p' := 35) f_95_34 rfl rfl
 (w_getfield (p' := 38) f_95_35 rfl (x := .inr (.inr (12, k0, 0))) rfl rfl
 (w_getfield (p' := 41) f_95_38 rfl (x := .inr (.inr (24, k0, 0))) rfl rfl
 (w_iload_n (p' := 42) f_95_41 rfl rfl
 (w_aaload (p' := 43) f_95_42 rfl (n := 12) rfl (x := (25, k0, x1)) rfl (((h101.1 c109).2 c107).1 c106).1 rfl
 (w_astore_n (p' := 44) f_95_43 (L' := [some (.inr (.inr (11, k0, i0))), some (.inl x1), some (.inl x2), some (.inr (.inr (25, k0, x1))), none]) rfl rfl
 (w_aload_n (p' := 45) f_95_44 rfl rfl
 (w_getfield (p' := 48) f_95_45 rfl (x := .inl (s101 25 k0 x1 5)) rfl rfl
 (w_istore (p' := 50) f_95_48 (L' := [some (.inr (.inr (11, k0, i0))), some (.inl x1), some (.inl x2), some (.inr (.inr (25, k0, x1))), some (.inl (s101 25 k0 x1 5))]) rfl rfl
 (w_iload (p' := 52) f_95_50 rfl rfl
 (w_iload_n (p' := 53) f_95_52 rfl rfl
 (w_icmp (p' := 62) (q' := 56) f_95_53 rfl rfl
 (fun c104 => w_aload_n (p' := 63) f_95_62 rfl rfl
 (w_iload_n (p' := 64) f_95_63 rfl rfl
 (w_putI (p' := 67) f_95_64 rfl rfl (c' := 5) rfl rfl
 (w_aload_n (p' := 68) f_95_67 rfl rfl
 (w_iconst (p' := 69) f_95_68 rfl
 (w_putZ (p' := 72) f_95_69 rfl rfl (c' := 8) rfl ((((h101.1 c109).2 c107).1 c106).2.1 c104).1 rfl
 (w_iload (p' := 74) f_95_72 rfl rfl
 (w_iret f_95_74 rk_95 ((((h101.1 c109).2 c107).1 c106).2.1 c104).2))))))))
 (fun c104 => w_aload_n (p' := 57) f_95_56 rfl rfl
 (w_iconst (p' := 58) f_95_57 rfl
 (w_callV (p' := 61) f_95_58 rfl rfl rfl rfl rfl (r := []) rfl rfl (kI (.inl rk_53) fun r103 s103 h103 =>
 w_iret f_95_61 rk_95 h103) ((((h101.1 c109).2 c107).1 c106).2.2 c104))))))))))))))))
 (fun c106 => w_aload_n (p' := 29) f_95_28 rfl rfl
 (w_iconst (p' := 30) f_95_29 rfl
 (w_callV (p' := 33) f_95_30 rfl rfl rfl rfl rfl (r := []) rfl rfl (kI (.inl rk_53) fun r105 s105 h105 =>
 w_iret f_95_33 rk_95 h105) (((h101.1 c109).2 c107).2 c106)))))))))
 (fun c109 => w_aload_n (p' := 12) f_95_11 rfl rfl
 (w_iconst (p' := 13) f_95_12 rfl
 (w_callV (p' := 16) f_95_13 rfl rfl rfl rfl rfl (r := []) rfl rfl (kI (.inl rk_53) fun r108 s108 h108 =>
 w_iret f_95_16 rk_95 h108) (h101.2 c109))))) h))))
/-! ClosedRooms$Acts.dropCopy(I)I -/
theorem f_96_0 : fnd 96 0 = some (0, .aload_n 0, 1, 0, 0, 0, 0) := ceB_eq (by decide +kernel)
theorem f_96_1 : fnd 96 1 = some (1, .getfield 12, 3, 3, 0, 0, 0) := ceB_eq (by decide +kernel)
theorem f_96_4 : fnd 96 4 = some (4, .iload_n 1, 1, 0, 0, 0, 0) := ceB_eq (by decide +kernel)
theorem f_96_5 : fnd 96 5 = some (5, .invokevirtual 280, 3, 43, 2, 4, 0) := ceB_eq (by decide +kernel)
theorem f_96_8 : fnd 96 8 = some (8, .ifCond .ne 9, 3, 0, 0, 0, 0) := ceB_eq (by decide +kernel)
theorem f_96_11 : fnd 96 11 = some (11, .aload_n 0, 1, 0, 0, 0, 0) := ceB_eq (by decide +kernel)
theorem f_96_12 : fnd 96 12 = some (12, .iconst 0, 1, 0, 0, 0, 0) := ceB_eq (by decide +kernel)
theorem f_96_13 : fnd 96 13 = some (13, .invokevirtual 85, 3, 53, 2, 3, 0) := ceB_eq (by decide +kernel)
theorem f_96_16 : fnd 96 16 = some (16, .ireturn, 1, 0, 0, 0, 0) := ceB_eq (by decide +kernel)
theorem f_96_17 : fnd 96 17 = some (17, .aload_n 0, 1, 0, 0, 0, 0) := ceB_eq (by decide +kernel)
theorem f_96_18 : fnd 96 18 = some (18, .getfield 12, 3, 3, 0, 0, 0) := ceB_eq (by decide +kernel)
theorem f_96_21 : fnd 96 21 = some (21, .getfield 267, 3, 4, 8, 8, 0) := ceB_eq (by decide +kernel)
theorem f_96_24 : fnd 96 24 = some (24, .iload_n 1, 1, 0, 0, 0, 0) := ceB_eq (by decide +kernel)
theorem f_96_25 : fnd 96 25 = some (25, .aaload, 1, 0, 0, 0, 0) := ceB_eq (by decide +kernel)
theorem f_96_26 : fnd 96 26 = some (26, .iconst 0, 1, 0, 0, 0, 0) := ceB_eq (by decide +kernel)
theorem f_96_27 : fnd 96 27 = some (27, .putfield 317, 3, 9, 0, 0, 0) := ceB_eq (by decide +kernel)
theorem f_96_30 : fnd 96 30 = some (30, .aload_n 0, 1, 0, 0, 0, 0) := ceB_eq (by decide +kernel)
theorem f_96_31 : fnd 96 31 = some (31, .getfield 12, 3, 3, 0, 0, 0) := ceB_eq (by decide +kernel)
theorem f_96_34 : fnd 96 34 = some (34, .getfield 267, 3, 4, 8, 8, 0) := ceB_eq (by decide +kernel)
theorem f_96_37 : fnd 96 37 = some (37, .iload_n 1, 1, 0, 0, 0, 0) := ceB_eq (by decide +kernel)
theorem f_96_38 : fnd 96 38 = some (38, .aaload, 1, 0, 0, 0, 0) := ceB_eq (by decide +kernel)
theorem f_96_39 : fnd 96 39 = some (39, .getfield 286, 3, 9, 7, 7, 0) := ceB_eq (by decide +kernel)
theorem f_96_42 : fnd 96 42 = some (42, .ireturn, 1, 0, 0, 0, 0) := ceB_eq (by decide +kernel)
theorem rk_96 : rkm 96 = 0 := by decide +kernel
theorem ml_96 : (mth 96).2.1 = 2 := by decide +kernel
set_option maxRecDepth 100000 in
theorem T_Acts_dropCopy (k0 i0 x1 : Int) (σ : ST) (Q : Option AV → ST → Prop) (h :
  wpM m_World_isCopy [.inr (.inr (12, k0, 0)), .inl x1] σ (asI fun r101 s101 =>
  (((r101 ≠ 0 : Prop) →
    ((0 : Int) ≤ x1 ∧ (x1 : Int) < 12) ∧
    ((0 : Int) = 0 ∨ (0 : Int) = 1) ∧
    ((0 : Int) ≤ x1 ∧ (x1 : Int) < 12) ∧
    Q (some (.inl ((up s101 25 k0 x1 0 0) 25 k0 x1 7))) (up s101 25 k0 x1 0 0)) ∧
  (¬ (r101 ≠ 0) →
    wpM m_Acts_refuse [.inr (.inr (11, k0, i0)), .inl 0] s101 (asI fun r102 s102 =>
    Q (some (.inl r102)) s102))))) :
  wpM m_Acts_dropCopy [.inr (.inr (11, k0, i0)), .inl x1] σ Q :=
 wpM_of ml_96 (L := [some (.inr (.inr (11, k0, i0))), some (.inl x1)]) rfl
 (w_aload_n (p' := 1) f_96_0 rfl rfl
 (w_getfield (p' := 4) f_96_1 rfl (x := .inr (.inr (12, k0, 0))) rfl rfl
 (w_iload_n (p' := 5) f_96_4 rfl rfl
 (w_callV (p' := 8) f_96_5 rfl rfl rfl rfl rfl (r := []) rfl rfl (kI (.inr rk_43) fun r101 s101 h101 =>
 w_if (p' := 17) (q' := 11) f_96_8 rfl rfl
 (fun c103 => w_aload_n (p' := 18) f_96_17 rfl rfl
 (w_getfield (p' := 21) f_96_18 rfl (x := .inr (.inr (12, k0, 0))) rfl rfl
 (w_getfield (p' := 24) f_96_21 rfl (x := .inr (.inr (24, k0, 0))) rfl rfl
 (w_iload_n (p' := 25) f_96_24 rfl rfl
 (w_aaload (p' := 26) f_96_25 rfl (n := 12) rfl (x := (25, k0, x1)) rfl (h101.1 c103).1 rfl
 (w_iconst (p' := 27) f_96_26 rfl
 (w_putZ (p' := 30) f_96_27 rfl rfl (c' := 0) rfl (h101.1 c103).2.1 rfl
 (w_aload_n (p' := 31) f_96_30 rfl rfl
 (w_getfield (p' := 34) f_96_31 rfl (x := .inr (.inr (12, k0, 0))) rfl rfl
 (w_getfield (p' := 37) f_96_34 rfl (x := .inr (.inr (24, k0, 0))) rfl rfl
 (w_iload_n (p' := 38) f_96_37 rfl rfl
 (w_aaload (p' := 39) f_96_38 rfl (n := 12) rfl (x := (25, k0, x1)) rfl (h101.1 c103).2.2.1 rfl
 (w_getfield (p' := 42) f_96_39 rfl (x := .inl ((up s101 25 k0 x1 0 0) 25 k0 x1 7)) rfl rfl
 (w_iret f_96_42 rk_96 (h101.1 c103).2.2.2))))))))))))))
 (fun c103 => w_aload_n (p' := 12) f_96_11 rfl rfl
 (w_iconst (p' := 13) f_96_12 rfl
 (w_callV (p' := 16) f_96_13 rfl rfl rfl rfl rfl (r := []) rfl rfl (kI (.inl rk_53) fun r102 s102 h102 =>
 w_iret f_96_16 rk_96 h102) (h101.2 c103))))) h))))
/-! ClosedRooms$Acts.tellRegister(II)I -/
theorem f_97_0 : fnd 97 0 = some (0, .aload_n 0, 1, 0, 0, 0, 0) := ceB_eq (by decide +kernel)
theorem f_97_1 : fnd 97 1 = some (1, .getfield 12, 3, 3, 0, 0, 0) := ceB_eq (by decide +kernel)
theorem f_97_4 : fnd 97 4 = some (4, .iload_n 1, 1, 0, 0, 0, 0) := ceB_eq (by decide +kernel)
theorem f_97_5 : fnd 97 5 = some (5, .invokevirtual 175, 3, 40, 2, 4, 0) := ceB_eq (by decide +kernel)
theorem f_97_8 : fnd 97 8 = some (8, .ifCond .ne 9, 3, 0, 0, 0, 0) := ceB_eq (by decide +kernel)
theorem f_97_11 : fnd 97 11 = some (11, .aload_n 0, 1, 0, 0, 0, 0) := ceB_eq (by decide +kernel)
theorem f_97_12 : fnd 97 12 = some (12, .iconst 0, 1, 0, 0, 0, 0) := ceB_eq (by decide +kernel)
theorem f_97_13 : fnd 97 13 = some (13, .invokevirtual 85, 3, 53, 2, 3, 0) := ceB_eq (by decide +kernel)
theorem f_97_16 : fnd 97 16 = some (16, .ireturn, 1, 0, 0, 0, 0) := ceB_eq (by decide +kernel)
theorem f_97_17 : fnd 97 17 = some (17, .iload_n 2, 1, 0, 0, 0, 0) := ceB_eq (by decide +kernel)
theorem f_97_18 : fnd 97 18 = some (18, .ifCond .lt 10, 3, 0, 0, 0, 0) := ceB_eq (by decide +kernel)
theorem f_97_21 : fnd 97 21 = some (21, .iload_n 2, 1, 0, 0, 0, 0) := ceB_eq (by decide +kernel)
theorem f_97_22 : fnd 97 22 = some (22, .sipush 999, 3, 0, 0, 0, 0) := ceB_eq (by decide +kernel)
theorem f_97_25 : fnd 97 25 = some (25, .if_icmp .le 9, 3, 0, 0, 0, 0) := ceB_eq (by decide +kernel)
theorem f_97_28 : fnd 97 28 = some (28, .aload_n 0, 1, 0, 0, 0, 0) := ceB_eq (by decide +kernel)
theorem f_97_29 : fnd 97 29 = some (29, .iconst 1, 1, 0, 0, 0, 0) := ceB_eq (by decide +kernel)
theorem f_97_30 : fnd 97 30 = some (30, .invokevirtual 85, 3, 53, 2, 3, 0) := ceB_eq (by decide +kernel)
theorem f_97_33 : fnd 97 33 = some (33, .ireturn, 1, 0, 0, 0, 0) := ceB_eq (by decide +kernel)
theorem f_97_34 : fnd 97 34 = some (34, .aload_n 0, 1, 0, 0, 0, 0) := ceB_eq (by decide +kernel)
theorem f_97_35 : fnd 97 35 = some (35, .getfield 12, 3, 3, 0, 0, 0) := ceB_eq (by decide +kernel)
theorem f_97_38 : fnd 97 38 = some (38, .getfield 178, 3, 4, 7, 7, 0) := ceB_eq (by decide +kernel)
theorem f_97_41 : fnd 97 41 = some (41, .iload_n 1, 1, 0, 0, 0, 0) := ceB_eq (by decide +kernel)
theorem f_97_42 : fnd 97 42 = some (42, .aaload, 1, 0, 0, 0, 0) := ceB_eq (by decide +kernel)
theorem f_97_43 : fnd 97 43 = some (43, .astore_n 3, 1, 0, 0, 0, 0) := ceB_eq (by decide +kernel)
theorem f_97_44 : fnd 97 44 = some (44, .aload_n 3, 1, 0, 0, 0, 0) := ceB_eq (by decide +kernel)
theorem f_97_45 : fnd 97 45 = some (45, .getfield 213, 3, 8, 0, 0, 0) := ceB_eq (by decide +kernel)
theorem f_97_48 : fnd 97 48 = some (48, .istore 4, 2, 0, 0, 0, 0) := ceB_eq (by decide +kernel)
theorem f_97_50 : fnd 97 50 = some (50, .aload_n 3, 1, 0, 0, 0, 0) := ceB_eq (by decide +kernel)
theorem f_97_51 : fnd 97 51 = some (51, .getfield 182, 3, 8, 1, 1, 0) := ceB_eq (by decide +kernel)
theorem f_97_54 : fnd 97 54 = some (54, .iconst (-1), 1, 0, 0, 0, 0) := ceB_eq (by decide +kernel)
theorem f_97_55 : fnd 97 55 = some (55, .if_icmp .ne 9, 3, 0, 0, 0, 0) := ceB_eq (by decide +kernel)
theorem f_97_58 : fnd 97 58 = some (58, .iload 4, 2, 0, 0, 0, 0) := ceB_eq (by decide +kernel)
theorem f_97_60 : fnd 97 60 = some (60, .iload_n 2, 1, 0, 0, 0, 0) := ceB_eq (by decide +kernel)
theorem f_97_61 : fnd 97 61 = some (61, .if_icmp .ne 9, 3, 0, 0, 0, 0) := ceB_eq (by decide +kernel)
theorem f_97_64 : fnd 97 64 = some (64, .aload_n 0, 1, 0, 0, 0, 0) := ceB_eq (by decide +kernel)
theorem f_97_65 : fnd 97 65 = some (65, .iconst 2, 1, 0, 0, 0, 0) := ceB_eq (by decide +kernel)
theorem f_97_66 : fnd 97 66 = some (66, .invokevirtual 85, 3, 53, 2, 3, 0) := ceB_eq (by decide +kernel)
theorem f_97_69 : fnd 97 69 = some (69, .ireturn, 1, 0, 0, 0, 0) := ceB_eq (by decide +kernel)
theorem f_97_70 : fnd 97 70 = some (70, .aload_n 3, 1, 0, 0, 0, 0) := ceB_eq (by decide +kernel)
theorem f_97_71 : fnd 97 71 = some (71, .iload_n 2, 1, 0, 0, 0, 0) := ceB_eq (by decide +kernel)
theorem f_97_72 : fnd 97 72 = some (72, .putfield 213, 3, 8, 0, 0, 0) := ceB_eq (by decide +kernel)
theorem f_97_75 : fnd 97 75 = some (75, .iload 4, 2, 0, 0, 0, 0) := ceB_eq (by decide +kernel)
theorem f_97_77 : fnd 97 77 = some (77, .ireturn, 1, 0, 0, 0, 0) := ceB_eq (by decide +kernel)
theorem rk_97 : rkm 97 = 0 := by decide +kernel
theorem ml_97 : (mth 97).2.1 = 5 := by decide +kernel
set_option maxRecDepth 100000 in
theorem T_Acts_tellRegister (k0 i0 x1 x2 : Int) (σ : ST) (Q : Option AV → ST → Prop) (h :
  wpM m_World_isCore [.inr (.inr (12, k0, 0)), .inl x1] σ (asI fun r101 s101 =>
  (((r101 ≠ 0 : Prop) →
    (((x2 < 0 : Prop) →
      wpM m_Acts_refuse [.inr (.inr (11, k0, i0)), .inl 1] s101 (asI fun r102 s102 =>
      Q (some (.inl r102)) s102)) ∧
    (¬ (x2 < 0) →
      (((x2 ≤ 999 : Prop) →
        ((0 : Int) ≤ x1 ∧ (x1 : Int) < 3) ∧
        ((((s101 21 k0 x1 1) ≠ (-1) : Prop) →
          wpM m_Acts_refuse [.inr (.inr (11, k0, i0)), .inl 2] s101 (asI fun r103 s103 =>
          Q (some (.inl r103)) s103)) ∧
        (¬ ((s101 21 k0 x1 1) ≠ (-1)) →
          ((((s101 21 k0 x1 0) ≠ x2 : Prop) →
            Q (some (.inl (s101 21 k0 x1 0))) (up s101 21 k0 x1 0 x2)) ∧
          (¬ ((s101 21 k0 x1 0) ≠ x2) →
            wpM m_Acts_refuse [.inr (.inr (11, k0, i0)), .inl 2] s101 (asI fun r104 s104 =>
            Q (some (.inl r104)) s104)))))) ∧
      (¬ (x2 ≤ 999) →
        wpM m_Acts_refuse [.inr (.inr (11, k0, i0)), .inl 1] s101 (asI fun r107 s107 =>
        Q (some (.inl r107)) s107)))))) ∧
  (¬ (r101 ≠ 0) →
    wpM m_Acts_refuse [.inr (.inr (11, k0, i0)), .inl 0] s101 (asI fun r110 s110 =>
    Q (some (.inl r110)) s110))))) :
  wpM m_Acts_tellRegister [.inr (.inr (11, k0, i0)), .inl x1, .inl x2] σ Q :=
 wpM_of ml_97 (L := [some (.inr (.inr (11, k0, i0))), some (.inl x1), some (.inl x2), none, none]) rfl
 (w_aload_n (p' := 1) f_97_0 rfl rfl
 (w_getfield (p' := 4) f_97_1 rfl (x := .inr (.inr (12, k0, 0))) rfl rfl
 (w_iload_n (p' := 5) f_97_4 rfl rfl
 (w_callV (p' := 8) f_97_5 rfl rfl rfl rfl rfl (r := []) rfl rfl (kI (.inr rk_40) fun r101 s101 h101 =>
 w_if (p' := 17) (q' := 11) f_97_8 rfl rfl
 (fun c111 => w_iload_n (p' := 18) f_97_17 rfl rfl
 (w_if (p' := 28) (q' := 21) f_97_18 rfl rfl
 (fun c109 => w_aload_n (p' := 29) f_97_28 rfl rfl
 (w_iconst (p' := 30) f_97_29 rfl
 (w_callV (p' := 33) f_97_30 rfl rfl rfl rfl rfl (r := []) rfl rfl (kI (.inl rk_53) fun r102 s102 h102 =>
 w_iret f_97_33 rk_97 h102) ((h101.1 c111).1 c109))))
 (fun c109 => w_iload_n (p' := 22) f_97_21 rfl rfl
 (w_sipush (p' := 25) f_97_22 rfl
 (w_icmp (p' := 34) (q' := 28) f_97_25 rfl rfl
 (fun c108 => w_aload_n (p' := 35) f_97_34 rfl rfl
 (w_getfield (p' := 38) f_97_35 rfl (x := .inr (.inr (12, k0, 0))) rfl rfl
 (w_getfield (p' := 41) f_97_38 rfl (x := .inr (.inr (20, k0, 0))) rfl rfl
 (w_iload_n (p' := 42) f_97_41 rfl rfl
 (w_aaload (p' := 43) f_97_42 rfl (n := 3) rfl (x := (21, k0, x1)) rfl (((h101.1 c111).2 c109).1 c108).1 rfl
 (w_astore_n (p' := 44) f_97_43 (L' := [some (.inr (.inr (11, k0, i0))), some (.inl x1), some (.inl x2), some (.inr (.inr (21, k0, x1))), none]) rfl rfl
 (w_aload_n (p' := 45) f_97_44 rfl rfl
 (w_getfield (p' := 48) f_97_45 rfl (x := .inl (s101 21 k0 x1 0)) rfl rfl
 (w_istore (p' := 50) f_97_48 (L' := [some (.inr (.inr (11, k0, i0))), some (.inl x1), some (.inl x2), some (.inr (.inr (21, k0, x1))), some (.inl (s101 21 k0 x1 0))]) rfl rfl
 (w_aload_n (p' := 51) f_97_50 rfl rfl
 (w_getfield (p' := 54) f_97_51 rfl (x := .inl (s101 21 k0 x1 1)) rfl rfl
 (w_iconst (p' := 55) f_97_54 rfl
 (w_icmp (p' := 64) (q' := 58) f_97_55 rfl rfl
 (fun c106 => w_aload_n (p' := 65) f_97_64 rfl rfl
 (w_iconst (p' := 66) f_97_65 rfl
 (w_callV (p' := 69) f_97_66 rfl rfl rfl rfl rfl (r := []) rfl rfl (kI (.inl rk_53) fun r103 s103 h103 =>
 w_iret f_97_69 rk_97 h103) ((((h101.1 c111).2 c109).1 c108).2.1 c106))))
 (fun c106 => w_iload (p' := 60) f_97_58 rfl rfl
 (w_iload_n (p' := 61) f_97_60 rfl rfl
 (w_icmp (p' := 70) (q' := 64) f_97_61 rfl rfl
 (fun c105 => w_aload_n (p' := 71) f_97_70 rfl rfl
 (w_iload_n (p' := 72) f_97_71 rfl rfl
 (w_putI (p' := 75) f_97_72 rfl rfl (c' := 0) rfl rfl
 (w_iload (p' := 77) f_97_75 rfl rfl
 (w_iret f_97_77 rk_97 (((((h101.1 c111).2 c109).1 c108).2.2 c106).1 c105))))))
 (fun c105 => w_aload_n (p' := 65) f_97_64 rfl rfl
 (w_iconst (p' := 66) f_97_65 rfl
 (w_callV (p' := 69) f_97_66 rfl rfl rfl rfl rfl (r := []) rfl rfl (kI (.inl rk_53) fun r104 s104 h104 =>
 w_iret f_97_69 rk_97 h104) (((((h101.1 c111).2 c109).1 c108).2.2 c106).2 c105))))))))))))))))))))
 (fun c108 => w_aload_n (p' := 29) f_97_28 rfl rfl
 (w_iconst (p' := 30) f_97_29 rfl
 (w_callV (p' := 33) f_97_30 rfl rfl rfl rfl rfl (r := []) rfl rfl (kI (.inl rk_53) fun r107 s107 h107 =>
 w_iret f_97_33 rk_97 h107) (((h101.1 c111).2 c109).2 c108)))))))))
 (fun c111 => w_aload_n (p' := 12) f_97_11 rfl rfl
 (w_iconst (p' := 13) f_97_12 rfl
 (w_callV (p' := 16) f_97_13 rfl rfl rfl rfl rfl (r := []) rfl rfl (kI (.inl rk_53) fun r110 s110 h110 =>
 w_iret f_97_16 rk_97 h110) (h101.2 c111))))) h))))
/-! ClosedRooms$Acts.carryOut(IIIIII)I -/
theorem f_98_0 : fnd 98 0 = some (0, .aload_n 0, 1, 0, 0, 0, 0) := ceB_eq (by decide +kernel)
theorem f_98_1 : fnd 98 1 = some (1, .iconst (-1), 1, 0, 0, 0, 0) := ceB_eq (by decide +kernel)
theorem f_98_2 : fnd 98 2 = some (2, .putfield 18, 3, 3, 1, 1, 0) := ceB_eq (by decide +kernel)
theorem f_98_5 : fnd 98 5 = some (5, .iload_n 1, 1, 0, 0, 0, 0) := ceB_eq (by decide +kernel)
theorem f_98_6 : fnd 98 6 = some (6, .tableswitch 244 0 19 #[94, 100, 105, 118, 125, 132, 142, 148, 154, 164, 173, 179, 185, 194, 203, 209, 218, 224, 231, 237], 94, 0, 0, 0, 0) := ceB_eq (by decide +kernel)
theorem f_98_100 : fnd 98 100 = some (100, .aload_n 0, 1, 0, 0, 0, 0) := ceB_eq (by decide +kernel)
theorem f_98_101 : fnd 98 101 = some (101, .iload_n 2, 1, 0, 0, 0, 0) := ceB_eq (by decide +kernel)
theorem f_98_102 : fnd 98 102 = some (102, .invokevirtual 22, 3, 57, 2, 3, 0) := ceB_eq (by decide +kernel)
theorem f_98_105 : fnd 98 105 = some (105, .ireturn, 1, 0, 0, 0, 0) := ceB_eq (by decide +kernel)
theorem f_98_106 : fnd 98 106 = some (106, .aload_n 0, 1, 0, 0, 0, 0) := ceB_eq (by decide +kernel)
theorem f_98_107 : fnd 98 107 = some (107, .invokevirtual 26, 3, 58, 1, 3, 0) := ceB_eq (by decide +kernel)
theorem f_98_110 : fnd 98 110 = some (110, .ireturn, 1, 0, 0, 0, 0) := ceB_eq (by decide +kernel)
theorem f_98_111 : fnd 98 111 = some (111, .aload_n 0, 1, 0, 0, 0, 0) := ceB_eq (by decide +kernel)
theorem f_98_112 : fnd 98 112 = some (112, .iload_n 2, 1, 0, 0, 0, 0) := ceB_eq (by decide +kernel)
theorem f_98_113 : fnd 98 113 = some (113, .iload_n 3, 1, 0, 0, 0, 0) := ceB_eq (by decide +kernel)
theorem f_98_114 : fnd 98 114 = some (114, .iload 4, 2, 0, 0, 0, 0) := ceB_eq (by decide +kernel)
theorem f_98_116 : fnd 98 116 = some (116, .iload 5, 2, 0, 0, 0, 0) := ceB_eq (by decide +kernel)
theorem f_98_118 : fnd 98 118 = some (118, .iload 6, 2, 0, 0, 0, 0) := ceB_eq (by decide +kernel)
theorem f_98_120 : fnd 98 120 = some (120, .invokevirtual 30, 3, 62, 6, 3, 0) := ceB_eq (by decide +kernel)
theorem f_98_123 : fnd 98 123 = some (123, .ireturn, 1, 0, 0, 0, 0) := ceB_eq (by decide +kernel)
theorem f_98_124 : fnd 98 124 = some (124, .aload_n 0, 1, 0, 0, 0, 0) := ceB_eq (by decide +kernel)
theorem f_98_125 : fnd 98 125 = some (125, .iload_n 2, 1, 0, 0, 0, 0) := ceB_eq (by decide +kernel)
theorem f_98_126 : fnd 98 126 = some (126, .iload_n 3, 1, 0, 0, 0, 0) := ceB_eq (by decide +kernel)
theorem f_98_127 : fnd 98 127 = some (127, .invokevirtual 34, 3, 65, 3, 3, 0) := ceB_eq (by decide +kernel)
theorem f_98_130 : fnd 98 130 = some (130, .ireturn, 1, 0, 0, 0, 0) := ceB_eq (by decide +kernel)
theorem f_98_131 : fnd 98 131 = some (131, .aload_n 0, 1, 0, 0, 0, 0) := ceB_eq (by decide +kernel)
theorem f_98_132 : fnd 98 132 = some (132, .iload_n 2, 1, 0, 0, 0, 0) := ceB_eq (by decide +kernel)
theorem f_98_133 : fnd 98 133 = some (133, .iload_n 3, 1, 0, 0, 0, 0) := ceB_eq (by decide +kernel)
theorem f_98_134 : fnd 98 134 = some (134, .invokevirtual 38, 3, 66, 3, 3, 0) := ceB_eq (by decide +kernel)
theorem f_98_137 : fnd 98 137 = some (137, .ireturn, 1, 0, 0, 0, 0) := ceB_eq (by decide +kernel)
theorem f_98_138 : fnd 98 138 = some (138, .aload_n 0, 1, 0, 0, 0, 0) := ceB_eq (by decide +kernel)
theorem f_98_139 : fnd 98 139 = some (139, .iload_n 2, 1, 0, 0, 0, 0) := ceB_eq (by decide +kernel)
theorem f_98_140 : fnd 98 140 = some (140, .iload_n 3, 1, 0, 0, 0, 0) := ceB_eq (by decide +kernel)
theorem f_98_141 : fnd 98 141 = some (141, .iload 4, 2, 0, 0, 0, 0) := ceB_eq (by decide +kernel)
theorem f_98_143 : fnd 98 143 = some (143, .iconst 0, 1, 0, 0, 0, 0) := ceB_eq (by decide +kernel)
theorem f_98_144 : fnd 98 144 = some (144, .invokevirtual 41, 3, 69, 5, 3, 0) := ceB_eq (by decide +kernel)
theorem f_98_147 : fnd 98 147 = some (147, .ireturn, 1, 0, 0, 0, 0) := ceB_eq (by decide +kernel)
theorem f_98_148 : fnd 98 148 = some (148, .aload_n 0, 1, 0, 0, 0, 0) := ceB_eq (by decide +kernel)
theorem f_98_149 : fnd 98 149 = some (149, .iload_n 2, 1, 0, 0, 0, 0) := ceB_eq (by decide +kernel)
theorem f_98_150 : fnd 98 150 = some (150, .invokevirtual 45, 3, 71, 2, 3, 0) := ceB_eq (by decide +kernel)
theorem f_98_153 : fnd 98 153 = some (153, .ireturn, 1, 0, 0, 0, 0) := ceB_eq (by decide +kernel)
theorem f_98_154 : fnd 98 154 = some (154, .aload_n 0, 1, 0, 0, 0, 0) := ceB_eq (by decide +kernel)
theorem f_98_155 : fnd 98 155 = some (155, .iload_n 2, 1, 0, 0, 0, 0) := ceB_eq (by decide +kernel)
theorem f_98_156 : fnd 98 156 = some (156, .invokevirtual 48, 3, 72, 2, 3, 0) := ceB_eq (by decide +kernel)
theorem f_98_159 : fnd 98 159 = some (159, .ireturn, 1, 0, 0, 0, 0) := ceB_eq (by decide +kernel)
theorem f_98_160 : fnd 98 160 = some (160, .aload_n 0, 1, 0, 0, 0, 0) := ceB_eq (by decide +kernel)
theorem f_98_161 : fnd 98 161 = some (161, .iload_n 2, 1, 0, 0, 0, 0) := ceB_eq (by decide +kernel)
theorem f_98_162 : fnd 98 162 = some (162, .iload_n 3, 1, 0, 0, 0, 0) := ceB_eq (by decide +kernel)
theorem f_98_163 : fnd 98 163 = some (163, .iload 4, 2, 0, 0, 0, 0) := ceB_eq (by decide +kernel)
theorem f_98_165 : fnd 98 165 = some (165, .iconst 2, 1, 0, 0, 0, 0) := ceB_eq (by decide +kernel)
theorem f_98_166 : fnd 98 166 = some (166, .invokevirtual 41, 3, 69, 5, 3, 0) := ceB_eq (by decide +kernel)
theorem f_98_169 : fnd 98 169 = some (169, .ireturn, 1, 0, 0, 0, 0) := ceB_eq (by decide +kernel)
theorem f_98_170 : fnd 98 170 = some (170, .aload_n 0, 1, 0, 0, 0, 0) := ceB_eq (by decide +kernel)
theorem f_98_171 : fnd 98 171 = some (171, .iload_n 2, 1, 0, 0, 0, 0) := ceB_eq (by decide +kernel)
theorem f_98_172 : fnd 98 172 = some (172, .iload_n 3, 1, 0, 0, 0, 0) := ceB_eq (by decide +kernel)
theorem f_98_173 : fnd 98 173 = some (173, .iload 4, 2, 0, 0, 0, 0) := ceB_eq (by decide +kernel)
theorem f_98_175 : fnd 98 175 = some (175, .invokevirtual 51, 3, 76, 4, 3, 0) := ceB_eq (by decide +kernel)
theorem f_98_178 : fnd 98 178 = some (178, .ireturn, 1, 0, 0, 0, 0) := ceB_eq (by decide +kernel)
theorem f_98_179 : fnd 98 179 = some (179, .aload_n 0, 1, 0, 0, 0, 0) := ceB_eq (by decide +kernel)
theorem f_98_180 : fnd 98 180 = some (180, .iload_n 2, 1, 0, 0, 0, 0) := ceB_eq (by decide +kernel)
theorem f_98_181 : fnd 98 181 = some (181, .invokevirtual 55, 3, 79, 2, 3, 0) := ceB_eq (by decide +kernel)
theorem f_98_184 : fnd 98 184 = some (184, .ireturn, 1, 0, 0, 0, 0) := ceB_eq (by decide +kernel)
theorem f_98_185 : fnd 98 185 = some (185, .aload_n 0, 1, 0, 0, 0, 0) := ceB_eq (by decide +kernel)
theorem f_98_186 : fnd 98 186 = some (186, .iload_n 2, 1, 0, 0, 0, 0) := ceB_eq (by decide +kernel)
theorem f_98_187 : fnd 98 187 = some (187, .invokevirtual 58, 3, 81, 2, 3, 0) := ceB_eq (by decide +kernel)
theorem f_98_190 : fnd 98 190 = some (190, .ireturn, 1, 0, 0, 0, 0) := ceB_eq (by decide +kernel)
theorem f_98_191 : fnd 98 191 = some (191, .aload_n 0, 1, 0, 0, 0, 0) := ceB_eq (by decide +kernel)
theorem f_98_192 : fnd 98 192 = some (192, .iload_n 2, 1, 0, 0, 0, 0) := ceB_eq (by decide +kernel)
theorem f_98_193 : fnd 98 193 = some (193, .iload_n 3, 1, 0, 0, 0, 0) := ceB_eq (by decide +kernel)
theorem f_98_194 : fnd 98 194 = some (194, .iload 4, 2, 0, 0, 0, 0) := ceB_eq (by decide +kernel)
theorem f_98_196 : fnd 98 196 = some (196, .invokevirtual 61, 3, 87, 4, 3, 0) := ceB_eq (by decide +kernel)
theorem f_98_199 : fnd 98 199 = some (199, .ireturn, 1, 0, 0, 0, 0) := ceB_eq (by decide +kernel)
theorem f_98_200 : fnd 98 200 = some (200, .aload_n 0, 1, 0, 0, 0, 0) := ceB_eq (by decide +kernel)
theorem f_98_201 : fnd 98 201 = some (201, .iload_n 2, 1, 0, 0, 0, 0) := ceB_eq (by decide +kernel)
theorem f_98_202 : fnd 98 202 = some (202, .iload_n 3, 1, 0, 0, 0, 0) := ceB_eq (by decide +kernel)
theorem f_98_203 : fnd 98 203 = some (203, .iload 4, 2, 0, 0, 0, 0) := ceB_eq (by decide +kernel)
theorem f_98_205 : fnd 98 205 = some (205, .invokevirtual 64, 3, 90, 4, 3, 0) := ceB_eq (by decide +kernel)
theorem f_98_208 : fnd 98 208 = some (208, .ireturn, 1, 0, 0, 0, 0) := ceB_eq (by decide +kernel)
theorem f_98_209 : fnd 98 209 = some (209, .aload_n 0, 1, 0, 0, 0, 0) := ceB_eq (by decide +kernel)
theorem f_98_210 : fnd 98 210 = some (210, .iload_n 2, 1, 0, 0, 0, 0) := ceB_eq (by decide +kernel)
theorem f_98_211 : fnd 98 211 = some (211, .invokevirtual 67, 3, 92, 2, 3, 0) := ceB_eq (by decide +kernel)
theorem f_98_214 : fnd 98 214 = some (214, .ireturn, 1, 0, 0, 0, 0) := ceB_eq (by decide +kernel)
theorem f_98_215 : fnd 98 215 = some (215, .aload_n 0, 1, 0, 0, 0, 0) := ceB_eq (by decide +kernel)
theorem f_98_216 : fnd 98 216 = some (216, .iload_n 2, 1, 0, 0, 0, 0) := ceB_eq (by decide +kernel)
theorem f_98_217 : fnd 98 217 = some (217, .iload_n 3, 1, 0, 0, 0, 0) := ceB_eq (by decide +kernel)
theorem f_98_218 : fnd 98 218 = some (218, .iload 4, 2, 0, 0, 0, 0) := ceB_eq (by decide +kernel)
theorem f_98_220 : fnd 98 220 = some (220, .invokevirtual 70, 3, 93, 4, 3, 0) := ceB_eq (by decide +kernel)
theorem f_98_223 : fnd 98 223 = some (223, .ireturn, 1, 0, 0, 0, 0) := ceB_eq (by decide +kernel)
theorem f_98_224 : fnd 98 224 = some (224, .aload_n 0, 1, 0, 0, 0, 0) := ceB_eq (by decide +kernel)
theorem f_98_225 : fnd 98 225 = some (225, .iload_n 2, 1, 0, 0, 0, 0) := ceB_eq (by decide +kernel)
theorem f_98_226 : fnd 98 226 = some (226, .invokevirtual 73, 3, 94, 2, 3, 0) := ceB_eq (by decide +kernel)
theorem f_98_229 : fnd 98 229 = some (229, .ireturn, 1, 0, 0, 0, 0) := ceB_eq (by decide +kernel)
theorem f_98_230 : fnd 98 230 = some (230, .aload_n 0, 1, 0, 0, 0, 0) := ceB_eq (by decide +kernel)
theorem f_98_231 : fnd 98 231 = some (231, .iload_n 2, 1, 0, 0, 0, 0) := ceB_eq (by decide +kernel)
theorem f_98_232 : fnd 98 232 = some (232, .iload_n 3, 1, 0, 0, 0, 0) := ceB_eq (by decide +kernel)
theorem f_98_233 : fnd 98 233 = some (233, .invokevirtual 76, 3, 95, 3, 3, 0) := ceB_eq (by decide +kernel)
theorem f_98_236 : fnd 98 236 = some (236, .ireturn, 1, 0, 0, 0, 0) := ceB_eq (by decide +kernel)
theorem f_98_237 : fnd 98 237 = some (237, .aload_n 0, 1, 0, 0, 0, 0) := ceB_eq (by decide +kernel)
theorem f_98_238 : fnd 98 238 = some (238, .iload_n 2, 1, 0, 0, 0, 0) := ceB_eq (by decide +kernel)
theorem f_98_239 : fnd 98 239 = some (239, .invokevirtual 79, 3, 96, 2, 3, 0) := ceB_eq (by decide +kernel)
theorem f_98_242 : fnd 98 242 = some (242, .ireturn, 1, 0, 0, 0, 0) := ceB_eq (by decide +kernel)
theorem f_98_243 : fnd 98 243 = some (243, .aload_n 0, 1, 0, 0, 0, 0) := ceB_eq (by decide +kernel)
theorem f_98_244 : fnd 98 244 = some (244, .iload_n 2, 1, 0, 0, 0, 0) := ceB_eq (by decide +kernel)
theorem f_98_245 : fnd 98 245 = some (245, .iload_n 3, 1, 0, 0, 0, 0) := ceB_eq (by decide +kernel)
theorem f_98_246 : fnd 98 246 = some (246, .invokevirtual 82, 3, 97, 3, 3, 0) := ceB_eq (by decide +kernel)
theorem f_98_249 : fnd 98 249 = some (249, .ireturn, 1, 0, 0, 0, 0) := ceB_eq (by decide +kernel)
theorem f_98_250 : fnd 98 250 = some (250, .aload_n 0, 1, 0, 0, 0, 0) := ceB_eq (by decide +kernel)
theorem f_98_251 : fnd 98 251 = some (251, .iconst 0, 1, 0, 0, 0, 0) := ceB_eq (by decide +kernel)
theorem f_98_252 : fnd 98 252 = some (252, .invokevirtual 85, 3, 53, 2, 3, 0) := ceB_eq (by decide +kernel)
theorem f_98_255 : fnd 98 255 = some (255, .ireturn, 1, 0, 0, 0, 0) := ceB_eq (by decide +kernel)
theorem rk_98 : rkm 98 = 0 := by decide +kernel
theorem ml_98 : (mth 98).2.1 = 7 := by decide +kernel
set_option maxRecDepth 100000 in
theorem T_Acts_carryOut (k0 i0 x1 x2 x3 x4 x5 x6 : Int) (σ : ST) (Q : Option AV → ST → Prop) (h :
  ((x1 = 0 →
    wpM m_Acts_makeRoom [.inr (.inr (11, k0, i0)), .inl x2] (up σ 11 k0 i0 1 (-1)) (asI fun r101 s101 =>
    Q (some (.inl r101)) s101)) ∧ (x1 ≠ 0 →
  ((x1 = 1 →
    wpM m_Acts_makeSlots [.inr (.inr (11, k0, i0))] (up σ 11 k0 i0 1 (-1)) (asI fun r102 s102 =>
    Q (some (.inl r102)) s102)) ∧ (x1 ≠ 1 →
  ((x1 = 2 →
    wpM m_Acts_addPage [.inr (.inr (11, k0, i0)), .inl x2, .inl x3, .inl x4, .inl x5, .inl x6] (up σ 11 k0 i0 1 (-1)) (asI fun r103 s103 =>
    Q (some (.inl r103)) s103)) ∧ (x1 ≠ 2 →
  ((x1 = 3 →
    wpM m_Acts_extendBy [.inr (.inr (11, k0, i0)), .inl x2, .inl x3] (up σ 11 k0 i0 1 (-1)) (asI fun r104 s104 =>
    Q (some (.inl r104)) s104)) ∧ (x1 ≠ 3 →
  ((x1 = 4 →
    wpM m_Acts_sealRoom [.inr (.inr (11, k0, i0)), .inl x2, .inl x3] (up σ 11 k0 i0 1 (-1)) (asI fun r105 s105 =>
    Q (some (.inl r105)) s105)) ∧ (x1 ≠ 4 →
  ((x1 = 5 →
    wpM m_Acts_goIn [.inr (.inr (11, k0, i0)), .inl x2, .inl x3, .inl x4, .inl 0] (up σ 11 k0 i0 1 (-1)) (asI fun r106 s106 =>
    Q (some (.inl r106)) s106)) ∧ (x1 ≠ 5 →
  ((x1 = 6 →
    wpM m_Acts_goOut [.inr (.inr (11, k0, i0)), .inl x2] (up σ 11 k0 i0 1 (-1)) (asI fun r107 s107 =>
    Q (some (.inl r107)) s107)) ∧ (x1 ≠ 6 →
  ((x1 = 7 →
    wpM m_Acts_goOutInHaste [.inr (.inr (11, k0, i0)), .inl x2] (up σ 11 k0 i0 1 (-1)) (asI fun r108 s108 =>
    Q (some (.inl r108)) s108)) ∧ (x1 ≠ 7 →
  ((x1 = 8 →
    wpM m_Acts_goIn [.inr (.inr (11, k0, i0)), .inl x2, .inl x3, .inl x4, .inl 2] (up σ 11 k0 i0 1 (-1)) (asI fun r109 s109 =>
    Q (some (.inl r109)) s109)) ∧ (x1 ≠ 8 →
  ((x1 = 9 →
    wpM m_Acts_touchPage [.inr (.inr (11, k0, i0)), .inl x2, .inl x3, .inl x4] (up σ 11 k0 i0 1 (-1)) (asI fun r110 s110 =>
    Q (some (.inl r110)) s110)) ∧ (x1 ≠ 9 →
  ((x1 = 10 →
    wpM m_Acts_blockPage [.inr (.inr (11, k0, i0)), .inl x2] (up σ 11 k0 i0 1 (-1)) (asI fun r111 s111 =>
    Q (some (.inl r111)) s111)) ∧ (x1 ≠ 10 →
  ((x1 = 11 →
    wpM m_Acts_trackRoom [.inr (.inr (11, k0, i0)), .inl x2] (up σ 11 k0 i0 1 (-1)) (asI fun r112 s112 =>
    Q (some (.inl r112)) s112)) ∧ (x1 ≠ 11 →
  ((x1 = 12 →
    wpM m_Acts_evictPage [.inr (.inr (11, k0, i0)), .inl x2, .inl x3, .inl x4] (up σ 11 k0 i0 1 (-1)) (asI fun r113 s113 =>
    Q (some (.inl r113)) s113)) ∧ (x1 ≠ 12 →
  ((x1 = 13 →
    wpM m_Acts_loadCopy [.inr (.inr (11, k0, i0)), .inl x2, .inl x3, .inl x4] (up σ 11 k0 i0 1 (-1)) (asI fun r114 s114 =>
    Q (some (.inl r114)) s114)) ∧ (x1 ≠ 13 →
  ((x1 = 14 →
    wpM m_Acts_removePage [.inr (.inr (11, k0, i0)), .inl x2] (up σ 11 k0 i0 1 (-1)) (asI fun r115 s115 =>
    Q (some (.inl r115)) s115)) ∧ (x1 ≠ 14 →
  ((x1 = 15 →
    wpM m_Acts_tellMap [.inr (.inr (11, k0, i0)), .inl x2, .inl x3, .inl x4] (up σ 11 k0 i0 1 (-1)) (asI fun r116 s116 =>
    Q (some (.inl r116)) s116)) ∧ (x1 ≠ 15 →
  ((x1 = 16 →
    wpM m_Acts_doubleCopy [.inr (.inr (11, k0, i0)), .inl x2] (up σ 11 k0 i0 1 (-1)) (asI fun r117 s117 =>
    Q (some (.inl r117)) s117)) ∧ (x1 ≠ 16 →
  ((x1 = 17 →
    wpM m_Acts_changeCopy [.inr (.inr (11, k0, i0)), .inl x2, .inl x3] (up σ 11 k0 i0 1 (-1)) (asI fun r118 s118 =>
    Q (some (.inl r118)) s118)) ∧ (x1 ≠ 17 →
  ((x1 = 18 →
    wpM m_Acts_dropCopy [.inr (.inr (11, k0, i0)), .inl x2] (up σ 11 k0 i0 1 (-1)) (asI fun r119 s119 =>
    Q (some (.inl r119)) s119)) ∧ (x1 ≠ 18 →
  ((x1 = 19 →
    wpM m_Acts_tellRegister [.inr (.inr (11, k0, i0)), .inl x2, .inl x3] (up σ 11 k0 i0 1 (-1)) (asI fun r120 s120 =>
    Q (some (.inl r120)) s120)) ∧ (x1 ≠ 19 →
    wpM m_Acts_refuse [.inr (.inr (11, k0, i0)), .inl 0] (up σ 11 k0 i0 1 (-1)) (asI fun r121 s121 =>
    Q (some (.inl r121)) s121)))))))))))))))))))))))))))))))))))))))))) :
  wpM m_Acts_carryOut [.inr (.inr (11, k0, i0)), .inl x1, .inl x2, .inl x3, .inl x4, .inl x5, .inl x6] σ Q :=
 wpM_of ml_98 (L := [some (.inr (.inr (11, k0, i0))), some (.inl x1), some (.inl x2), some (.inl x3), some (.inl x4), some (.inl x5), some (.inl x6)]) rfl
 (w_aload_n (p' := 1) f_98_0 rfl rfl
 (w_iconst (p' := 2) f_98_1 rfl
 (w_putI (p' := 5) f_98_2 rfl rfl (c' := 1) rfl rfl
 (w_iload_n (p' := 6) f_98_5 rfl rfl
 (w_switch f_98_6 (cs := [(0, 100), (1, 106), (2, 111), (3, 124), (4, 131), (5, 138), (6, 148), (7, 154), (8, 160), (9, 170), (10, 179), (11, 185), (12, 191), (13, 200), (14, 209), (15, 215), (16, 224), (17, 230), (18, 237), (19, 243)]) rfl (d' := 250) rfl
 (⟨fun c122 => w_aload_n (p' := 101) f_98_100 rfl rfl
 (w_iload_n (p' := 102) f_98_101 rfl rfl
 (w_callV (p' := 105) f_98_102 rfl rfl rfl rfl rfl (r := []) rfl rfl (kI (.inl rk_57) fun r101 s101 h101 =>
 w_iret f_98_105 rk_98 h101) (h.1 c122))), fun c122_0 =>
 ⟨fun c122 => w_aload_n (p' := 107) f_98_106 rfl rfl
 (w_callV (p' := 110) f_98_107 rfl rfl rfl rfl rfl (r := []) rfl rfl (kI (.inl rk_58) fun r102 s102 h102 =>
 w_iret f_98_110 rk_98 h102) ((h.2 c122_0).1 c122)), fun c122_1 =>
 ⟨fun c122 => w_aload_n (p' := 112) f_98_111 rfl rfl
 (w_iload_n (p' := 113) f_98_112 rfl rfl
 (w_iload_n (p' := 114) f_98_113 rfl rfl
 (w_iload (p' := 116) f_98_114 rfl rfl
 (w_iload (p' := 118) f_98_116 rfl rfl
 (w_iload (p' := 120) f_98_118 rfl rfl
 (w_callV (p' := 123) f_98_120 rfl rfl rfl rfl rfl (r := []) rfl rfl (kI (.inl rk_62) fun r103 s103 h103 =>
 w_iret f_98_123 rk_98 h103) (((h.2 c122_0).2 c122_1).1 c122))))))), fun c122_2 =>
 ⟨fun c122 => w_aload_n (p' := 125) f_98_124 rfl rfl
 (w_iload_n (p' := 126) f_98_125 rfl rfl
 (w_iload_n (p' := 127) f_98_126 rfl rfl
 (w_callV (p' := 130) f_98_127 rfl rfl rfl rfl rfl (r := []) rfl rfl (kI (.inl rk_65) fun r104 s104 h104 =>
 w_iret f_98_130 rk_98 h104) ((((h.2 c122_0).2 c122_1).2 c122_2).1 c122)))), fun c122_3 =>
 ⟨fun c122 => w_aload_n (p' := 132) f_98_131 rfl rfl
 (w_iload_n (p' := 133) f_98_132 rfl rfl
 (w_iload_n (p' := 134) f_98_133 rfl rfl
 (w_callV (p' := 137) f_98_134 rfl rfl rfl rfl rfl (r := []) rfl rfl (kI (.inl rk_66) fun r105 s105 h105 =>
 w_iret f_98_137 rk_98 h105) (((((h.2 c122_0).2 c122_1).2 c122_2).2 c122_3).1 c122)))), fun c122_4 =>
 ⟨fun c122 => w_aload_n (p' := 139) f_98_138 rfl rfl
 (w_iload_n (p' := 140) f_98_139 rfl rfl
 (w_iload_n (p' := 141) f_98_140 rfl rfl
 (w_iload (p' := 143) f_98_141 rfl rfl
 (w_iconst (p' := 144) f_98_143 rfl
 (w_callV (p' := 147) f_98_144 rfl rfl rfl rfl rfl (r := []) rfl rfl (kI (.inl rk_69) fun r106 s106 h106 =>
 w_iret f_98_147 rk_98 h106) ((((((h.2 c122_0).2 c122_1).2 c122_2).2 c122_3).2 c122_4).1 c122)))))), fun c122_5 =>
 ⟨fun c122 => w_aload_n (p' := 149) f_98_148 rfl rfl
 (w_iload_n (p' := 150) f_98_149 rfl rfl
 (w_callV (p' := 153) f_98_150 rfl rfl rfl rfl rfl (r := []) rfl rfl (kI (.inl rk_71) fun r107 s107 h107 =>
 w_iret f_98_153 rk_98 h107) (((((((h.2 c122_0).2 c122_1).2 c122_2).2 c122_3).2 c122_4).2 c122_5).1 c122))), fun c122_6 =>
 ⟨fun c122 => w_aload_n (p' := 155) f_98_154 rfl rfl
 (w_iload_n (p' := 156) f_98_155 rfl rfl
 (w_callV (p' := 159) f_98_156 rfl rfl rfl rfl rfl (r := []) rfl rfl (kI (.inl rk_72) fun r108 s108 h108 =>
 w_iret f_98_159 rk_98 h108) ((((((((h.2 c122_0).2 c122_1).2 c122_2).2 c122_3).2 c122_4).2 c122_5).2 c122_6).1 c122))), fun c122_7 =>
 ⟨fun c122 => w_aload_n (p' := 161) f_98_160 rfl rfl
 (w_iload_n (p' := 162) f_98_161 rfl rfl
 (w_iload_n (p' := 163) f_98_162 rfl rfl
 (w_iload (p' := 165) f_98_163 rfl rfl
 (w_iconst (p' := 166) f_98_165 rfl
 (w_callV (p' := 169) f_98_166 rfl rfl rfl rfl rfl (r := []) rfl rfl (kI (.inl rk_69) fun r109 s109 h109 =>
 w_iret f_98_169 rk_98 h109) (((((((((h.2 c122_0).2 c122_1).2 c122_2).2 c122_3).2 c122_4).2 c122_5).2 c122_6).2 c122_7).1 c122)))))), fun c122_8 =>
 ⟨fun c122 => w_aload_n (p' := 171) f_98_170 rfl rfl
 (w_iload_n (p' := 172) f_98_171 rfl rfl
 (w_iload_n (p' := 173) f_98_172 rfl rfl
 (w_iload (p' := 175) f_98_173 rfl rfl
 (w_callV (p' := 178) f_98_175 rfl rfl rfl rfl rfl (r := []) rfl rfl (kI (.inl rk_76) fun r110 s110 h110 =>
 w_iret f_98_178 rk_98 h110) ((((((((((h.2 c122_0).2 c122_1).2 c122_2).2 c122_3).2 c122_4).2 c122_5).2 c122_6).2 c122_7).2 c122_8).1 c122))))), fun c122_9 =>
 ⟨fun c122 => w_aload_n (p' := 180) f_98_179 rfl rfl
 (w_iload_n (p' := 181) f_98_180 rfl rfl
 (w_callV (p' := 184) f_98_181 rfl rfl rfl rfl rfl (r := []) rfl rfl (kI (.inl rk_79) fun r111 s111 h111 =>
 w_iret f_98_184 rk_98 h111) (((((((((((h.2 c122_0).2 c122_1).2 c122_2).2 c122_3).2 c122_4).2 c122_5).2 c122_6).2 c122_7).2 c122_8).2 c122_9).1 c122))), fun c122_10 =>
 ⟨fun c122 => w_aload_n (p' := 186) f_98_185 rfl rfl
 (w_iload_n (p' := 187) f_98_186 rfl rfl
 (w_callV (p' := 190) f_98_187 rfl rfl rfl rfl rfl (r := []) rfl rfl (kI (.inl rk_81) fun r112 s112 h112 =>
 w_iret f_98_190 rk_98 h112) ((((((((((((h.2 c122_0).2 c122_1).2 c122_2).2 c122_3).2 c122_4).2 c122_5).2 c122_6).2 c122_7).2 c122_8).2 c122_9).2 c122_10).1 c122))), fun c122_11 =>
 ⟨fun c122 => w_aload_n (p' := 192) f_98_191 rfl rfl
 (w_iload_n (p' := 193) f_98_192 rfl rfl
 (w_iload_n (p' := 194) f_98_193 rfl rfl
 (w_iload (p' := 196) f_98_194 rfl rfl
 (w_callV (p' := 199) f_98_196 rfl rfl rfl rfl rfl (r := []) rfl rfl (kI (.inl rk_87) fun r113 s113 h113 =>
 w_iret f_98_199 rk_98 h113) (((((((((((((h.2 c122_0).2 c122_1).2 c122_2).2 c122_3).2 c122_4).2 c122_5).2 c122_6).2 c122_7).2 c122_8).2 c122_9).2 c122_10).2 c122_11).1 c122))))), fun c122_12 =>
 ⟨fun c122 => w_aload_n (p' := 201) f_98_200 rfl rfl
 (w_iload_n (p' := 202) f_98_201 rfl rfl
 (w_iload_n (p' := 203) f_98_202 rfl rfl
 (w_iload (p' := 205) f_98_203 rfl rfl
 (w_callV (p' := 208) f_98_205 rfl rfl rfl rfl rfl (r := []) rfl rfl (kI (.inl rk_90) fun r114 s114 h114 =>
 w_iret f_98_208 rk_98 h114) ((((((((((((((h.2 c122_0).2 c122_1).2 c122_2).2 c122_3).2 c122_4).2 c122_5).2 c122_6).2 c122_7).2 c122_8).2 c122_9).2 c122_10).2 c122_11).2 c122_12).1 c122))))), fun c122_13 =>
 ⟨fun c122 => w_aload_n (p' := 210) f_98_209 rfl rfl
 (w_iload_n (p' := 211) f_98_210 rfl rfl
 (w_callV (p' := 214) f_98_211 rfl rfl rfl rfl rfl (r := []) rfl rfl (kI (.inl rk_92) fun r115 s115 h115 =>
 w_iret f_98_214 rk_98 h115) (((((((((((((((h.2 c122_0).2 c122_1).2 c122_2).2 c122_3).2 c122_4).2 c122_5).2 c122_6).2 c122_7).2 c122_8).2 c122_9).2 c122_10).2 c122_11).2 c122_12).2 c122_13).1 c122))), fun c122_14 =>
 ⟨fun c122 => w_aload_n (p' := 216) f_98_215 rfl rfl
 (w_iload_n (p' := 217) f_98_216 rfl rfl
 (w_iload_n (p' := 218) f_98_217 rfl rfl
 (w_iload (p' := 220) f_98_218 rfl rfl
 (w_callV (p' := 223) f_98_220 rfl rfl rfl rfl rfl (r := []) rfl rfl (kI (.inl rk_93) fun r116 s116 h116 =>
 w_iret f_98_223 rk_98 h116) ((((((((((((((((h.2 c122_0).2 c122_1).2 c122_2).2 c122_3).2 c122_4).2 c122_5).2 c122_6).2 c122_7).2 c122_8).2 c122_9).2 c122_10).2 c122_11).2 c122_12).2 c122_13).2 c122_14).1 c122))))), fun c122_15 =>
 ⟨fun c122 => w_aload_n (p' := 225) f_98_224 rfl rfl
 (w_iload_n (p' := 226) f_98_225 rfl rfl
 (w_callV (p' := 229) f_98_226 rfl rfl rfl rfl rfl (r := []) rfl rfl (kI (.inl rk_94) fun r117 s117 h117 =>
 w_iret f_98_229 rk_98 h117) (((((((((((((((((h.2 c122_0).2 c122_1).2 c122_2).2 c122_3).2 c122_4).2 c122_5).2 c122_6).2 c122_7).2 c122_8).2 c122_9).2 c122_10).2 c122_11).2 c122_12).2 c122_13).2 c122_14).2 c122_15).1 c122))), fun c122_16 =>
 ⟨fun c122 => w_aload_n (p' := 231) f_98_230 rfl rfl
 (w_iload_n (p' := 232) f_98_231 rfl rfl
 (w_iload_n (p' := 233) f_98_232 rfl rfl
 (w_callV (p' := 236) f_98_233 rfl rfl rfl rfl rfl (r := []) rfl rfl (kI (.inl rk_95) fun r118 s118 h118 =>
 w_iret f_98_236 rk_98 h118) ((((((((((((((((((h.2 c122_0).2 c122_1).2 c122_2).2 c122_3).2 c122_4).2 c122_5).2 c122_6).2 c122_7).2 c122_8).2 c122_9).2 c122_10).2 c122_11).2 c122_12).2 c122_13).2 c122_14).2 c122_15).2 c122_16).1 c122)))), fun c122_17 =>
 ⟨fun c122 => w_aload_n (p' := 238) f_98_237 rfl rfl
 (w_iload_n (p' := 239) f_98_238 rfl rfl
 (w_callV (p' := 242) f_98_239 rfl rfl rfl rfl rfl (r := []) rfl rfl (kI (.inl rk_96) fun r119 s119 h119 =>
 w_iret f_98_242 rk_98 h119) (((((((((((((((((((h.2 c122_0).2 c122_1).2 c122_2).2 c122_3).2 c122_4).2 c122_5).2 c122_6).2 c122_7).2 c122_8).2 c122_9).2 c122_10).2 c122_11).2 c122_12).2 c122_13).2 c122_14).2 c122_15).2 c122_16).2 c122_17).1 c122))), fun c122_18 =>
 ⟨fun c122 => w_aload_n (p' := 244) f_98_243 rfl rfl
 (w_iload_n (p' := 245) f_98_244 rfl rfl
 (w_iload_n (p' := 246) f_98_245 rfl rfl
 (w_callV (p' := 249) f_98_246 rfl rfl rfl rfl rfl (r := []) rfl rfl (kI (.inl rk_97) fun r120 s120 h120 =>
 w_iret f_98_249 rk_98 h120) ((((((((((((((((((((h.2 c122_0).2 c122_1).2 c122_2).2 c122_3).2 c122_4).2 c122_5).2 c122_6).2 c122_7).2 c122_8).2 c122_9).2 c122_10).2 c122_11).2 c122_12).2 c122_13).2 c122_14).2 c122_15).2 c122_16).2 c122_17).2 c122_18).1 c122)))), fun c122_19 =>
 w_aload_n (p' := 251) f_98_250 rfl rfl
 (w_iconst (p' := 252) f_98_251 rfl
 (w_callV (p' := 255) f_98_252 rfl rfl rfl rfl rfl (r := []) rfl rfl (kI (.inl rk_53) fun r121 s121 h121 =>
 w_iret f_98_255 rk_98 h121) ((((((((((((((((((((h.2 c122_0).2 c122_1).2 c122_2).2 c122_3).2 c122_4).2 c122_5).2 c122_6).2 c122_7).2 c122_8).2 c122_9).2 c122_10).2 c122_11).2 c122_12).2 c122_13).2 c122_14).2 c122_15).2 c122_16).2 c122_17).2 c122_18).2 c122_19)))⟩⟩⟩⟩⟩⟩⟩⟩⟩⟩⟩⟩⟩⟩⟩⟩⟩⟩⟩⟩))))))
/-! ClosedRooms$Log.write(III)V -/
theorem f_99_0 : fnd 99 0 = some (0, .aload_n 0, 1, 0, 0, 0, 0) := ceB_eq (by decide +kernel)
theorem f_99_1 : fnd 99 1 = some (1, .getfield 15, 3, 5, 1, 1, 0) := ceB_eq (by decide +kernel)
theorem f_99_4 : fnd 99 4 = some (4, .bipush 60, 2, 0, 0, 0, 0) := ceB_eq (by decide +kernel)
theorem f_99_6 : fnd 99 6 = some (6, .invokestatic 28, 3, 45, 2, 11, 0) := ceB_eq (by decide +kernel)
theorem f_99_9 : fnd 99 9 = some (9, .istore 4, 2, 0, 0, 0, 0) := ceB_eq (by decide +kernel)
theorem f_99_11 : fnd 99 11 = some (11, .aload_n 0, 1, 0, 0, 0, 0) := ceB_eq (by decide +kernel)
theorem f_99_12 : fnd 99 12 = some (12, .getfield 18, 3, 5, 2, 2, 0) := ceB_eq (by decide +kernel)
theorem f_99_15 : fnd 99 15 = some (15, .iload 4, 2, 0, 0, 0, 0) := ceB_eq (by decide +kernel)
theorem f_99_17 : fnd 99 17 = some (17, .iload_n 1, 1, 0, 0, 0, 0) := ceB_eq (by decide +kernel)
theorem f_99_18 : fnd 99 18 = some (18, .iastore, 1, 0, 0, 0, 0) := ceB_eq (by decide +kernel)
theorem f_99_19 : fnd 99 19 = some (19, .aload_n 0, 1, 0, 0, 0, 0) := ceB_eq (by decide +kernel)
theorem f_99_20 : fnd 99 20 = some (20, .getfield 22, 3, 5, 3, 3, 0) := ceB_eq (by decide +kernel)
theorem f_99_23 : fnd 99 23 = some (23, .iload 4, 2, 0, 0, 0, 0) := ceB_eq (by decide +kernel)
theorem f_99_25 : fnd 99 25 = some (25, .iload_n 2, 1, 0, 0, 0, 0) := ceB_eq (by decide +kernel)
theorem f_99_26 : fnd 99 26 = some (26, .iastore, 1, 0, 0, 0, 0) := ceB_eq (by decide +kernel)
theorem f_99_27 : fnd 99 27 = some (27, .aload_n 0, 1, 0, 0, 0, 0) := ceB_eq (by decide +kernel)
theorem f_99_28 : fnd 99 28 = some (28, .getfield 25, 3, 5, 4, 4, 0) := ceB_eq (by decide +kernel)
theorem f_99_31 : fnd 99 31 = some (31, .iload 4, 2, 0, 0, 0, 0) := ceB_eq (by decide +kernel)
theorem f_99_33 : fnd 99 33 = some (33, .iload_n 3, 1, 0, 0, 0, 0) := ceB_eq (by decide +kernel)
theorem f_99_34 : fnd 99 34 = some (34, .iastore, 1, 0, 0, 0, 0) := ceB_eq (by decide +kernel)
theorem f_99_35 : fnd 99 35 = some (35, .aload_n 0, 1, 0, 0, 0, 0) := ceB_eq (by decide +kernel)
theorem f_99_36 : fnd 99 36 = some (36, .iload 4, 2, 0, 0, 0, 0) := ceB_eq (by decide +kernel)
theorem f_99_38 : fnd 99 38 = some (38, .iconst 1, 1, 0, 0, 0, 0) := ceB_eq (by decide +kernel)
theorem f_99_39 : fnd 99 39 = some (39, .iadd, 1, 0, 0, 0, 0) := ceB_eq (by decide +kernel)
theorem f_99_40 : fnd 99 40 = some (40, .bipush 60, 2, 0, 0, 0, 0) := ceB_eq (by decide +kernel)
theorem f_99_42 : fnd 99 42 = some (42, .invokestatic 28, 3, 45, 2, 11, 0) := ceB_eq (by decide +kernel)
theorem f_99_45 : fnd 99 45 = some (45, .putfield 15, 3, 5, 1, 1, 0) := ceB_eq (by decide +kernel)
theorem f_99_48 : fnd 99 48 = some (48, .aload_n 0, 1, 0, 0, 0, 0) := ceB_eq (by decide +kernel)
theorem f_99_49 : fnd 99 49 = some (49, .getfield 9, 3, 5, 0, 0, 0) := ceB_eq (by decide +kernel)
theorem f_99_52 : fnd 99 52 = some (52, .bipush 60, 2, 0, 0, 0, 0) := ceB_eq (by decide +kernel)
theorem f_99_54 : fnd 99 54 = some (54, .if_icmp .ge 13, 3, 0, 0, 0, 0) := ceB_eq (by decide +kernel)
theorem f_99_57 : fnd 99 57 = some (57, .aload_n 0, 1, 0, 0, 0, 0) := ceB_eq (by decide +kernel)
theorem f_99_58 : fnd 99 58 = some (58, .dup, 1, 0, 0, 0, 0) := ceB_eq (by decide +kernel)
theorem f_99_59 : fnd 99 59 = some (59, .getfield 9, 3, 5, 0, 0, 0) := ceB_eq (by decide +kernel)
theorem f_99_62 : fnd 99 62 = some (62, .iconst 1, 1, 0, 0, 0, 0) := ceB_eq (by decide +kernel)
theorem f_99_63 : fnd 99 63 = some (63, .iadd, 1, 0, 0, 0, 0) := ceB_eq (by decide +kernel)
theorem f_99_64 : fnd 99 64 = some (64, .putfield 9, 3, 5, 0, 0, 0) := ceB_eq (by decide +kernel)
theorem f_99_67 : fnd 99 67 = some (67, .return_, 1, 0, 0, 0, 0) := ceB_eq (by decide +kernel)
theorem rk_99 : rkm 99 = 4 := by decide +kernel
theorem ml_99 : (mth 99).2.1 = 5 := by decide +kernel
set_option maxRecDepth 100000 in
theorem T_Log_write (k0 i0 x1 x2 x3 : Int) (σ : ST) (Q : Option AV → ST → Prop) (h :
  wpM m_JMath_floorMod [.inl (σ 26 k0 i0 1), .inl 60] σ (asI fun r101 s101 =>
  ((0 : Int) ≤ r101 ∧ (r101 : Int) < 60) ∧
  ((0 : Int) ≤ r101 ∧ (r101 : Int) < 60) ∧
  ((0 : Int) ≤ r101 ∧ (r101 : Int) < 60) ∧
  wpM m_JMath_floorMod [.inl (wr (r101 + 1)), .inl 60] (up (up (up s101 27 k0 0 r101 x1) 28 k0 0 r101 x2) 29 k0 0 r101 x3) (asI fun r102 s102 =>
  (((60 ≤ ((up s102 26 k0 i0 1 r102) 26 k0 i0 0) : Prop) →
    Q none (up s102 26 k0 i0 1 r102)) ∧
  (¬ (60 ≤ ((up s102 26 k0 i0 1 r102) 26 k0 i0 0)) →
    Q none (up (up s102 26 k0 i0 1 r102) 26 k0 i0 0 (wr (((up s102 26 k0 i0 1 r102) 26 k0 i0 0) + 1)))))))) :
  wpM m_Log_write [.inr (.inr (26, k0, i0)), .inl x1, .inl x2, .inl x3] σ Q :=
 wpM_of ml_99 (L := [some (.inr (.inr (26, k0, i0))), some (.inl x1), some (.inl x2), some (.inl x3), none]) rfl
 (w_aload_n (p' := 1) f_99_0 rfl rfl
 (w_getfield (p' := 4) f_99_1 rfl (x := .inl (σ 26 k0 i0 1)) rfl rfl
 (w_bipush (p' := 6) f_99_4 rfl
 (w_callS (p' := 9) f_99_6 rfl rfl rfl (r := []) rfl rfl (kI (.inl rk_45) fun r101 s101 h101 =>
 w_istore (p' := 11) f_99_9 (L' := [some (.inr (.inr (26, k0, i0))), some (.inl x1), some (.inl x2), some (.inl x3), some (.inl r101)]) rfl rfl
 (w_aload_n (p' := 12) f_99_11 rfl rfl
 (w_getfield (p' := 15) f_99_12 rfl (x := .inr (.inr (27, k0, 0))) rfl rfl
 (w_iload (p' := 17) f_99_15 rfl rfl
 (w_iload_n (p' := 18) f_99_17 rfl rfl
 (w_iastore (p' := 19) f_99_18 rfl (n := 60) rfl h101.1 rfl
 (w_aload_n (p' := 20) f_99_19 rfl rfl
 (w_getfield (p' := 23) f_99_20 rfl (x := .inr (.inr (28, k0, 0))) rfl rfl
 (w_iload (p' := 25) f_99_23 rfl rfl
 (w_iload_n (p' := 26) f_99_25 rfl rfl
 (w_iastore (p' := 27) f_99_26 rfl (n := 60) rfl h101.2.1 rfl
 (w_aload_n (p' := 28) f_99_27 rfl rfl
 (w_getfield (p' := 31) f_99_28 rfl (x := .inr (.inr (29, k0, 0))) rfl rfl
 (w_iload (p' := 33) f_99_31 rfl rfl
 (w_iload_n (p' := 34) f_99_33 rfl rfl
 (w_iastore (p' := 35) f_99_34 rfl (n := 60) rfl h101.2.2.1 rfl
 (w_aload_n (p' := 36) f_99_35 rfl rfl
 (w_iload (p' := 38) f_99_36 rfl rfl
 (w_iconst (p' := 39) f_99_38 rfl
 (w_iadd (p' := 40) f_99_39 rfl
 (w_bipush (p' := 42) f_99_40 rfl
 (w_callS (p' := 45) f_99_42 rfl rfl rfl (r := [.inr (.inr (26, k0, i0))]) rfl rfl (kI (.inl rk_45) fun r102 s102 h102 =>
 w_putI (p' := 48) f_99_45 rfl rfl (c' := 1) rfl rfl
 (w_aload_n (p' := 49) f_99_48 rfl rfl
 (w_getfield (p' := 52) f_99_49 rfl (x := .inl ((up s102 26 k0 i0 1 r102) 26 k0 i0 0)) rfl rfl
 (w_bipush (p' := 54) f_99_52 rfl
 (w_icmp (p' := 67) (q' := 57) f_99_54 rfl rfl
 (fun c103 => w_vret f_99_67 rk_99 (h102.1 c103))
 (fun c103 => w_aload_n (p' := 58) f_99_57 rfl rfl
 (w_dupR (p' := 59) f_99_58 rfl
 (w_getfield (p' := 62) f_99_59 rfl (x := .inl ((up s102 26 k0 i0 1 r102) 26 k0 i0 0)) rfl rfl
 (w_iconst (p' := 63) f_99_62 rfl
 (w_iadd (p' := 64) f_99_63 rfl
 (w_putI (p' := 67) f_99_64 rfl rfl (c' := 0) rfl rfl
 (w_vret f_99_67 rk_99 (h102.2 c103))))))))))))) h101.2.2.2)))))))))))))))))))))) h))))
/-! ClosedRooms.keepsAct(III)Z -/
theorem f_100_0 : fnd 100 0 = some (0, .aload_n 0, 1, 0, 0, 0, 0) := ceB_eq (by decide +kernel)
theorem f_100_1 : fnd 100 1 = some (1, .getfield 37, 3, 0, 5, 5, 0) := ceB_eq (by decide +kernel)
theorem f_100_4 : fnd 100 4 = some (4, .getfield 263, 3, 3, 1, 1, 0) := ceB_eq (by decide +kernel)
theorem f_100_7 : fnd 100 7 = some (7, .iconst (-1), 1, 0, 0, 0, 0) := ceB_eq (by decide +kernel)
theorem f_100_8 : fnd 100 8 = some (8, .if_icmp .eq 5, 3, 0, 0, 0, 0) := ceB_eq (by decide +kernel)
theorem f_100_11 : fnd 100 11 = some (11, .iconst 0, 1, 0, 0, 0, 0) := ceB_eq (by decide +kernel)
theorem f_100_12 : fnd 100 12 = some (12, .ireturn, 1, 0, 0, 0, 0) := ceB_eq (by decide +kernel)
theorem f_100_13 : fnd 100 13 = some (13, .aload_n 0, 1, 0, 0, 0, 0) := ceB_eq (by decide +kernel)
theorem f_100_14 : fnd 100 14 = some (14, .getfield 45, 3, 0, 6, 6, 0) := ceB_eq (by decide +kernel)
theorem f_100_17 : fnd 100 17 = some (17, .getfield 271, 3, 4, 9, 9, 0) := ceB_eq (by decide +kernel)
theorem f_100_20 : fnd 100 20 = some (20, .iload_n 1, 1, 0, 0, 0, 0) := ceB_eq (by decide +kernel)
theorem f_100_21 : fnd 100 21 = some (21, .iload_n 2, 1, 0, 0, 0, 0) := ceB_eq (by decide +kernel)
theorem f_100_22 : fnd 100 22 = some (22, .iload_n 3, 1, 0, 0, 0, 0) := ceB_eq (by decide +kernel)
theorem f_100_23 : fnd 100 23 = some (23, .invokevirtual 275, 3, 99, 4, 5, 0) := ceB_eq (by decide +kernel)
theorem f_100_26 : fnd 100 26 = some (26, .aload_n 0, 1, 0, 0, 0, 0) := ceB_eq (by decide +kernel)
theorem f_100_27 : fnd 100 27 = some (27, .aload_n 0, 1, 0, 0, 0, 0) := ceB_eq (by decide +kernel)
theorem f_100_28 : fnd 100 28 = some (28, .getfield 62, 3, 0, 11, 11, 0) := ceB_eq (by decide +kernel)
theorem f_100_31 : fnd 100 31 = some (31, .iconst 1, 1, 0, 0, 0, 0) := ceB_eq (by decide +kernel)
theorem f_100_32 : fnd 100 32 = some (32, .iadd, 1, 0, 0, 0, 0) := ceB_eq (by decide +kernel)
theorem f_100_33 : fnd 100 33 = some (33, .bipush 41, 2, 0, 0, 0, 0) := ceB_eq (by decide +kernel)
theorem f_100_35 : fnd 100 35 = some (35, .invokestatic 266, 3, 45, 2, 11, 0) := ceB_eq (by decide +kernel)
theorem f_100_38 : fnd 100 38 = some (38, .putfield 62, 3, 0, 11, 11, 0) := ceB_eq (by decide +kernel)
theorem f_100_41 : fnd 100 41 = some (41, .aload_n 0, 1, 0, 0, 0, 0) := ceB_eq (by decide +kernel)
theorem f_100_42 : fnd 100 42 = some (42, .getfield 65, 3, 0, 12, 12, 0) := ceB_eq (by decide +kernel)
theorem f_100_45 : fnd 100 45 = some (45, .bipush 40, 2, 0, 0, 0, 0) := ceB_eq (by decide +kernel)
theorem f_100_47 : fnd 100 47 = some (47, .if_icmp .ge 13, 3, 0, 0, 0, 0) := ceB_eq (by decide +kernel)
theorem f_100_50 : fnd 100 50 = some (50, .aload_n 0, 1, 0, 0, 0, 0) := ceB_eq (by decide +kernel)
theorem f_100_51 : fnd 100 51 = some (51, .dup, 1, 0, 0, 0, 0) := ceB_eq (by decide +kernel)
theorem f_100_52 : fnd 100 52 = some (52, .getfield 65, 3, 0, 12, 12, 0) := ceB_eq (by decide +kernel)
theorem f_100_55 : fnd 100 55 = some (55, .iconst 1, 1, 0, 0, 0, 0) := ceB_eq (by decide +kernel)
theorem f_100_56 : fnd 100 56 = some (56, .iadd, 1, 0, 0, 0, 0) := ceB_eq (by decide +kernel)
theorem f_100_57 : fnd 100 57 = some (57, .putfield 65, 3, 0, 12, 12, 0) := ceB_eq (by decide +kernel)
theorem f_100_60 : fnd 100 60 = some (60, .iconst 1, 1, 0, 0, 0, 0) := ceB_eq (by decide +kernel)
theorem f_100_61 : fnd 100 61 = some (61, .ireturn, 1, 0, 0, 0, 0) := ceB_eq (by decide +kernel)
theorem rk_100 : rkm 100 = 1 := by decide +kernel
theorem ml_100 : (mth 100).2.1 = 4 := by decide +kernel
set_option maxRecDepth 100000 in
theorem T_X_keepsAct (k0 i0 x1 x2 x3 : Int) (σ : ST) (Q : Option AV → ST → Prop) (h :
  ((((σ 11 0 0 1) = (-1) : Prop) →
    wpM m_Log_write [.inr (.inr (26, 0, 0)), .inl x1, .inl x2, .inl x3] σ (asV fun s101 =>
    wpM m_JMath_floorMod [.inl (wr ((s101 0 k0 i0 11) + 1)), .inl 41] s101 (asI fun r102 s102 =>
    (((40 ≤ ((up s102 0 k0 i0 11 r102) 0 k0 i0 12) : Prop) →
      ((1 : Int) = 0 ∨ (1 : Int) = 1) ∧ Q (some (.inl 1)) (up s102 0 k0 i0 11 r102)) ∧
    (¬ (40 ≤ ((up s102 0 k0 i0 11 r102) 0 k0 i0 12)) →
      ((1 : Int) = 0 ∨ (1 : Int) = 1) ∧ Q (some (.inl 1)) (up (up s102 0 k0 i0 11 r102) 0 k0 i0 12 (wr (((up s102 0 k0 i0 11 r102) 0 k0 i0 12) + 1)))))))) ∧
  (¬ ((σ 11 0 0 1) = (-1)) →
    ((0 : Int) = 0 ∨ (0 : Int) = 1) ∧ Q (some (.inl 0)) σ))) :
  wpM m_X_keepsAct [.inr (.inr (0, k0, i0)), .inl x1, .inl x2, .inl x3] σ Q :=
 wpM_of ml_100 (L := [some (.inr (.inr (0, k0, i0))), some (.inl x1), some (.inl x2), some (.inl x3)]) rfl
 (w_aload_n (p' := 1) f_100_0 rfl rfl
 (w_getfield (p' := 4) f_100_1 rfl (x := .inr (.inr (11, 0, 0))) rfl rfl
 (w_getfield (p' := 7) f_100_4 rfl (x := .inl (σ 11 0 0 1)) rfl rfl
 (w_iconst (p' := 8) f_100_7 rfl
 (w_icmp (p' := 13) (q' := 11) f_100_8 rfl rfl
 (fun c104 => w_aload_n (p' := 14) f_100_13 rfl rfl
 (w_getfield (p' := 17) f_100_14 rfl (x := .inr (.inr (12, 0, 0))) rfl rfl
 (w_getfield (p' := 20) f_100_17 rfl (x := .inr (.inr (26, 0, 0))) rfl rfl
 (w_iload_n (p' := 21) f_100_20 rfl rfl
 (w_iload_n (p' := 22) f_100_21 rfl rfl
 (w_iload_n (p' := 23) f_100_22 rfl rfl
 (w_callV (p' := 26) f_100_23 rfl rfl rfl rfl rfl (r := []) rfl rfl (kV rk_99 fun s101 h101 =>
 w_aload_n (p' := 27) f_100_26 rfl rfl
 (w_aload_n (p' := 28) f_100_27 rfl rfl
 (w_getfield (p' := 31) f_100_28 rfl (x := .inl (s101 0 k0 i0 11)) rfl rfl
 (w_iconst (p' := 32) f_100_31 rfl
 (w_iadd (p' := 33) f_100_32 rfl
 (w_bipush (p' := 35) f_100_33 rfl
 (w_callS (p' := 38) f_100_35 rfl rfl rfl (r := [.inr (.inr (0, k0, i0))]) rfl rfl (kI (.inl rk_45) fun r102 s102 h102 =>
 w_putI (p' := 41) f_100_38 rfl rfl (c' := 11) rfl rfl
 (w_aload_n (p' := 42) f_100_41 rfl rfl
 (w_getfield (p' := 45) f_100_42 rfl (x := .inl ((up s102 0 k0 i0 11 r102) 0 k0 i0 12)) rfl rfl
 (w_bipush (p' := 47) f_100_45 rfl
 (w_icmp (p' := 60) (q' := 50) f_100_47 rfl rfl
 (fun c103 => w_iconst (p' := 61) f_100_60 rfl
 (w_zret f_100_61 rk_100 (h102.1 c103).1 (h102.1 c103).2))
 (fun c103 => w_aload_n (p' := 51) f_100_50 rfl rfl
 (w_dupR (p' := 52) f_100_51 rfl
 (w_getfield (p' := 55) f_100_52 rfl (x := .inl ((up s102 0 k0 i0 11 r102) 0 k0 i0 12)) rfl rfl
 (w_iconst (p' := 56) f_100_55 rfl
 (w_iadd (p' := 57) f_100_56 rfl
 (w_putI (p' := 60) f_100_57 rfl rfl (c' := 12) rfl rfl
 (w_iconst (p' := 61) f_100_60 rfl
 (w_zret f_100_61 rk_100 (h102.2 c103).1 (h102.2 c103).2))))))))))))) h101))))))) (h.1 c104))))))))
 (fun c104 => w_iconst (p' := 12) f_100_11 rfl
 (w_zret f_100_12 rk_100 (h.2 c104).1 (h.2 c104).2)))))))
/-! ClosedRooms.act(IIIIIII)I -/
theorem f_101_0 : fnd 101 0 = some (0, .aload_n 0, 1, 0, 0, 0, 0) := ceB_eq (by decide +kernel)
theorem f_101_1 : fnd 101 1 = some (1, .invokevirtual 248, 3, 46, 1, 0, 12) := ceB_eq (by decide +kernel)
theorem f_101_4 : fnd 101 4 = some (4, .aload_n 0, 1, 0, 0, 0, 0) := ceB_eq (by decide +kernel)
theorem f_101_5 : fnd 101 5 = some (5, .getfield 45, 3, 0, 6, 6, 0) := ceB_eq (by decide +kernel)
theorem f_101_8 : fnd 101 8 = some (8, .invokevirtual 252, 3, 52, 2, 4, 0) := ceB_eq (by decide +kernel)
theorem f_101_11 : fnd 101 11 = some (11, .aload_n 0, 1, 0, 0, 0, 0) := ceB_eq (by decide +kernel)
theorem f_101_12 : fnd 101 12 = some (12, .getfield 37, 3, 0, 5, 5, 0) := ceB_eq (by decide +kernel)
theorem f_101_15 : fnd 101 15 = some (15, .iload_n 1, 1, 0, 0, 0, 0) := ceB_eq (by decide +kernel)
theorem f_101_16 : fnd 101 16 = some (16, .iload_n 3, 1, 0, 0, 0, 0) := ceB_eq (by decide +kernel)
theorem f_101_17 : fnd 101 17 = some (17, .iload 4, 2, 0, 0, 0, 0) := ceB_eq (by decide +kernel)
theorem f_101_19 : fnd 101 19 = some (19, .iload 5, 2, 0, 0, 0, 0) := ceB_eq (by decide +kernel)
theorem f_101_21 : fnd 101 21 = some (21, .iload 6, 2, 0, 0, 0, 0) := ceB_eq (by decide +kernel)
theorem f_101_23 : fnd 101 23 = some (23, .iload 7, 2, 0, 0, 0, 0) := ceB_eq (by decide +kernel)
theorem f_101_25 : fnd 101 25 = some (25, .invokevirtual 255, 3, 98, 7, 3, 0) := ceB_eq (by decide +kernel)
theorem f_101_28 : fnd 101 28 = some (28, .istore 8, 2, 0, 0, 0, 0) := ceB_eq (by decide +kernel)
theorem f_101_30 : fnd 101 30 = some (30, .aload_n 0, 1, 0, 0, 0, 0) := ceB_eq (by decide +kernel)
theorem f_101_31 : fnd 101 31 = some (31, .iload_n 1, 1, 0, 0, 0, 0) := ceB_eq (by decide +kernel)
theorem f_101_32 : fnd 101 32 = some (32, .iload_n 3, 1, 0, 0, 0, 0) := ceB_eq (by decide +kernel)
theorem f_101_33 : fnd 101 33 = some (33, .iload 8, 2, 0, 0, 0, 0) := ceB_eq (by decide +kernel)
theorem f_101_35 : fnd 101 35 = some (35, .invokevirtual 259, 3, 100, 4, 0, 0) := ceB_eq (by decide +kernel)
theorem f_101_38 : fnd 101 38 = some (38, .ifCond .eq 6, 3, 0, 0, 0, 0) := ceB_eq (by decide +kernel)
theorem f_101_41 : fnd 101 41 = some (41, .iload 8, 2, 0, 0, 0, 0) := ceB_eq (by decide +kernel)
theorem f_101_43 : fnd 101 43 = some (43, .ireturn, 1, 0, 0, 0, 0) := ceB_eq (by decide +kernel)
theorem f_101_44 : fnd 101 44 = some (44, .aload_n 0, 1, 0, 0, 0, 0) := ceB_eq (by decide +kernel)
theorem f_101_45 : fnd 101 45 = some (45, .getfield 37, 3, 0, 5, 5, 0) := ceB_eq (by decide +kernel)
theorem f_101_48 : fnd 101 48 = some (48, .getfield 263, 3, 3, 1, 1, 0) := ceB_eq (by decide +kernel)
theorem f_101_51 : fnd 101 51 = some (51, .istore 9, 2, 0, 0, 0, 0) := ceB_eq (by decide +kernel)
theorem f_101_53 : fnd 101 53 = some (53, .iload 9, 2, 0, 0, 0, 0) := ceB_eq (by decide +kernel)
theorem f_101_55 : fnd 101 55 = some (55, .ifCond .lt 20, 3, 0, 0, 0, 0) := ceB_eq (by decide +kernel)
theorem f_101_58 : fnd 101 58 = some (58, .iload 9, 2, 0, 0, 0, 0) := ceB_eq (by decide +kernel)
theorem f_101_60 : fnd 101 60 = some (60, .iconst 5, 1, 0, 0, 0, 0) := ceB_eq (by decide +kernel)
theorem f_101_61 : fnd 101 61 = some (61, .if_icmp .ge 14, 3, 0, 0, 0, 0) := ceB_eq (by decide +kernel)
theorem f_101_64 : fnd 101 64 = some (64, .aload_n 0, 1, 0, 0, 0, 0) := ceB_eq (by decide +kernel)
theorem f_101_65 : fnd 101 65 = some (65, .getfield 68, 3, 0, 13, 13, 0) := ceB_eq (by decide +kernel)
theorem f_101_68 : fnd 101 68 = some (68, .iload 9, 2, 0, 0, 0, 0) := ceB_eq (by decide +kernel)
theorem f_101_70 : fnd 101 70 = some (70, .dup2, 1, 0, 0, 0, 0) := ceB_eq (by decide +kernel)
theorem f_101_71 : fnd 101 71 = some (71, .iaload, 1, 0, 0, 0, 0) := ceB_eq (by decide +kernel)
theorem f_101_72 : fnd 101 72 = some (72, .iconst 1, 1, 0, 0, 0, 0) := ceB_eq (by decide +kernel)
theorem f_101_73 : fnd 101 73 = some (73, .iadd, 1, 0, 0, 0, 0) := ceB_eq (by decide +kernel)
theorem f_101_74 : fnd 101 74 = some (74, .iastore, 1, 0, 0, 0, 0) := ceB_eq (by decide +kernel)
theorem f_101_75 : fnd 101 75 = some (75, .iload_n 2, 1, 0, 0, 0, 0) := ceB_eq (by decide +kernel)
theorem f_101_76 : fnd 101 76 = some (76, .ireturn, 1, 0, 0, 0, 0) := ceB_eq (by decide +kernel)
theorem rk_101 : rkm 101 = 0 := by decide +kernel
theorem ml_101 : (mth 101).2.1 = 10 := by decide +kernel
set_option maxRecDepth 100000 in
theorem T_X_act (k0 i0 x1 x2 x3 x4 x5 x6 x7 : Int) (σ : ST) (Q : Option AV → ST → Prop) (h :
  wpM m_X_pastRow [.inr (.inr (0, k0, i0))] σ (asR 12 fun a101 b101 s101 =>
  wpM m_World_take [.inr (.inr (12, a101, b101)), .inr (.inr (12, 0, 0))] s101 (asV fun s102 =>
  wpM m_Acts_carryOut [.inr (.inr (11, 0, 0)), .inl x1, .inl x3, .inl x4, .inl x5, .inl x6, .inl x7] s102 (asI fun r103 s103 =>
  wpM m_X_keepsAct [.inr (.inr (0, k0, i0)), .inl x1, .inl x3, .inl r103] s103 (asI fun r104 s104 =>
  (((r104 = 0 : Prop) →
    ((((s104 11 0 0 1) < 0 : Prop) →
      Q (some (.inl x2)) s104) ∧
    (¬ ((s104 11 0 0 1) < 0) →
      (((5 ≤ (s104 11 0 0 1) : Prop) →
        Q (some (.inl x2)) s104) ∧
      (¬ (5 ≤ (s104 11 0 0 1)) →
        ((0 : Int) ≤ (s104 11 0 0 1) ∧ ((s104 11 0 0 1) : Int) < 5) ∧
        ((0 : Int) ≤ (s104 11 0 0 1) ∧ ((s104 11 0 0 1) : Int) < 5) ∧
        Q (some (.inl x2)) (up s104 10 0 0 (s104 11 0 0 1) (wr ((s104 10 0 0 (s104 11 0 0 1)) + 1)))))))) ∧
  (¬ (r104 = 0) →
    Q (some (.inl r103)) s104))))))) :
  wpM m_X_act [.inr (.inr (0, k0, i0)), .inl x1, .inl x2, .inl x3, .inl x4, .inl x5, .inl x6, .inl x7] σ Q :=
 wpM_of ml_101 (L := [some (.inr (.inr (0, k0, i0))), some (.inl x1), some (.inl x2), some (.inl x3), some (.inl x4), some (.inl x5), some (.inl x6), some (.inl x7), none, none]) rfl
 (w_aload_n (p' := 1) f_101_0 rfl rfl
 (w_callV (p' := 4) f_101_1 rfl rfl rfl rfl rfl (r := []) rfl rfl (kR rfl rk_46 fun a101 b101 s101 h101 =>
 w_aload_n (p' := 5) f_101_4 rfl rfl
 (w_getfield (p' := 8) f_101_5 rfl (x := .inr (.inr (12, 0, 0))) rfl rfl
 (w_callV (p' := 11) f_101_8 rfl rfl rfl rfl rfl (r := []) rfl rfl (kV rk_52 fun s102 h102 =>
 w_aload_n (p' := 12) f_101_11 rfl rfl
 (w_getfield (p' := 15) f_101_12 rfl (x := .inr (.inr (11, 0, 0))) rfl rfl
 (w_iload_n (p' := 16) f_101_15 rfl rfl
 (w_iload_n (p' := 17) f_101_16 rfl rfl
 (w_iload (p' := 19) f_101_17 rfl rfl
 (w_iload (p' := 21) f_101_19 rfl rfl
 (w_iload (p' := 23) f_101_21 rfl rfl
 (w_iload (p' := 25) f_101_23 rfl rfl
 (w_callV (p' := 28) f_101_25 rfl rfl rfl rfl rfl (r := []) rfl rfl (kI (.inl rk_98) fun r103 s103 h103 =>
 w_istore (p' := 30) f_101_28 (L' := [some (.inr (.inr (0, k0, i0))), some (.inl x1), some (.inl x2), some (.inl x3), some (.inl x4), some (.inl x5), some (.inl x6), some (.inl x7), some (.inl r103), none]) rfl rfl
 (w_aload_n (p' := 31) f_101_30 rfl rfl
 (w_iload_n (p' := 32) f_101_31 rfl rfl
 (w_iload_n (p' := 33) f_101_32 rfl rfl
 (w_iload (p' := 35) f_101_33 rfl rfl
 (w_callV (p' := 38) f_101_35 rfl rfl rfl rfl rfl (r := []) rfl rfl (kI (.inr rk_100) fun r104 s104 h104 =>
 w_if (p' := 44) (q' := 41) f_101_38 rfl rfl
 (fun c107 => w_aload_n (p' := 45) f_101_44 rfl rfl
 (w_getfield (p' := 48) f_101_45 rfl (x := .inr (.inr (11, 0, 0))) rfl rfl
 (w_getfield (p' := 51) f_101_48 rfl (x := .inl (s104 11 0 0 1)) rfl rfl
 (w_istore (p' := 53) f_101_51 (L' := [some (.inr (.inr (0, k0, i0))), some (.inl x1), some (.inl x2), some (.inl x3), some (.inl x4), some (.inl x5), some (.inl x6), some (.inl x7), some (.inl r103), some (.inl (s104 11 0 0 1))]) rfl rfl
 (w_iload (p' := 55) f_101_53 rfl rfl
 (w_if (p' := 75) (q' := 58) f_101_55 rfl rfl
 (fun c106 => w_iload_n (p' := 76) f_101_75 rfl rfl
 (w_iret f_101_76 rk_101 ((h104.1 c107).1 c106)))
 (fun c106 => w_iload (p' := 60) f_101_58 rfl rfl
 (w_iconst (p' := 61) f_101_60 rfl
 (w_icmp (p' := 75) (q' := 64) f_101_61 rfl rfl
 (fun c105 => w_iload_n (p' := 76) f_101_75 rfl rfl
 (w_iret f_101_76 rk_101 (((h104.1 c107).2 c106).1 c105)))
 (fun c105 => w_aload_n (p' := 65) f_101_64 rfl rfl
 (w_getfield (p' := 68) f_101_65 rfl (x := .inr (.inr (10, 0, 0))) rfl rfl
 (w_iload (p' := 70) f_101_68 rfl rfl
 (w_dup2 (p' := 71) f_101_70 rfl
 (w_iaload (p' := 72) f_101_71 rfl (n := 5) rfl (((h104.1 c107).2 c106).2 c105).1 rfl
 (w_iconst (p' := 73) f_101_72 rfl
 (w_iadd (p' := 74) f_101_73 rfl
 (w_iastore (p' := 75) f_101_74 rfl (n := 5) rfl (((h104.1 c107).2 c106).2 c105).2.1 rfl
 (w_iload_n (p' := 76) f_101_75 rfl rfl
 (w_iret f_101_76 rk_101 (((h104.1 c107).2 c106).2 c105).2.2)))))))))))))))))))
 (fun c107 => w_iload (p' := 43) f_101_41 rfl rfl
 (w_iret f_101_43 rk_101 (h104.2 c107)))) h103)))))) h102))))))))) h101))) h))
/-! ClosedRooms.create(I)I -/
theorem f_102_0 : fnd 102 0 = some (0, .aload_n 0, 1, 0, 0, 0, 0) := ceB_eq (by decide +kernel)
theorem f_102_1 : fnd 102 1 = some (1, .iconst 0, 1, 0, 0, 0, 0) := ceB_eq (by decide +kernel)
theorem f_102_2 : fnd 102 2 = some (2, .iconst (-1), 1, 0, 0, 0, 0) := ceB_eq (by decide +kernel)
theorem f_102_3 : fnd 102 3 = some (3, .iload_n 1, 1, 0, 0, 0, 0) := ceB_eq (by decide +kernel)
theorem f_102_4 : fnd 102 4 = some (4, .iconst 0, 1, 0, 0, 0, 0) := ceB_eq (by decide +kernel)
theorem f_102_5 : fnd 102 5 = some (5, .iconst 0, 1, 0, 0, 0, 0) := ceB_eq (by decide +kernel)
theorem f_102_6 : fnd 102 6 = some (6, .iconst 0, 1, 0, 0, 0, 0) := ceB_eq (by decide +kernel)
theorem f_102_7 : fnd 102 7 = some (7, .iconst 0, 1, 0, 0, 0, 0) := ceB_eq (by decide +kernel)
theorem f_102_8 : fnd 102 8 = some (8, .invokevirtual 244, 3, 101, 8, 0, 0) := ceB_eq (by decide +kernel)
theorem f_102_11 : fnd 102 11 = some (11, .ireturn, 1, 0, 0, 0, 0) := ceB_eq (by decide +kernel)
theorem rk_102 : rkm 102 = 0 := by decide +kernel
theorem ml_102 : (mth 102).2.1 = 2 := by decide +kernel
set_option maxRecDepth 100000 in
theorem T_X_create (k0 i0 x1 : Int) (σ : ST) (Q : Option AV → ST → Prop) (h :
  wpM m_X_act [.inr (.inr (0, k0, i0)), .inl 0, .inl (-1), .inl x1, .inl 0, .inl 0, .inl 0, .inl 0] σ (asI fun r101 s101 =>
  Q (some (.inl r101)) s101)) :
  wpM m_X_create [.inr (.inr (0, k0, i0)), .inl x1] σ Q :=
 wpM_of ml_102 (L := [some (.inr (.inr (0, k0, i0))), some (.inl x1)]) rfl
 (w_aload_n (p' := 1) f_102_0 rfl rfl
 (w_iconst (p' := 2) f_102_1 rfl
 (w_iconst (p' := 3) f_102_2 rfl
 (w_iload_n (p' := 4) f_102_3 rfl rfl
 (w_iconst (p' := 5) f_102_4 rfl
 (w_iconst (p' := 6) f_102_5 rfl
 (w_iconst (p' := 7) f_102_6 rfl
 (w_iconst (p' := 8) f_102_7 rfl
 (w_callV (p' := 11) f_102_8 rfl rfl rfl rfl rfl (r := []) rfl rfl (kI (.inl rk_101) fun r101 s101 h101 =>
 w_iret f_102_11 rk_102 h101) h)))))))))
/-! ClosedRooms.slots()I -/
theorem f_103_0 : fnd 103 0 = some (0, .aload_n 0, 1, 0, 0, 0, 0) := ceB_eq (by decide +kernel)
theorem f_103_1 : fnd 103 1 = some (1, .iconst 1, 1, 0, 0, 0, 0) := ceB_eq (by decide +kernel)
theorem f_103_2 : fnd 103 2 = some (2, .iconst (-1), 1, 0, 0, 0, 0) := ceB_eq (by decide +kernel)
theorem f_103_3 : fnd 103 3 = some (3, .iconst (-1), 1, 0, 0, 0, 0) := ceB_eq (by decide +kernel)
theorem f_103_4 : fnd 103 4 = some (4, .iconst 0, 1, 0, 0, 0, 0) := ceB_eq (by decide +kernel)
theorem f_103_5 : fnd 103 5 = some (5, .iconst 0, 1, 0, 0, 0, 0) := ceB_eq (by decide +kernel)
theorem f_103_6 : fnd 103 6 = some (6, .iconst 0, 1, 0, 0, 0, 0) := ceB_eq (by decide +kernel)
theorem f_103_7 : fnd 103 7 = some (7, .iconst 0, 1, 0, 0, 0, 0) := ceB_eq (by decide +kernel)
theorem f_103_8 : fnd 103 8 = some (8, .invokevirtual 244, 3, 101, 8, 0, 0) := ceB_eq (by decide +kernel)
theorem f_103_11 : fnd 103 11 = some (11, .ireturn, 1, 0, 0, 0, 0) := ceB_eq (by decide +kernel)
theorem rk_103 : rkm 103 = 0 := by decide +kernel
theorem ml_103 : (mth 103).2.1 = 1 := by decide +kernel
set_option maxRecDepth 100000 in
theorem T_X_slots (k0 i0 : Int) (σ : ST) (Q : Option AV → ST → Prop) (h :
  wpM m_X_act [.inr (.inr (0, k0, i0)), .inl 1, .inl (-1), .inl (-1), .inl 0, .inl 0, .inl 0, .inl 0] σ (asI fun r101 s101 =>
  Q (some (.inl r101)) s101)) :
  wpM m_X_slots [.inr (.inr (0, k0, i0))] σ Q :=
 wpM_of ml_103 (L := [some (.inr (.inr (0, k0, i0)))]) rfl
 (w_aload_n (p' := 1) f_103_0 rfl rfl
 (w_iconst (p' := 2) f_103_1 rfl
 (w_iconst (p' := 3) f_103_2 rfl
 (w_iconst (p' := 4) f_103_3 rfl
 (w_iconst (p' := 5) f_103_4 rfl
 (w_iconst (p' := 6) f_103_5 rfl
 (w_iconst (p' := 7) f_103_6 rfl
 (w_iconst (p' := 8) f_103_7 rfl
 (w_callV (p' := 11) f_103_8 rfl rfl rfl rfl rfl (r := []) rfl rfl (kI (.inl rk_101) fun r101 s101 h101 =>
 w_iret f_103_11 rk_103 h101) h)))))))))
/-! ClosedRooms.add(IIIII)I -/
theorem f_104_0 : fnd 104 0 = some (0, .aload_n 0, 1, 0, 0, 0, 0) := ceB_eq (by decide +kernel)
theorem f_104_1 : fnd 104 1 = some (1, .iconst 2, 1, 0, 0, 0, 0) := ceB_eq (by decide +kernel)
theorem f_104_2 : fnd 104 2 = some (2, .iconst (-1), 1, 0, 0, 0, 0) := ceB_eq (by decide +kernel)
theorem f_104_3 : fnd 104 3 = some (3, .iload_n 1, 1, 0, 0, 0, 0) := ceB_eq (by decide +kernel)
theorem f_104_4 : fnd 104 4 = some (4, .iload_n 2, 1, 0, 0, 0, 0) := ceB_eq (by decide +kernel)
theorem f_104_5 : fnd 104 5 = some (5, .iload_n 3, 1, 0, 0, 0, 0) := ceB_eq (by decide +kernel)
theorem f_104_6 : fnd 104 6 = some (6, .iload 4, 2, 0, 0, 0, 0) := ceB_eq (by decide +kernel)
theorem f_104_8 : fnd 104 8 = some (8, .iload 5, 2, 0, 0, 0, 0) := ceB_eq (by decide +kernel)
theorem f_104_10 : fnd 104 10 = some (10, .invokevirtual 244, 3, 101, 8, 0, 0) := ceB_eq (by decide +kernel)
theorem f_104_13 : fnd 104 13 = some (13, .ireturn, 1, 0, 0, 0, 0) := ceB_eq (by decide +kernel)
theorem rk_104 : rkm 104 = 0 := by decide +kernel
theorem ml_104 : (mth 104).2.1 = 6 := by decide +kernel
set_option maxRecDepth 100000 in
theorem T_X_add (k0 i0 x1 x2 x3 x4 x5 : Int) (σ : ST) (Q : Option AV → ST → Prop) (h :
  wpM m_X_act [.inr (.inr (0, k0, i0)), .inl 2, .inl (-1), .inl x1, .inl x2, .inl x3, .inl x4, .inl x5] σ (asI fun r101 s101 =>
  Q (some (.inl r101)) s101)) :
  wpM m_X_add [.inr (.inr (0, k0, i0)), .inl x1, .inl x2, .inl x3, .inl x4, .inl x5] σ Q :=
 wpM_of ml_104 (L := [some (.inr (.inr (0, k0, i0))), some (.inl x1), some (.inl x2), some (.inl x3), some (.inl x4), some (.inl x5)]) rfl
 (w_aload_n (p' := 1) f_104_0 rfl rfl
 (w_iconst (p' := 2) f_104_1 rfl
 (w_iconst (p' := 3) f_104_2 rfl
 (w_iload_n (p' := 4) f_104_3 rfl rfl
 (w_iload_n (p' := 5) f_104_4 rfl rfl
 (w_iload_n (p' := 6) f_104_5 rfl rfl
 (w_iload (p' := 8) f_104_6 rfl rfl
 (w_iload (p' := 10) f_104_8 rfl rfl
 (w_callV (p' := 13) f_104_10 rfl rfl rfl rfl rfl (r := []) rfl rfl (kI (.inl rk_101) fun r101 s101 h101 =>
 w_iret f_104_13 rk_104 h101) h)))))))))
/-! ClosedRooms.extend(II)I -/
theorem f_105_0 : fnd 105 0 = some (0, .aload_n 0, 1, 0, 0, 0, 0) := ceB_eq (by decide +kernel)
theorem f_105_1 : fnd 105 1 = some (1, .iconst 3, 1, 0, 0, 0, 0) := ceB_eq (by decide +kernel)
theorem f_105_2 : fnd 105 2 = some (2, .ldc 116, 2, 0, 0, 0, (-1000000)) := ceB_eq (by decide +kernel)
theorem f_105_4 : fnd 105 4 = some (4, .iload_n 1, 1, 0, 0, 0, 0) := ceB_eq (by decide +kernel)
theorem f_105_5 : fnd 105 5 = some (5, .iload_n 2, 1, 0, 0, 0, 0) := ceB_eq (by decide +kernel)
theorem f_105_6 : fnd 105 6 = some (6, .iconst 0, 1, 0, 0, 0, 0) := ceB_eq (by decide +kernel)
theorem f_105_7 : fnd 105 7 = some (7, .iconst 0, 1, 0, 0, 0, 0) := ceB_eq (by decide +kernel)
theorem f_105_8 : fnd 105 8 = some (8, .iconst 0, 1, 0, 0, 0, 0) := ceB_eq (by decide +kernel)
theorem f_105_9 : fnd 105 9 = some (9, .invokevirtual 244, 3, 101, 8, 0, 0) := ceB_eq (by decide +kernel)
theorem f_105_12 : fnd 105 12 = some (12, .ireturn, 1, 0, 0, 0, 0) := ceB_eq (by decide +kernel)
theorem rk_105 : rkm 105 = 0 := by decide +kernel
theorem ml_105 : (mth 105).2.1 = 3 := by decide +kernel
set_option maxRecDepth 100000 in
theorem T_X_extend (k0 i0 x1 x2 : Int) (σ : ST) (Q : Option AV → ST → Prop) (h :
  wpM m_X_act [.inr (.inr (0, k0, i0)), .inl 3, .inl (-1000000), .inl x1, .inl x2, .inl 0, .inl 0, .inl 0] σ (asI fun r101 s101 =>
  Q (some (.inl r101)) s101)) :
  wpM m_X_extend [.inr (.inr (0, k0, i0)), .inl x1, .inl x2] σ Q :=
 wpM_of ml_105 (L := [some (.inr (.inr (0, k0, i0))), some (.inl x1), some (.inl x2)]) rfl
 (w_aload_n (p' := 1) f_105_0 rfl rfl
 (w_iconst (p' := 2) f_105_1 rfl
 (w_ldc (p' := 4) f_105_2 rfl
 (w_iload_n (p' := 5) f_105_4 rfl rfl
 (w_iload_n (p' := 6) f_105_5 rfl rfl
 (w_iconst (p' := 7) f_105_6 rfl
 (w_iconst (p' := 8) f_105_7 rfl
 (w_iconst (p' := 9) f_105_8 rfl
 (w_callV (p' := 12) f_105_9 rfl rfl rfl rfl rfl (r := []) rfl rfl (kI (.inl rk_101) fun r101 s101 h101 =>
 w_iret f_105_12 rk_105 h101) h)))))))))
/-! ClosedRooms.seal(II)I -/
theorem f_106_0 : fnd 106 0 = some (0, .aload_n 0, 1, 0, 0, 0, 0) := ceB_eq (by decide +kernel)
theorem f_106_1 : fnd 106 1 = some (1, .iconst 4, 1, 0, 0, 0, 0) := ceB_eq (by decide +kernel)
theorem f_106_2 : fnd 106 2 = some (2, .iconst (-1), 1, 0, 0, 0, 0) := ceB_eq (by decide +kernel)
theorem f_106_3 : fnd 106 3 = some (3, .iload_n 1, 1, 0, 0, 0, 0) := ceB_eq (by decide +kernel)
theorem f_106_4 : fnd 106 4 = some (4, .iload_n 2, 1, 0, 0, 0, 0) := ceB_eq (by decide +kernel)
theorem f_106_5 : fnd 106 5 = some (5, .iconst 0, 1, 0, 0, 0, 0) := ceB_eq (by decide +kernel)
theorem f_106_6 : fnd 106 6 = some (6, .iconst 0, 1, 0, 0, 0, 0) := ceB_eq (by decide +kernel)
theorem f_106_7 : fnd 106 7 = some (7, .iconst 0, 1, 0, 0, 0, 0) := ceB_eq (by decide +kernel)
theorem f_106_8 : fnd 106 8 = some (8, .invokevirtual 244, 3, 101, 8, 0, 0) := ceB_eq (by decide +kernel)
theorem f_106_11 : fnd 106 11 = some (11, .ireturn, 1, 0, 0, 0, 0) := ceB_eq (by decide +kernel)
theorem rk_106 : rkm 106 = 0 := by decide +kernel
theorem ml_106 : (mth 106).2.1 = 3 := by decide +kernel
set_option maxRecDepth 100000 in
theorem T_X_seal (k0 i0 x1 x2 : Int) (σ : ST) (Q : Option AV → ST → Prop) (h :
  wpM m_X_act [.inr (.inr (0, k0, i0)), .inl 4, .inl (-1), .inl x1, .inl x2, .inl 0, .inl 0, .inl 0] σ (asI fun r101 s101 =>
  Q (some (.inl r101)) s101)) :
  wpM m_X_seal [.inr (.inr (0, k0, i0)), .inl x1, .inl x2] σ Q :=
 wpM_of ml_106 (L := [some (.inr (.inr (0, k0, i0))), some (.inl x1), some (.inl x2)]) rfl
 (w_aload_n (p' := 1) f_106_0 rfl rfl
 (w_iconst (p' := 2) f_106_1 rfl
 (w_iconst (p' := 3) f_106_2 rfl
 (w_iload_n (p' := 4) f_106_3 rfl rfl
 (w_iload_n (p' := 5) f_106_4 rfl rfl
 (w_iconst (p' := 6) f_106_5 rfl
 (w_iconst (p' := 7) f_106_6 rfl
 (w_iconst (p' := 8) f_106_7 rfl
 (w_callV (p' := 11) f_106_8 rfl rfl rfl rfl rfl (r := []) rfl rfl (kI (.inl rk_101) fun r101 s101 h101 =>
 w_iret f_106_11 rk_106 h101) h)))))))))
/-! ClosedRooms.enter(III)I -/
theorem f_107_0 : fnd 107 0 = some (0, .aload_n 0, 1, 0, 0, 0, 0) := ceB_eq (by decide +kernel)
theorem f_107_1 : fnd 107 1 = some (1, .iconst 5, 1, 0, 0, 0, 0) := ceB_eq (by decide +kernel)
theorem f_107_2 : fnd 107 2 = some (2, .iconst (-1), 1, 0, 0, 0, 0) := ceB_eq (by decide +kernel)
theorem f_107_3 : fnd 107 3 = some (3, .iload_n 1, 1, 0, 0, 0, 0) := ceB_eq (by decide +kernel)
theorem f_107_4 : fnd 107 4 = some (4, .iload_n 2, 1, 0, 0, 0, 0) := ceB_eq (by decide +kernel)
theorem f_107_5 : fnd 107 5 = some (5, .iload_n 3, 1, 0, 0, 0, 0) := ceB_eq (by decide +kernel)
theorem f_107_6 : fnd 107 6 = some (6, .iconst 0, 1, 0, 0, 0, 0) := ceB_eq (by decide +kernel)
theorem f_107_7 : fnd 107 7 = some (7, .iconst 0, 1, 0, 0, 0, 0) := ceB_eq (by decide +kernel)
theorem f_107_8 : fnd 107 8 = some (8, .invokevirtual 244, 3, 101, 8, 0, 0) := ceB_eq (by decide +kernel)
theorem f_107_11 : fnd 107 11 = some (11, .ireturn, 1, 0, 0, 0, 0) := ceB_eq (by decide +kernel)
theorem rk_107 : rkm 107 = 0 := by decide +kernel
theorem ml_107 : (mth 107).2.1 = 4 := by decide +kernel
set_option maxRecDepth 100000 in
theorem T_X_enter (k0 i0 x1 x2 x3 : Int) (σ : ST) (Q : Option AV → ST → Prop) (h :
  wpM m_X_act [.inr (.inr (0, k0, i0)), .inl 5, .inl (-1), .inl x1, .inl x2, .inl x3, .inl 0, .inl 0] σ (asI fun r101 s101 =>
  Q (some (.inl r101)) s101)) :
  wpM m_X_enter [.inr (.inr (0, k0, i0)), .inl x1, .inl x2, .inl x3] σ Q :=
 wpM_of ml_107 (L := [some (.inr (.inr (0, k0, i0))), some (.inl x1), some (.inl x2), some (.inl x3)]) rfl
 (w_aload_n (p' := 1) f_107_0 rfl rfl
 (w_iconst (p' := 2) f_107_1 rfl
 (w_iconst (p' := 3) f_107_2 rfl
 (w_iload_n (p' := 4) f_107_3 rfl rfl
 (w_iload_n (p' := 5) f_107_4 rfl rfl
 (w_iload_n (p' := 6) f_107_5 rfl rfl
 (w_iconst (p' := 7) f_107_6 rfl
 (w_iconst (p' := 8) f_107_7 rfl
 (w_callV (p' := 11) f_107_8 rfl rfl rfl rfl rfl (r := []) rfl rfl (kI (.inl rk_101) fun r101 s101 h101 =>
 w_iret f_107_11 rk_107 h101) h)))))))))
/-! ClosedRooms.leave(I)I -/
theorem f_108_0 : fnd 108 0 = some (0, .aload_n 0, 1, 0, 0, 0, 0) := ceB_eq (by decide +kernel)
theorem f_108_1 : fnd 108 1 = some (1, .bipush 6, 2, 0, 0, 0, 0) := ceB_eq (by decide +kernel)
theorem f_108_3 : fnd 108 3 = some (3, .iconst (-1), 1, 0, 0, 0, 0) := ceB_eq (by decide +kernel)
theorem f_108_4 : fnd 108 4 = some (4, .iload_n 1, 1, 0, 0, 0, 0) := ceB_eq (by decide +kernel)
theorem f_108_5 : fnd 108 5 = some (5, .iconst 0, 1, 0, 0, 0, 0) := ceB_eq (by decide +kernel)
theorem f_108_6 : fnd 108 6 = some (6, .iconst 0, 1, 0, 0, 0, 0) := ceB_eq (by decide +kernel)
theorem f_108_7 : fnd 108 7 = some (7, .iconst 0, 1, 0, 0, 0, 0) := ceB_eq (by decide +kernel)
theorem f_108_8 : fnd 108 8 = some (8, .iconst 0, 1, 0, 0, 0, 0) := ceB_eq (by decide +kernel)
theorem f_108_9 : fnd 108 9 = some (9, .invokevirtual 244, 3, 101, 8, 0, 0) := ceB_eq (by decide +kernel)
theorem f_108_12 : fnd 108 12 = some (12, .ireturn, 1, 0, 0, 0, 0) := ceB_eq (by decide +kernel)
theorem rk_108 : rkm 108 = 0 := by decide +kernel
theorem ml_108 : (mth 108).2.1 = 2 := by decide +kernel
set_option maxRecDepth 100000 in
theorem T_X_leave (k0 i0 x1 : Int) (σ : ST) (Q : Option AV → ST → Prop) (h :
  wpM m_X_act [.inr (.inr (0, k0, i0)), .inl 6, .inl (-1), .inl x1, .inl 0, .inl 0, .inl 0, .inl 0] σ (asI fun r101 s101 =>
  Q (some (.inl r101)) s101)) :
  wpM m_X_leave [.inr (.inr (0, k0, i0)), .inl x1] σ Q :=
 wpM_of ml_108 (L := [some (.inr (.inr (0, k0, i0))), some (.inl x1)]) rfl
 (w_aload_n (p' := 1) f_108_0 rfl rfl
 (w_bipush (p' := 3) f_108_1 rfl
 (w_iconst (p' := 4) f_108_3 rfl
 (w_iload_n (p' := 5) f_108_4 rfl rfl
 (w_iconst (p' := 6) f_108_5 rfl
 (w_iconst (p' := 7) f_108_6 rfl
 (w_iconst (p' := 8) f_108_7 rfl
 (w_iconst (p' := 9) f_108_8 rfl
 (w_callV (p' := 12) f_108_9 rfl rfl rfl rfl rfl (r := []) rfl rfl (kI (.inl rk_101) fun r101 s101 h101 =>
 w_iret f_108_12 rk_108 h101) h)))))))))
/-! ClosedRooms.trap(I)I -/
theorem f_109_0 : fnd 109 0 = some (0, .aload_n 0, 1, 0, 0, 0, 0) := ceB_eq (by decide +kernel)
theorem f_109_1 : fnd 109 1 = some (1, .bipush 7, 2, 0, 0, 0, 0) := ceB_eq (by decide +kernel)
theorem f_109_3 : fnd 109 3 = some (3, .iconst (-1), 1, 0, 0, 0, 0) := ceB_eq (by decide +kernel)
theorem f_109_4 : fnd 109 4 = some (4, .iload_n 1, 1, 0, 0, 0, 0) := ceB_eq (by decide +kernel)
theorem f_109_5 : fnd 109 5 = some (5, .iconst 0, 1, 0, 0, 0, 0) := ceB_eq (by decide +kernel)
theorem f_109_6 : fnd 109 6 = some (6, .iconst 0, 1, 0, 0, 0, 0) := ceB_eq (by decide +kernel)
theorem f_109_7 : fnd 109 7 = some (7, .iconst 0, 1, 0, 0, 0, 0) := ceB_eq (by decide +kernel)
theorem f_109_8 : fnd 109 8 = some (8, .iconst 0, 1, 0, 0, 0, 0) := ceB_eq (by decide +kernel)
theorem f_109_9 : fnd 109 9 = some (9, .invokevirtual 244, 3, 101, 8, 0, 0) := ceB_eq (by decide +kernel)
theorem f_109_12 : fnd 109 12 = some (12, .ireturn, 1, 0, 0, 0, 0) := ceB_eq (by decide +kernel)
theorem rk_109 : rkm 109 = 0 := by decide +kernel
theorem ml_109 : (mth 109).2.1 = 2 := by decide +kernel
set_option maxRecDepth 100000 in
theorem T_X_trap (k0 i0 x1 : Int) (σ : ST) (Q : Option AV → ST → Prop) (h :
  wpM m_X_act [.inr (.inr (0, k0, i0)), .inl 7, .inl (-1), .inl x1, .inl 0, .inl 0, .inl 0, .inl 0] σ (asI fun r101 s101 =>
  Q (some (.inl r101)) s101)) :
  wpM m_X_trap [.inr (.inr (0, k0, i0)), .inl x1] σ Q :=
 wpM_of ml_109 (L := [some (.inr (.inr (0, k0, i0))), some (.inl x1)]) rfl
 (w_aload_n (p' := 1) f_109_0 rfl rfl
 (w_bipush (p' := 3) f_109_1 rfl
 (w_iconst (p' := 4) f_109_3 rfl
 (w_iload_n (p' := 5) f_109_4 rfl rfl
 (w_iconst (p' := 6) f_109_5 rfl
 (w_iconst (p' := 7) f_109_6 rfl
 (w_iconst (p' := 8) f_109_7 rfl
 (w_iconst (p' := 9) f_109_8 rfl
 (w_callV (p' := 12) f_109_9 rfl rfl rfl rfl rfl (r := []) rfl rfl (kI (.inl rk_101) fun r101 s101 h101 =>
 w_iret f_109_12 rk_109 h101) h)))))))))
/-! ClosedRooms.resume(III)I -/
theorem f_110_0 : fnd 110 0 = some (0, .aload_n 0, 1, 0, 0, 0, 0) := ceB_eq (by decide +kernel)
theorem f_110_1 : fnd 110 1 = some (1, .bipush 8, 2, 0, 0, 0, 0) := ceB_eq (by decide +kernel)
theorem f_110_3 : fnd 110 3 = some (3, .iconst (-1), 1, 0, 0, 0, 0) := ceB_eq (by decide +kernel)
theorem f_110_4 : fnd 110 4 = some (4, .iload_n 1, 1, 0, 0, 0, 0) := ceB_eq (by decide +kernel)
theorem f_110_5 : fnd 110 5 = some (5, .iload_n 2, 1, 0, 0, 0, 0) := ceB_eq (by decide +kernel)
theorem f_110_6 : fnd 110 6 = some (6, .iload_n 3, 1, 0, 0, 0, 0) := ceB_eq (by decide +kernel)
theorem f_110_7 : fnd 110 7 = some (7, .iconst 0, 1, 0, 0, 0, 0) := ceB_eq (by decide +kernel)
theorem f_110_8 : fnd 110 8 = some (8, .iconst 0, 1, 0, 0, 0, 0) := ceB_eq (by decide +kernel)
theorem f_110_9 : fnd 110 9 = some (9, .invokevirtual 244, 3, 101, 8, 0, 0) := ceB_eq (by decide +kernel)
theorem f_110_12 : fnd 110 12 = some (12, .ireturn, 1, 0, 0, 0, 0) := ceB_eq (by decide +kernel)
theorem rk_110 : rkm 110 = 0 := by decide +kernel
theorem ml_110 : (mth 110).2.1 = 4 := by decide +kernel
set_option maxRecDepth 100000 in
theorem T_X_resume (k0 i0 x1 x2 x3 : Int) (σ : ST) (Q : Option AV → ST → Prop) (h :
  wpM m_X_act [.inr (.inr (0, k0, i0)), .inl 8, .inl (-1), .inl x1, .inl x2, .inl x3, .inl 0, .inl 0] σ (asI fun r101 s101 =>
  Q (some (.inl r101)) s101)) :
  wpM m_X_resume [.inr (.inr (0, k0, i0)), .inl x1, .inl x2, .inl x3] σ Q :=
 wpM_of ml_110 (L := [some (.inr (.inr (0, k0, i0))), some (.inl x1), some (.inl x2), some (.inl x3)]) rfl
 (w_aload_n (p' := 1) f_110_0 rfl rfl
 (w_bipush (p' := 3) f_110_1 rfl
 (w_iconst (p' := 4) f_110_3 rfl
 (w_iload_n (p' := 5) f_110_4 rfl rfl
 (w_iload_n (p' := 6) f_110_5 rfl rfl
 (w_iload_n (p' := 7) f_110_6 rfl rfl
 (w_iconst (p' := 8) f_110_7 rfl
 (w_iconst (p' := 9) f_110_8 rfl
 (w_callV (p' := 12) f_110_9 rfl rfl rfl rfl rfl (r := []) rfl rfl (kI (.inl rk_101) fun r101 s101 h101 =>
 w_iret f_110_12 rk_110 h101) h)))))))))
/-! ClosedRooms.touch(III)I -/
theorem f_111_0 : fnd 111 0 = some (0, .aload_n 0, 1, 0, 0, 0, 0) := ceB_eq (by decide +kernel)
theorem f_111_1 : fnd 111 1 = some (1, .bipush 9, 2, 0, 0, 0, 0) := ceB_eq (by decide +kernel)
theorem f_111_3 : fnd 111 3 = some (3, .iconst (-1), 1, 0, 0, 0, 0) := ceB_eq (by decide +kernel)
theorem f_111_4 : fnd 111 4 = some (4, .iload_n 1, 1, 0, 0, 0, 0) := ceB_eq (by decide +kernel)
theorem f_111_5 : fnd 111 5 = some (5, .iload_n 2, 1, 0, 0, 0, 0) := ceB_eq (by decide +kernel)
theorem f_111_6 : fnd 111 6 = some (6, .iload_n 3, 1, 0, 0, 0, 0) := ceB_eq (by decide +kernel)
theorem f_111_7 : fnd 111 7 = some (7, .iconst 0, 1, 0, 0, 0, 0) := ceB_eq (by decide +kernel)
theorem f_111_8 : fnd 111 8 = some (8, .iconst 0, 1, 0, 0, 0, 0) := ceB_eq (by decide +kernel)
theorem f_111_9 : fnd 111 9 = some (9, .invokevirtual 244, 3, 101, 8, 0, 0) := ceB_eq (by decide +kernel)
theorem f_111_12 : fnd 111 12 = some (12, .ireturn, 1, 0, 0, 0, 0) := ceB_eq (by decide +kernel)
theorem rk_111 : rkm 111 = 0 := by decide +kernel
theorem ml_111 : (mth 111).2.1 = 4 := by decide +kernel
set_option maxRecDepth 100000 in
theorem T_X_touch (k0 i0 x1 x2 x3 : Int) (σ : ST) (Q : Option AV → ST → Prop) (h :
  wpM m_X_act [.inr (.inr (0, k0, i0)), .inl 9, .inl (-1), .inl x1, .inl x2, .inl x3, .inl 0, .inl 0] σ (asI fun r101 s101 =>
  Q (some (.inl r101)) s101)) :
  wpM m_X_touch [.inr (.inr (0, k0, i0)), .inl x1, .inl x2, .inl x3] σ Q :=
 wpM_of ml_111 (L := [some (.inr (.inr (0, k0, i0))), some (.inl x1), some (.inl x2), some (.inl x3)]) rfl
 (w_aload_n (p' := 1) f_111_0 rfl rfl
 (w_bipush (p' := 3) f_111_1 rfl
 (w_iconst (p' := 4) f_111_3 rfl
 (w_iload_n (p' := 5) f_111_4 rfl rfl
 (w_iload_n (p' := 6) f_111_5 rfl rfl
 (w_iload_n (p' := 7) f_111_6 rfl rfl
 (w_iconst (p' := 8) f_111_7 rfl
 (w_iconst (p' := 9) f_111_8 rfl
 (w_callV (p' := 12) f_111_9 rfl rfl rfl rfl rfl (r := []) rfl rfl (kI (.inl rk_101) fun r101 s101 h101 =>
 w_iret f_111_12 rk_111 h101) h)))))))))
/-! ClosedRooms.block(I)I -/
theorem f_112_0 : fnd 112 0 = some (0, .aload_n 0, 1, 0, 0, 0, 0) := ceB_eq (by decide +kernel)
theorem f_112_1 : fnd 112 1 = some (1, .bipush 10, 2, 0, 0, 0, 0) := ceB_eq (by decide +kernel)
theorem f_112_3 : fnd 112 3 = some (3, .iconst (-1), 1, 0, 0, 0, 0) := ceB_eq (by decide +kernel)
theorem f_112_4 : fnd 112 4 = some (4, .iload_n 1, 1, 0, 0, 0, 0) := ceB_eq (by decide +kernel)
theorem f_112_5 : fnd 112 5 = some (5, .iconst 0, 1, 0, 0, 0, 0) := ceB_eq (by decide +kernel)
theorem f_112_6 : fnd 112 6 = some (6, .iconst 0, 1, 0, 0, 0, 0) := ceB_eq (by decide +kernel)
theorem f_112_7 : fnd 112 7 = some (7, .iconst 0, 1, 0, 0, 0, 0) := ceB_eq (by decide +kernel)
theorem f_112_8 : fnd 112 8 = some (8, .iconst 0, 1, 0, 0, 0, 0) := ceB_eq (by decide +kernel)
theorem f_112_9 : fnd 112 9 = some (9, .invokevirtual 244, 3, 101, 8, 0, 0) := ceB_eq (by decide +kernel)
theorem f_112_12 : fnd 112 12 = some (12, .ireturn, 1, 0, 0, 0, 0) := ceB_eq (by decide +kernel)
theorem rk_112 : rkm 112 = 0 := by decide +kernel
theorem ml_112 : (mth 112).2.1 = 2 := by decide +kernel
set_option maxRecDepth 100000 in
theorem T_X_block (k0 i0 x1 : Int) (σ : ST) (Q : Option AV → ST → Prop) (h :
  wpM m_X_act [.inr (.inr (0, k0, i0)), .inl 10, .inl (-1), .inl x1, .inl 0, .inl 0, .inl 0, .inl 0] σ (asI fun r101 s101 =>
  Q (some (.inl r101)) s101)) :
  wpM m_X_block [.inr (.inr (0, k0, i0)), .inl x1] σ Q :=
 wpM_of ml_112 (L := [some (.inr (.inr (0, k0, i0))), some (.inl x1)]) rfl
 (w_aload_n (p' := 1) f_112_0 rfl rfl
 (w_bipush (p' := 3) f_112_1 rfl
 (w_iconst (p' := 4) f_112_3 rfl
 (w_iload_n (p' := 5) f_112_4 rfl rfl
 (w_iconst (p' := 6) f_112_5 rfl
 (w_iconst (p' := 7) f_112_6 rfl
 (w_iconst (p' := 8) f_112_7 rfl
 (w_iconst (p' := 9) f_112_8 rfl
 (w_callV (p' := 12) f_112_9 rfl rfl rfl rfl rfl (r := []) rfl rfl (kI (.inl rk_101) fun r101 s101 h101 =>
 w_iret f_112_12 rk_112 h101) h)))))))))
/-! ClosedRooms.track(I)I -/
theorem f_113_0 : fnd 113 0 = some (0, .aload_n 0, 1, 0, 0, 0, 0) := ceB_eq (by decide +kernel)
theorem f_113_1 : fnd 113 1 = some (1, .bipush 11, 2, 0, 0, 0, 0) := ceB_eq (by decide +kernel)
theorem f_113_3 : fnd 113 3 = some (3, .iconst (-1), 1, 0, 0, 0, 0) := ceB_eq (by decide +kernel)
theorem f_113_4 : fnd 113 4 = some (4, .iload_n 1, 1, 0, 0, 0, 0) := ceB_eq (by decide +kernel)
theorem f_113_5 : fnd 113 5 = some (5, .iconst 0, 1, 0, 0, 0, 0) := ceB_eq (by decide +kernel)
theorem f_113_6 : fnd 113 6 = some (6, .iconst 0, 1, 0, 0, 0, 0) := ceB_eq (by decide +kernel)
theorem f_113_7 : fnd 113 7 = some (7, .iconst 0, 1, 0, 0, 0, 0) := ceB_eq (by decide +kernel)
theorem f_113_8 : fnd 113 8 = some (8, .iconst 0, 1, 0, 0, 0, 0) := ceB_eq (by decide +kernel)
theorem f_113_9 : fnd 113 9 = some (9, .invokevirtual 244, 3, 101, 8, 0, 0) := ceB_eq (by decide +kernel)
theorem f_113_12 : fnd 113 12 = some (12, .ireturn, 1, 0, 0, 0, 0) := ceB_eq (by decide +kernel)
theorem rk_113 : rkm 113 = 0 := by decide +kernel
theorem ml_113 : (mth 113).2.1 = 2 := by decide +kernel
set_option maxRecDepth 100000 in
theorem T_X_track (k0 i0 x1 : Int) (σ : ST) (Q : Option AV → ST → Prop) (h :
  wpM m_X_act [.inr (.inr (0, k0, i0)), .inl 11, .inl (-1), .inl x1, .inl 0, .inl 0, .inl 0, .inl 0] σ (asI fun r101 s101 =>
  Q (some (.inl r101)) s101)) :
  wpM m_X_track [.inr (.inr (0, k0, i0)), .inl x1] σ Q :=
 wpM_of ml_113 (L := [some (.inr (.inr (0, k0, i0))), some (.inl x1)]) rfl
 (w_aload_n (p' := 1) f_113_0 rfl rfl
 (w_bipush (p' := 3) f_113_1 rfl
 (w_iconst (p' := 4) f_113_3 rfl
 (w_iload_n (p' := 5) f_113_4 rfl rfl
 (w_iconst (p' := 6) f_113_5 rfl
 (w_iconst (p' := 7) f_113_6 rfl
 (w_iconst (p' := 8) f_113_7 rfl
 (w_iconst (p' := 9) f_113_8 rfl
 (w_callV (p' := 12) f_113_9 rfl rfl rfl rfl rfl (r := []) rfl rfl (kI (.inl rk_101) fun r101 s101 h101 =>
 w_iret f_113_12 rk_113 h101) h)))))))))
/-! ClosedRooms.evict(III)I -/
theorem f_114_0 : fnd 114 0 = some (0, .aload_n 0, 1, 0, 0, 0, 0) := ceB_eq (by decide +kernel)
theorem f_114_1 : fnd 114 1 = some (1, .bipush 12, 2, 0, 0, 0, 0) := ceB_eq (by decide +kernel)
theorem f_114_3 : fnd 114 3 = some (3, .iconst (-1), 1, 0, 0, 0, 0) := ceB_eq (by decide +kernel)
theorem f_114_4 : fnd 114 4 = some (4, .iload_n 1, 1, 0, 0, 0, 0) := ceB_eq (by decide +kernel)
theorem f_114_5 : fnd 114 5 = some (5, .iload_n 2, 1, 0, 0, 0, 0) := ceB_eq (by decide +kernel)
theorem f_114_6 : fnd 114 6 = some (6, .iload_n 3, 1, 0, 0, 0, 0) := ceB_eq (by decide +kernel)
theorem f_114_7 : fnd 114 7 = some (7, .iconst 0, 1, 0, 0, 0, 0) := ceB_eq (by decide +kernel)
theorem f_114_8 : fnd 114 8 = some (8, .iconst 0, 1, 0, 0, 0, 0) := ceB_eq (by decide +kernel)
theorem f_114_9 : fnd 114 9 = some (9, .invokevirtual 244, 3, 101, 8, 0, 0) := ceB_eq (by decide +kernel)
theorem f_114_12 : fnd 114 12 = some (12, .ireturn, 1, 0, 0, 0, 0) := ceB_eq (by decide +kernel)
theorem rk_114 : rkm 114 = 0 := by decide +kernel
theorem ml_114 : (mth 114).2.1 = 4 := by decide +kernel
set_option maxRecDepth 100000 in
theorem T_X_evict (k0 i0 x1 x2 x3 : Int) (σ : ST) (Q : Option AV → ST → Prop) (h :
  wpM m_X_act [.inr (.inr (0, k0, i0)), .inl 12, .inl (-1), .inl x1, .inl x2, .inl x3, .inl 0, .inl 0] σ (asI fun r101 s101 =>
  Q (some (.inl r101)) s101)) :
  wpM m_X_evict [.inr (.inr (0, k0, i0)), .inl x1, .inl x2, .inl x3] σ Q :=
 wpM_of ml_114 (L := [some (.inr (.inr (0, k0, i0))), some (.inl x1), some (.inl x2), some (.inl x3)]) rfl
 (w_aload_n (p' := 1) f_114_0 rfl rfl
 (w_bipush (p' := 3) f_114_1 rfl
 (w_iconst (p' := 4) f_114_3 rfl
 (w_iload_n (p' := 5) f_114_4 rfl rfl
 (w_iload_n (p' := 6) f_114_5 rfl rfl
 (w_iload_n (p' := 7) f_114_6 rfl rfl
 (w_iconst (p' := 8) f_114_7 rfl
 (w_iconst (p' := 9) f_114_8 rfl
 (w_callV (p' := 12) f_114_9 rfl rfl rfl rfl rfl (r := []) rfl rfl (kI (.inl rk_101) fun r101 s101 h101 =>
 w_iret f_114_12 rk_114 h101) h)))))))))
/-! ClosedRooms.load(III)I -/
theorem f_115_0 : fnd 115 0 = some (0, .aload_n 0, 1, 0, 0, 0, 0) := ceB_eq (by decide +kernel)
theorem f_115_1 : fnd 115 1 = some (1, .bipush 13, 2, 0, 0, 0, 0) := ceB_eq (by decide +kernel)
theorem f_115_3 : fnd 115 3 = some (3, .iconst (-1), 1, 0, 0, 0, 0) := ceB_eq (by decide +kernel)
theorem f_115_4 : fnd 115 4 = some (4, .iload_n 1, 1, 0, 0, 0, 0) := ceB_eq (by decide +kernel)
theorem f_115_5 : fnd 115 5 = some (5, .iload_n 2, 1, 0, 0, 0, 0) := ceB_eq (by decide +kernel)
theorem f_115_6 : fnd 115 6 = some (6, .iload_n 3, 1, 0, 0, 0, 0) := ceB_eq (by decide +kernel)
theorem f_115_7 : fnd 115 7 = some (7, .iconst 0, 1, 0, 0, 0, 0) := ceB_eq (by decide +kernel)
theorem f_115_8 : fnd 115 8 = some (8, .iconst 0, 1, 0, 0, 0, 0) := ceB_eq (by decide +kernel)
theorem f_115_9 : fnd 115 9 = some (9, .invokevirtual 244, 3, 101, 8, 0, 0) := ceB_eq (by decide +kernel)
theorem f_115_12 : fnd 115 12 = some (12, .ireturn, 1, 0, 0, 0, 0) := ceB_eq (by decide +kernel)
theorem rk_115 : rkm 115 = 0 := by decide +kernel
theorem ml_115 : (mth 115).2.1 = 4 := by decide +kernel
set_option maxRecDepth 100000 in
theorem T_X_load (k0 i0 x1 x2 x3 : Int) (σ : ST) (Q : Option AV → ST → Prop) (h :
  wpM m_X_act [.inr (.inr (0, k0, i0)), .inl 13, .inl (-1), .inl x1, .inl x2, .inl x3, .inl 0, .inl 0] σ (asI fun r101 s101 =>
  Q (some (.inl r101)) s101)) :
  wpM m_X_load [.inr (.inr (0, k0, i0)), .inl x1, .inl x2, .inl x3] σ Q :=
 wpM_of ml_115 (L := [some (.inr (.inr (0, k0, i0))), some (.inl x1), some (.inl x2), some (.inl x3)]) rfl
 (w_aload_n (p' := 1) f_115_0 rfl rfl
 (w_bipush (p' := 3) f_115_1 rfl
 (w_iconst (p' := 4) f_115_3 rfl
 (w_iload_n (p' := 5) f_115_4 rfl rfl
 (w_iload_n (p' := 6) f_115_5 rfl rfl
 (w_iload_n (p' := 7) f_115_6 rfl rfl
 (w_iconst (p' := 8) f_115_7 rfl
 (w_iconst (p' := 9) f_115_8 rfl
 (w_callV (p' := 12) f_115_9 rfl rfl rfl rfl rfl (r := []) rfl rfl (kI (.inl rk_101) fun r101 s101 h101 =>
 w_iret f_115_12 rk_115 h101) h)))))))))
/-! ClosedRooms.remove(I)I -/
theorem f_116_0 : fnd 116 0 = some (0, .aload_n 0, 1, 0, 0, 0, 0) := ceB_eq (by decide +kernel)
theorem f_116_1 : fnd 116 1 = some (1, .bipush 14, 2, 0, 0, 0, 0) := ceB_eq (by decide +kernel)
theorem f_116_3 : fnd 116 3 = some (3, .iconst (-1), 1, 0, 0, 0, 0) := ceB_eq (by decide +kernel)
theorem f_116_4 : fnd 116 4 = some (4, .iload_n 1, 1, 0, 0, 0, 0) := ceB_eq (by decide +kernel)
theorem f_116_5 : fnd 116 5 = some (5, .iconst 0, 1, 0, 0, 0, 0) := ceB_eq (by decide +kernel)
theorem f_116_6 : fnd 116 6 = some (6, .iconst 0, 1, 0, 0, 0, 0) := ceB_eq (by decide +kernel)
theorem f_116_7 : fnd 116 7 = some (7, .iconst 0, 1, 0, 0, 0, 0) := ceB_eq (by decide +kernel)
theorem f_116_8 : fnd 116 8 = some (8, .iconst 0, 1, 0, 0, 0, 0) := ceB_eq (by decide +kernel)
theorem f_116_9 : fnd 116 9 = some (9, .invokevirtual 244, 3, 101, 8, 0, 0) := ceB_eq (by decide +kernel)
theorem f_116_12 : fnd 116 12 = some (12, .ireturn, 1, 0, 0, 0, 0) := ceB_eq (by decide +kernel)
theorem rk_116 : rkm 116 = 0 := by decide +kernel
theorem ml_116 : (mth 116).2.1 = 2 := by decide +kernel
set_option maxRecDepth 100000 in
theorem T_X_remove (k0 i0 x1 : Int) (σ : ST) (Q : Option AV → ST → Prop) (h :
  wpM m_X_act [.inr (.inr (0, k0, i0)), .inl 14, .inl (-1), .inl x1, .inl 0, .inl 0, .inl 0, .inl 0] σ (asI fun r101 s101 =>
  Q (some (.inl r101)) s101)) :
  wpM m_X_remove [.inr (.inr (0, k0, i0)), .inl x1] σ Q :=
 wpM_of ml_116 (L := [some (.inr (.inr (0, k0, i0))), some (.inl x1)]) rfl
 (w_aload_n (p' := 1) f_116_0 rfl rfl
 (w_bipush (p' := 3) f_116_1 rfl
 (w_iconst (p' := 4) f_116_3 rfl
 (w_iload_n (p' := 5) f_116_4 rfl rfl
 (w_iconst (p' := 6) f_116_5 rfl
 (w_iconst (p' := 7) f_116_6 rfl
 (w_iconst (p' := 8) f_116_7 rfl
 (w_iconst (p' := 9) f_116_8 rfl
 (w_callV (p' := 12) f_116_9 rfl rfl rfl rfl rfl (r := []) rfl rfl (kI (.inl rk_101) fun r101 s101 h101 =>
 w_iret f_116_12 rk_116 h101) h)))))))))
/-! ClosedRooms.map(III)I -/
theorem f_117_0 : fnd 117 0 = some (0, .aload_n 0, 1, 0, 0, 0, 0) := ceB_eq (by decide +kernel)
theorem f_117_1 : fnd 117 1 = some (1, .bipush 15, 2, 0, 0, 0, 0) := ceB_eq (by decide +kernel)
theorem f_117_3 : fnd 117 3 = some (3, .ldc 116, 2, 0, 0, 0, (-1000000)) := ceB_eq (by decide +kernel)
theorem f_117_5 : fnd 117 5 = some (5, .iload_n 1, 1, 0, 0, 0, 0) := ceB_eq (by decide +kernel)
theorem f_117_6 : fnd 117 6 = some (6, .iload_n 2, 1, 0, 0, 0, 0) := ceB_eq (by decide +kernel)
theorem f_117_7 : fnd 117 7 = some (7, .iload_n 3, 1, 0, 0, 0, 0) := ceB_eq (by decide +kernel)
theorem f_117_8 : fnd 117 8 = some (8, .iconst 0, 1, 0, 0, 0, 0) := ceB_eq (by decide +kernel)
theorem f_117_9 : fnd 117 9 = some (9, .iconst 0, 1, 0, 0, 0, 0) := ceB_eq (by decide +kernel)
theorem f_117_10 : fnd 117 10 = some (10, .invokevirtual 244, 3, 101, 8, 0, 0) := ceB_eq (by decide +kernel)
theorem f_117_13 : fnd 117 13 = some (13, .ireturn, 1, 0, 0, 0, 0) := ceB_eq (by decide +kernel)
theorem rk_117 : rkm 117 = 0 := by decide +kernel
theorem ml_117 : (mth 117).2.1 = 4 := by decide +kernel
set_option maxRecDepth 100000 in
theorem T_X_map (k0 i0 x1 x2 x3 : Int) (σ : ST) (Q : Option AV → ST → Prop) (h :
  wpM m_X_act [.inr (.inr (0, k0, i0)), .inl 15, .inl (-1000000), .inl x1, .inl x2, .inl x3, .inl 0, .inl 0] σ (asI fun r101 s101 =>
  Q (some (.inl r101)) s101)) :
  wpM m_X_map [.inr (.inr (0, k0, i0)), .inl x1, .inl x2, .inl x3] σ Q :=
 wpM_of ml_117 (L := [some (.inr (.inr (0, k0, i0))), some (.inl x1), some (.inl x2), some (.inl x3)]) rfl
 (w_aload_n (p' := 1) f_117_0 rfl rfl
 (w_bipush (p' := 3) f_117_1 rfl
 (w_ldc (p' := 5) f_117_3 rfl
 (w_iload_n (p' := 6) f_117_5 rfl rfl
 (w_iload_n (p' := 7) f_117_6 rfl rfl
 (w_iload_n (p' := 8) f_117_7 rfl rfl
 (w_iconst (p' := 9) f_117_8 rfl
 (w_iconst (p' := 10) f_117_9 rfl
 (w_callV (p' := 13) f_117_10 rfl rfl rfl rfl rfl (r := []) rfl rfl (kI (.inl rk_101) fun r101 s101 h101 =>
 w_iret f_117_13 rk_117 h101) h)))))))))
/-! ClosedRooms.twice(I)I -/
theorem f_118_0 : fnd 118 0 = some (0, .aload_n 0, 1, 0, 0, 0, 0) := ceB_eq (by decide +kernel)
theorem f_118_1 : fnd 118 1 = some (1, .bipush 16, 2, 0, 0, 0, 0) := ceB_eq (by decide +kernel)
theorem f_118_3 : fnd 118 3 = some (3, .iconst (-1), 1, 0, 0, 0, 0) := ceB_eq (by decide +kernel)
theorem f_118_4 : fnd 118 4 = some (4, .iload_n 1, 1, 0, 0, 0, 0) := ceB_eq (by decide +kernel)
theorem f_118_5 : fnd 118 5 = some (5, .iconst 0, 1, 0, 0, 0, 0) := ceB_eq (by decide +kernel)
theorem f_118_6 : fnd 118 6 = some (6, .iconst 0, 1, 0, 0, 0, 0) := ceB_eq (by decide +kernel)
theorem f_118_7 : fnd 118 7 = some (7, .iconst 0, 1, 0, 0, 0, 0) := ceB_eq (by decide +kernel)
theorem f_118_8 : fnd 118 8 = some (8, .iconst 0, 1, 0, 0, 0, 0) := ceB_eq (by decide +kernel)
theorem f_118_9 : fnd 118 9 = some (9, .invokevirtual 244, 3, 101, 8, 0, 0) := ceB_eq (by decide +kernel)
theorem f_118_12 : fnd 118 12 = some (12, .ireturn, 1, 0, 0, 0, 0) := ceB_eq (by decide +kernel)
theorem rk_118 : rkm 118 = 0 := by decide +kernel
theorem ml_118 : (mth 118).2.1 = 2 := by decide +kernel
set_option maxRecDepth 100000 in
theorem T_X_twice (k0 i0 x1 : Int) (σ : ST) (Q : Option AV → ST → Prop) (h :
  wpM m_X_act [.inr (.inr (0, k0, i0)), .inl 16, .inl (-1), .inl x1, .inl 0, .inl 0, .inl 0, .inl 0] σ (asI fun r101 s101 =>
  Q (some (.inl r101)) s101)) :
  wpM m_X_twice [.inr (.inr (0, k0, i0)), .inl x1] σ Q :=
 wpM_of ml_118 (L := [some (.inr (.inr (0, k0, i0))), some (.inl x1)]) rfl
 (w_aload_n (p' := 1) f_118_0 rfl rfl
 (w_bipush (p' := 3) f_118_1 rfl
 (w_iconst (p' := 4) f_118_3 rfl
 (w_iload_n (p' := 5) f_118_4 rfl rfl
 (w_iconst (p' := 6) f_118_5 rfl
 (w_iconst (p' := 7) f_118_6 rfl
 (w_iconst (p' := 8) f_118_7 rfl
 (w_iconst (p' := 9) f_118_8 rfl
 (w_callV (p' := 12) f_118_9 rfl rfl rfl rfl rfl (r := []) rfl rfl (kI (.inl rk_101) fun r101 s101 h101 =>
 w_iret f_118_12 rk_118 h101) h)))))))))
/-! ClosedRooms.change(II)I -/
theorem f_119_0 : fnd 119 0 = some (0, .aload_n 0, 1, 0, 0, 0, 0) := ceB_eq (by decide +kernel)
theorem f_119_1 : fnd 119 1 = some (1, .bipush 17, 2, 0, 0, 0, 0) := ceB_eq (by decide +kernel)
theorem f_119_3 : fnd 119 3 = some (3, .iconst (-1), 1, 0, 0, 0, 0) := ceB_eq (by decide +kernel)
theorem f_119_4 : fnd 119 4 = some (4, .iload_n 1, 1, 0, 0, 0, 0) := ceB_eq (by decide +kernel)
theorem f_119_5 : fnd 119 5 = some (5, .iload_n 2, 1, 0, 0, 0, 0) := ceB_eq (by decide +kernel)
theorem f_119_6 : fnd 119 6 = some (6, .iconst 0, 1, 0, 0, 0, 0) := ceB_eq (by decide +kernel)
theorem f_119_7 : fnd 119 7 = some (7, .iconst 0, 1, 0, 0, 0, 0) := ceB_eq (by decide +kernel)
theorem f_119_8 : fnd 119 8 = some (8, .iconst 0, 1, 0, 0, 0, 0) := ceB_eq (by decide +kernel)
theorem f_119_9 : fnd 119 9 = some (9, .invokevirtual 244, 3, 101, 8, 0, 0) := ceB_eq (by decide +kernel)
theorem f_119_12 : fnd 119 12 = some (12, .ireturn, 1, 0, 0, 0, 0) := ceB_eq (by decide +kernel)
theorem rk_119 : rkm 119 = 0 := by decide +kernel
theorem ml_119 : (mth 119).2.1 = 3 := by decide +kernel
set_option maxRecDepth 100000 in
theorem T_X_change (k0 i0 x1 x2 : Int) (σ : ST) (Q : Option AV → ST → Prop) (h :
  wpM m_X_act [.inr (.inr (0, k0, i0)), .inl 17, .inl (-1), .inl x1, .inl x2, .inl 0, .inl 0, .inl 0] σ (asI fun r101 s101 =>
  Q (some (.inl r101)) s101)) :
  wpM m_X_change [.inr (.inr (0, k0, i0)), .inl x1, .inl x2] σ Q :=
 wpM_of ml_119 (L := [some (.inr (.inr (0, k0, i0))), some (.inl x1), some (.inl x2)]) rfl
 (w_aload_n (p' := 1) f_119_0 rfl rfl
 (w_bipush (p' := 3) f_119_1 rfl
 (w_iconst (p' := 4) f_119_3 rfl
 (w_iload_n (p' := 5) f_119_4 rfl rfl
 (w_iload_n (p' := 6) f_119_5 rfl rfl
 (w_iconst (p' := 7) f_119_6 rfl
 (w_iconst (p' := 8) f_119_7 rfl
 (w_iconst (p' := 9) f_119_8 rfl
 (w_callV (p' := 12) f_119_9 rfl rfl rfl rfl rfl (r := []) rfl rfl (kI (.inl rk_101) fun r101 s101 h101 =>
 w_iret f_119_12 rk_119 h101) h)))))))))
/-! ClosedRooms.drop(I)I -/
theorem f_120_0 : fnd 120 0 = some (0, .aload_n 0, 1, 0, 0, 0, 0) := ceB_eq (by decide +kernel)
theorem f_120_1 : fnd 120 1 = some (1, .bipush 18, 2, 0, 0, 0, 0) := ceB_eq (by decide +kernel)
theorem f_120_3 : fnd 120 3 = some (3, .iconst (-1), 1, 0, 0, 0, 0) := ceB_eq (by decide +kernel)
theorem f_120_4 : fnd 120 4 = some (4, .iload_n 1, 1, 0, 0, 0, 0) := ceB_eq (by decide +kernel)
theorem f_120_5 : fnd 120 5 = some (5, .iconst 0, 1, 0, 0, 0, 0) := ceB_eq (by decide +kernel)
theorem f_120_6 : fnd 120 6 = some (6, .iconst 0, 1, 0, 0, 0, 0) := ceB_eq (by decide +kernel)
theorem f_120_7 : fnd 120 7 = some (7, .iconst 0, 1, 0, 0, 0, 0) := ceB_eq (by decide +kernel)
theorem f_120_8 : fnd 120 8 = some (8, .iconst 0, 1, 0, 0, 0, 0) := ceB_eq (by decide +kernel)
theorem f_120_9 : fnd 120 9 = some (9, .invokevirtual 244, 3, 101, 8, 0, 0) := ceB_eq (by decide +kernel)
theorem f_120_12 : fnd 120 12 = some (12, .ireturn, 1, 0, 0, 0, 0) := ceB_eq (by decide +kernel)
theorem rk_120 : rkm 120 = 0 := by decide +kernel
theorem ml_120 : (mth 120).2.1 = 2 := by decide +kernel
set_option maxRecDepth 100000 in
theorem T_X_drop (k0 i0 x1 : Int) (σ : ST) (Q : Option AV → ST → Prop) (h :
  wpM m_X_act [.inr (.inr (0, k0, i0)), .inl 18, .inl (-1), .inl x1, .inl 0, .inl 0, .inl 0, .inl 0] σ (asI fun r101 s101 =>
  Q (some (.inl r101)) s101)) :
  wpM m_X_drop [.inr (.inr (0, k0, i0)), .inl x1] σ Q :=
 wpM_of ml_120 (L := [some (.inr (.inr (0, k0, i0))), some (.inl x1)]) rfl
 (w_aload_n (p' := 1) f_120_0 rfl rfl
 (w_bipush (p' := 3) f_120_1 rfl
 (w_iconst (p' := 4) f_120_3 rfl
 (w_iload_n (p' := 5) f_120_4 rfl rfl
 (w_iconst (p' := 6) f_120_5 rfl
 (w_iconst (p' := 7) f_120_6 rfl
 (w_iconst (p' := 8) f_120_7 rfl
 (w_iconst (p' := 9) f_120_8 rfl
 (w_callV (p' := 12) f_120_9 rfl rfl rfl rfl rfl (r := []) rfl rfl (kI (.inl rk_101) fun r101 s101 h101 =>
 w_iret f_120_12 rk_120 h101) h)))))))))
/-! ClosedRooms.tell(II)I -/
theorem f_121_0 : fnd 121 0 = some (0, .aload_n 0, 1, 0, 0, 0, 0) := ceB_eq (by decide +kernel)
theorem f_121_1 : fnd 121 1 = some (1, .bipush 19, 2, 0, 0, 0, 0) := ceB_eq (by decide +kernel)
theorem f_121_3 : fnd 121 3 = some (3, .iconst (-1), 1, 0, 0, 0, 0) := ceB_eq (by decide +kernel)
theorem f_121_4 : fnd 121 4 = some (4, .iload_n 1, 1, 0, 0, 0, 0) := ceB_eq (by decide +kernel)
theorem f_121_5 : fnd 121 5 = some (5, .iload_n 2, 1, 0, 0, 0, 0) := ceB_eq (by decide +kernel)
theorem f_121_6 : fnd 121 6 = some (6, .iconst 0, 1, 0, 0, 0, 0) := ceB_eq (by decide +kernel)
theorem f_121_7 : fnd 121 7 = some (7, .iconst 0, 1, 0, 0, 0, 0) := ceB_eq (by decide +kernel)
theorem f_121_8 : fnd 121 8 = some (8, .iconst 0, 1, 0, 0, 0, 0) := ceB_eq (by decide +kernel)
theorem f_121_9 : fnd 121 9 = some (9, .invokevirtual 244, 3, 101, 8, 0, 0) := ceB_eq (by decide +kernel)
theorem f_121_12 : fnd 121 12 = some (12, .ireturn, 1, 0, 0, 0, 0) := ceB_eq (by decide +kernel)
theorem rk_121 : rkm 121 = 0 := by decide +kernel
theorem ml_121 : (mth 121).2.1 = 3 := by decide +kernel
set_option maxRecDepth 100000 in
theorem T_X_tell (k0 i0 x1 x2 : Int) (σ : ST) (Q : Option AV → ST → Prop) (h :
  wpM m_X_act [.inr (.inr (0, k0, i0)), .inl 19, .inl (-1), .inl x1, .inl x2, .inl 0, .inl 0, .inl 0] σ (asI fun r101 s101 =>
  Q (some (.inl r101)) s101)) :
  wpM m_X_tell [.inr (.inr (0, k0, i0)), .inl x1, .inl x2] σ Q :=
 wpM_of ml_121 (L := [some (.inr (.inr (0, k0, i0))), some (.inl x1), some (.inl x2)]) rfl
 (w_aload_n (p' := 1) f_121_0 rfl rfl
 (w_bipush (p' := 3) f_121_1 rfl
 (w_iconst (p' := 4) f_121_3 rfl
 (w_iload_n (p' := 5) f_121_4 rfl rfl
 (w_iload_n (p' := 6) f_121_5 rfl rfl
 (w_iconst (p' := 7) f_121_6 rfl
 (w_iconst (p' := 8) f_121_7 rfl
 (w_iconst (p' := 9) f_121_8 rfl
 (w_callV (p' := 12) f_121_9 rfl rfl rfl rfl rfl (r := []) rfl rfl (kI (.inl rk_101) fun r101 s101 h101 =>
 w_iret f_121_12 rk_121 h101) h)))))))))
/-! ClosedRooms$World.measureOf(I)I -/
theorem f_122_0 : fnd 122 0 = some (0, .aload_n 0, 1, 0, 0, 0, 0) := ceB_eq (by decide +kernel)
theorem f_122_1 : fnd 122 1 = some (1, .iload_n 1, 1, 0, 0, 0, 0) := ceB_eq (by decide +kernel)
theorem f_122_2 : fnd 122 2 = some (2, .invokevirtual 107, 3, 37, 2, 4, 0) := ceB_eq (by decide +kernel)
theorem f_122_5 : fnd 122 5 = some (5, .ifCond .eq 15, 3, 0, 0, 0, 0) := ceB_eq (by decide +kernel)
theorem f_122_8 : fnd 122 8 = some (8, .aload_n 0, 1, 0, 0, 0, 0) := ceB_eq (by decide +kernel)
theorem f_122_9 : fnd 122 9 = some (9, .getfield 35, 3, 4, 6, 6, 0) := ceB_eq (by decide +kernel)
theorem f_122_12 : fnd 122 12 = some (12, .iload_n 1, 1, 0, 0, 0, 0) := ceB_eq (by decide +kernel)
theorem f_122_13 : fnd 122 13 = some (13, .aaload, 1, 0, 0, 0, 0) := ceB_eq (by decide +kernel)
theorem f_122_14 : fnd 122 14 = some (14, .getfield 113, 3, 7, 4, 4, 0) := ceB_eq (by decide +kernel)
theorem f_122_17 : fnd 122 17 = some (17, .goto 4, 3, 0, 0, 0, 0) := ceB_eq (by decide +kernel)
theorem f_122_20 : fnd 122 20 = some (20, .iconst 0, 1, 0, 0, 0, 0) := ceB_eq (by decide +kernel)
theorem f_122_21 : fnd 122 21 = some (21, .ireturn, 1, 0, 0, 0, 0) := ceB_eq (by decide +kernel)
theorem rk_122 : rkm 122 = 0 := by decide +kernel
theorem ml_122 : (mth 122).2.1 = 2 := by decide +kernel
set_option maxRecDepth 100000 in
theorem T_World_measureOf (k0 i0 x1 : Int) (σ : ST) (Q : Option AV → ST → Prop) (h :
  wpM m_World_isRoom [.inr (.inr (12, k0, i0)), .inl x1] σ (asI fun r101 s101 =>
  (((r101 = 0 : Prop) →
    Q (some (.inl 0)) s101) ∧
  (¬ (r101 = 0) →
    ((0 : Int) ≤ x1 ∧ (x1 : Int) < 4) ∧
    Q (some (.inl (s101 17 k0 x1 4))) s101)))) :
  wpM m_World_measureOf [.inr (.inr (12, k0, i0)), .inl x1] σ Q :=
 wpM_of ml_122 (L := [some (.inr (.inr (12, k0, i0))), some (.inl x1)]) rfl
 (w_aload_n (p' := 1) f_122_0 rfl rfl
 (w_iload_n (p' := 2) f_122_1 rfl rfl
 (w_callV (p' := 5) f_122_2 rfl rfl rfl rfl rfl (r := []) rfl rfl (kI (.inr rk_37) fun r101 s101 h101 =>
 w_if (p' := 20) (q' := 8) f_122_5 rfl rfl
 (fun c102 => w_iconst (p' := 21) f_122_20 rfl
 (w_iret f_122_21 rk_122 (h101.1 c102)))
 (fun c102 => w_aload_n (p' := 9) f_122_8 rfl rfl
 (w_getfield (p' := 12) f_122_9 rfl (x := .inr (.inr (16, k0, 0))) rfl rfl
 (w_iload_n (p' := 13) f_122_12 rfl rfl
 (w_aaload (p' := 14) f_122_13 rfl (n := 4) rfl (x := (17, k0, x1)) rfl (h101.2 c102).1 rfl
 (w_getfield (p' := 17) f_122_14 rfl (x := .inl (s101 17 k0 x1 4)) rfl rfl
 (w_goto (p' := 21) f_122_17 rfl
 (w_iret f_122_21 rk_122 (h101.2 c102).2)))))))) h)))
/-! ClosedRooms.reportFrom(III)I -/
theorem f_123_0 : fnd 123 0 = some (0, .aload_n 0, 1, 0, 0, 0, 0) := ceB_eq (by decide +kernel)
theorem f_123_1 : fnd 123 1 = some (1, .getfield 16, 3, 0, 1, 1, 0) := ceB_eq (by decide +kernel)
theorem f_123_4 : fnd 123 4 = some (4, .iconst 3, 1, 0, 0, 0, 0) := ceB_eq (by decide +kernel)
theorem f_123_5 : fnd 123 5 = some (5, .iaload, 1, 0, 0, 0, 0) := ceB_eq (by decide +kernel)
theorem f_123_6 : fnd 123 6 = some (6, .bipush 31, 2, 0, 0, 0, 0) := ceB_eq (by decide +kernel)
theorem f_123_8 : fnd 123 8 = some (8, .imul, 1, 0, 0, 0, 0) := ceB_eq (by decide +kernel)
theorem f_123_9 : fnd 123 9 = some (9, .aload_n 0, 1, 0, 0, 0, 0) := ceB_eq (by decide +kernel)
theorem f_123_10 : fnd 123 10 = some (10, .getfield 45, 3, 0, 6, 6, 0) := ceB_eq (by decide +kernel)
theorem f_123_13 : fnd 123 13 = some (13, .iload_n 1, 1, 0, 0, 0, 0) := ceB_eq (by decide +kernel)
theorem f_123_14 : fnd 123 14 = some (14, .invokevirtual 287, 3, 122, 2, 4, 0) := ceB_eq (by decide +kernel)
theorem f_123_17 : fnd 123 17 = some (17, .iadd, 1, 0, 0, 0, 0) := ceB_eq (by decide +kernel)
theorem f_123_18 : fnd 123 18 = some (18, .istore 4, 2, 0, 0, 0, 0) := ceB_eq (by decide +kernel)
theorem f_123_20 : fnd 123 20 = some (20, .iload 4, 2, 0, 0, 0, 0) := ceB_eq (by decide +kernel)
theorem f_123_22 : fnd 123 22 = some (22, .bipush 31, 2, 0, 0, 0, 0) := ceB_eq (by decide +kernel)
theorem f_123_24 : fnd 123 24 = some (24, .imul, 1, 0, 0, 0, 0) := ceB_eq (by decide +kernel)
theorem f_123_25 : fnd 123 25 = some (25, .aload_n 0, 1, 0, 0, 0, 0) := ceB_eq (by decide +kernel)
theorem f_123_26 : fnd 123 26 = some (26, .getfield 45, 3, 0, 6, 6, 0) := ceB_eq (by decide +kernel)
theorem f_123_29 : fnd 123 29 = some (29, .iload_n 2, 1, 0, 0, 0, 0) := ceB_eq (by decide +kernel)
theorem f_123_30 : fnd 123 30 = some (30, .invokevirtual 287, 3, 122, 2, 4, 0) := ceB_eq (by decide +kernel)
theorem f_123_33 : fnd 123 33 = some (33, .iadd, 1, 0, 0, 0, 0) := ceB_eq (by decide +kernel)
theorem f_123_34 : fnd 123 34 = some (34, .istore 4, 2, 0, 0, 0, 0) := ceB_eq (by decide +kernel)
theorem f_123_36 : fnd 123 36 = some (36, .iload 4, 2, 0, 0, 0, 0) := ceB_eq (by decide +kernel)
theorem f_123_38 : fnd 123 38 = some (38, .bipush 31, 2, 0, 0, 0, 0) := ceB_eq (by decide +kernel)
theorem f_123_40 : fnd 123 40 = some (40, .imul, 1, 0, 0, 0, 0) := ceB_eq (by decide +kernel)
theorem f_123_41 : fnd 123 41 = some (41, .iload_n 3, 1, 0, 0, 0, 0) := ceB_eq (by decide +kernel)
theorem f_123_42 : fnd 123 42 = some (42, .iadd, 1, 0, 0, 0, 0) := ceB_eq (by decide +kernel)
theorem f_123_43 : fnd 123 43 = some (43, .ireturn, 1, 0, 0, 0, 0) := ceB_eq (by decide +kernel)
theorem rk_123 : rkm 123 = 0 := by decide +kernel
theorem ml_123 : (mth 123).2.1 = 5 := by decide +kernel
set_option maxRecDepth 100000 in
theorem T_X_reportFrom (k0 i0 x1 x2 x3 : Int) (σ : ST) (Q : Option AV → ST → Prop) (h :
  ((0 : Int) ≤ 3 ∧ (3 : Int) < 4) ∧
  wpM m_World_measureOf [.inr (.inr (12, 0, 0)), .inl x1] σ (asI fun r101 s101 =>
  wpM m_World_measureOf [.inr (.inr (12, 0, 0)), .inl x2] s101 (asI fun r102 s102 =>
  Q (some (.inl (wr ((wr ((wr ((wr ((wr ((wr ((σ 7 0 0 3) * 31)) + r101)) * 31)) + r102)) * 31)) + x3)))) s102))) :
  wpM m_X_reportFrom [.inr (.inr (0, k0, i0)), .inl x1, .inl x2, .inl x3] σ Q :=
 wpM_of ml_123 (L := [some (.inr (.inr (0, k0, i0))), some (.inl x1), some (.inl x2), some (.inl x3), none]) rfl
 (w_aload_n (p' := 1) f_123_0 rfl rfl
 (w_getfield (p' := 4) f_123_1 rfl (x := .inr (.inr (7, 0, 0))) rfl rfl
 (w_iconst (p' := 5) f_123_4 rfl
 (w_iaload (p' := 6) f_123_5 rfl (n := 4) rfl h.1 rfl
 (w_bipush (p' := 8) f_123_6 rfl
 (w_imul (p' := 9) f_123_8 rfl
 (w_aload_n (p' := 10) f_123_9 rfl rfl
 (w_getfield (p' := 13) f_123_10 rfl (x := .inr (.inr (12, 0, 0))) rfl rfl
 (w_iload_n (p' := 14) f_123_13 rfl rfl
 (w_callV (p' := 17) f_123_14 rfl rfl rfl rfl rfl (r := [.inl (wr ((σ 7 0 0 3) * 31))]) rfl rfl (kI (.inl rk_122) fun r101 s101 h101 =>
 w_iadd (p' := 18) f_123_17 rfl
 (w_istore (p' := 20) f_123_18 (L' := [some (.inr (.inr (0, k0, i0))), some (.inl x1), some (.inl x2), some (.inl x3), some (.inl (wr ((wr ((σ 7 0 0 3) * 31)) + r101)))]) rfl rfl
 (w_iload (p' := 22) f_123_20 rfl rfl
 (w_bipush (p' := 24) f_123_22 rfl
 (w_imul (p' := 25) f_123_24 rfl
 (w_aload_n (p' := 26) f_123_25 rfl rfl
 (w_getfield (p' := 29) f_123_26 rfl (x := .inr (.inr (12, 0, 0))) rfl rfl
 (w_iload_n (p' := 30) f_123_29 rfl rfl
 (w_callV (p' := 33) f_123_30 rfl rfl rfl rfl rfl (r := [.inl (wr ((wr ((wr ((σ 7 0 0 3) * 31)) + r101)) * 31))]) rfl rfl (kI (.inl rk_122) fun r102 s102 h102 =>
 w_iadd (p' := 34) f_123_33 rfl
 (w_istore (p' := 36) f_123_34 (L' := [some (.inr (.inr (0, k0, i0))), some (.inl x1), some (.inl x2), some (.inl x3), some (.inl (wr ((wr ((wr ((wr ((σ 7 0 0 3) * 31)) + r101)) * 31)) + r102)))]) rfl rfl
 (w_iload (p' := 38) f_123_36 rfl rfl
 (w_bipush (p' := 40) f_123_38 rfl
 (w_imul (p' := 41) f_123_40 rfl
 (w_iload_n (p' := 42) f_123_41 rfl rfl
 (w_iadd (p' := 43) f_123_42 rfl
 (w_iret f_123_43 rk_123 h102)))))))) h101))))))))) h.2))))))))))
/-! ClosedRooms.report(II)I -/
theorem f_124_0 : fnd 124 0 = some (0, .aload_n 0, 1, 0, 0, 0, 0) := ceB_eq (by decide +kernel)
theorem f_124_1 : fnd 124 1 = some (1, .getfield 45, 3, 0, 6, 6, 0) := ceB_eq (by decide +kernel)
theorem f_124_4 : fnd 124 4 = some (4, .iload_n 1, 1, 0, 0, 0, 0) := ceB_eq (by decide +kernel)
theorem f_124_5 : fnd 124 5 = some (5, .invokevirtual 280, 3, 70, 2, 4, 0) := ceB_eq (by decide +kernel)
theorem f_124_8 : fnd 124 8 = some (8, .ifCond .eq 14, 3, 0, 0, 0, 0) := ceB_eq (by decide +kernel)
theorem f_124_11 : fnd 124 11 = some (11, .aload_n 0, 1, 0, 0, 0, 0) := ceB_eq (by decide +kernel)
theorem f_124_12 : fnd 124 12 = some (12, .getfield 45, 3, 0, 6, 6, 0) := ceB_eq (by decide +kernel)
theorem f_124_15 : fnd 124 15 = some (15, .iload_n 2, 1, 0, 0, 0, 0) := ceB_eq (by decide +kernel)
theorem f_124_16 : fnd 124 16 = some (16, .invokevirtual 151, 3, 37, 2, 4, 0) := ceB_eq (by decide +kernel)
theorem f_124_19 : fnd 124 19 = some (19, .ifCond .ne 6, 3, 0, 0, 0, 0) := ceB_eq (by decide +kernel)
theorem f_124_22 : fnd 124 22 = some (22, .ldc 116, 2, 0, 0, 0, (-1000000)) := ceB_eq (by decide +kernel)
theorem f_124_24 : fnd 124 24 = some (24, .ireturn, 1, 0, 0, 0, 0) := ceB_eq (by decide +kernel)
theorem f_124_25 : fnd 124 25 = some (25, .aload_n 0, 1, 0, 0, 0, 0) := ceB_eq (by decide +kernel)
theorem f_124_26 : fnd 124 26 = some (26, .getfield 45, 3, 0, 6, 6, 0) := ceB_eq (by decide +kernel)
theorem f_124_29 : fnd 124 29 = some (29, .getfield 202, 3, 4, 7, 7, 0) := ceB_eq (by decide +kernel)
theorem f_124_32 : fnd 124 32 = some (32, .iload_n 1, 1, 0, 0, 0, 0) := ceB_eq (by decide +kernel)
theorem f_124_33 : fnd 124 33 = some (33, .aaload, 1, 0, 0, 0, 0) := ceB_eq (by decide +kernel)
theorem f_124_34 : fnd 124 34 = some (34, .astore_n 3, 1, 0, 0, 0, 0) := ceB_eq (by decide +kernel)
theorem f_124_35 : fnd 124 35 = some (35, .aload_n 0, 1, 0, 0, 0, 0) := ceB_eq (by decide +kernel)
theorem f_124_36 : fnd 124 36 = some (36, .aload_n 3, 1, 0, 0, 0, 0) := ceB_eq (by decide +kernel)
theorem f_124_37 : fnd 124 37 = some (37, .getfield 211, 3, 8, 1, 1, 0) := ceB_eq (by decide +kernel)
theorem f_124_40 : fnd 124 40 = some (40, .iload_n 2, 1, 0, 0, 0, 0) := ceB_eq (by decide +kernel)
theorem f_124_41 : fnd 124 41 = some (41, .aload_n 3, 1, 0, 0, 0, 0) := ceB_eq (by decide +kernel)
theorem f_124_42 : fnd 124 42 = some (42, .getfield 206, 3, 8, 0, 0, 0) := ceB_eq (by decide +kernel)
theorem f_124_45 : fnd 124 45 = some (45, .invokevirtual 283, 3, 123, 4, 0, 0) := ceB_eq (by decide +kernel)
theorem f_124_48 : fnd 124 48 = some (48, .ireturn, 1, 0, 0, 0, 0) := ceB_eq (by decide +kernel)
theorem rk_124 : rkm 124 = 0 := by decide +kernel
theorem ml_124 : (mth 124).2.1 = 4 := by decide +kernel
set_option maxRecDepth 100000 in
theorem T_X_report (k0 i0 x1 x2 : Int) (σ : ST) (Q : Option AV → ST → Prop) (h :
  wpM m_World_isInside [.inr (.inr (12, 0, 0)), .inl x1] σ (asI fun r101 s101 =>
  (((r101 = 0 : Prop) →
    Q (some (.inl (-1000000))) s101) ∧
  (¬ (r101 = 0) →
    wpM m_World_isRoom [.inr (.inr (12, 0, 0)), .inl x2] s101 (asI fun r102 s102 =>
    (((r102 ≠ 0 : Prop) →
      ((0 : Int) ≤ x1 ∧ (x1 : Int) < 3) ∧
      wpM m_X_reportFrom [.inr (.inr (0, k0, i0)), .inl (s102 21 0 x1 1), .inl x2, .inl (s102 21 0 x1 0)] s102 (asI fun r103 s103 =>
      Q (some (.inl r103)) s103)) ∧
    (¬ (r102 ≠ 0) →
      Q (some (.inl (-1000000))) s102))))))) :
  wpM m_X_report [.inr (.inr (0, k0, i0)), .inl x1, .inl x2] σ Q :=
 wpM_of ml_124 (L := [some (.inr (.inr (0, k0, i0))), some (.inl x1), some (.inl x2), none]) rfl
 (w_aload_n (p' := 1) f_124_0 rfl rfl
 (w_getfield (p' := 4) f_124_1 rfl (x := .inr (.inr (12, 0, 0))) rfl rfl
 (w_iload_n (p' := 5) f_124_4 rfl rfl
 (w_callV (p' := 8) f_124_5 rfl rfl rfl rfl rfl (r := []) rfl rfl (kI (.inr rk_70) fun r101 s101 h101 =>
 w_if (p' := 22) (q' := 11) f_124_8 rfl rfl
 (fun c105 => w_ldc (p' := 24) f_124_22 rfl
 (w_iret f_124_24 rk_124 (h101.1 c105)))
 (fun c105 => w_aload_n (p' := 12) f_124_11 rfl rfl
 (w_getfield (p' := 15) f_124_12 rfl (x := .inr (.inr (12, 0, 0))) rfl rfl
 (w_iload_n (p' := 16) f_124_15 rfl rfl
 (w_callV (p' := 19) f_124_16 rfl rfl rfl rfl rfl (r := []) rfl rfl (kI (.inr rk_37) fun r102 s102 h102 =>
 w_if (p' := 25) (q' := 22) f_124_19 rfl rfl
 (fun c104 => w_aload_n (p' := 26) f_124_25 rfl rfl
 (w_getfield (p' := 29) f_124_26 rfl (x := .inr (.inr (12, 0, 0))) rfl rfl
 (w_getfield (p' := 32) f_124_29 rfl (x := .inr (.inr (20, 0, 0))) rfl rfl
 (w_iload_n (p' := 33) f_124_32 rfl rfl
 (w_aaload (p' := 34) f_124_33 rfl (n := 3) rfl (x := (21, 0, x1)) rfl (h102.1 c104).1 rfl
 (w_astore_n (p' := 35) f_124_34 (L' := [some (.inr (.inr (0, k0, i0))), some (.inl x1), some (.inl x2), some (.inr (.inr (21, 0, x1)))]) rfl rfl
 (w_aload_n (p' := 36) f_124_35 rfl rfl
 (w_aload_n (p' := 37) f_124_36 rfl rfl
 (w_getfield (p' := 40) f_124_37 rfl (x := .inl (s102 21 0 x1 1)) rfl rfl
 (w_iload_n (p' := 41) f_124_40 rfl rfl
 (w_aload_n (p' := 42) f_124_41 rfl rfl
 (w_getfield (p' := 45) f_124_42 rfl (x := .inl (s102 21 0 x1 0)) rfl rfl
 (w_callV (p' := 48) f_124_45 rfl rfl rfl rfl rfl (r := []) rfl rfl (kI (.inl rk_123) fun r103 s103 h103 =>
 w_iret f_124_48 rk_124 h103) (h102.1 c104).2)))))))))))))
 (fun c104 => w_ldc (p' := 24) f_124_22 rfl
 (w_iret f_124_24 rk_124 (h102.2 c104)))) (h101.2 c105)))))) h))))
/-! ClosedRooms.proves(IIII)Z -/
theorem f_125_0 : fnd 125 0 = some (0, .aload_n 0, 1, 0, 0, 0, 0) := ceB_eq (by decide +kernel)
theorem f_125_1 : fnd 125 1 = some (1, .getfield 45, 3, 0, 6, 6, 0) := ceB_eq (by decide +kernel)
theorem f_125_4 : fnd 125 4 = some (4, .iload_n 1, 1, 0, 0, 0, 0) := ceB_eq (by decide +kernel)
theorem f_125_5 : fnd 125 5 = some (5, .invokevirtual 280, 3, 70, 2, 4, 0) := ceB_eq (by decide +kernel)
theorem f_125_8 : fnd 125 8 = some (8, .ifCond .eq 14, 3, 0, 0, 0, 0) := ceB_eq (by decide +kernel)
theorem f_125_11 : fnd 125 11 = some (11, .aload_n 0, 1, 0, 0, 0, 0) := ceB_eq (by decide +kernel)
theorem f_125_12 : fnd 125 12 = some (12, .getfield 45, 3, 0, 6, 6, 0) := ceB_eq (by decide +kernel)
theorem f_125_15 : fnd 125 15 = some (15, .iload_n 2, 1, 0, 0, 0, 0) := ceB_eq (by decide +kernel)
theorem f_125_16 : fnd 125 16 = some (16, .invokevirtual 151, 3, 37, 2, 4, 0) := ceB_eq (by decide +kernel)
theorem f_125_19 : fnd 125 19 = some (19, .ifCond .ne 5, 3, 0, 0, 0, 0) := ceB_eq (by decide +kernel)
theorem f_125_22 : fnd 125 22 = some (22, .iconst 0, 1, 0, 0, 0, 0) := ceB_eq (by decide +kernel)
theorem f_125_23 : fnd 125 23 = some (23, .ireturn, 1, 0, 0, 0, 0) := ceB_eq (by decide +kernel)
theorem f_125_24 : fnd 125 24 = some (24, .aload_n 0, 1, 0, 0, 0, 0) := ceB_eq (by decide +kernel)
theorem f_125_25 : fnd 125 25 = some (25, .iload_n 2, 1, 0, 0, 0, 0) := ceB_eq (by decide +kernel)
theorem f_125_26 : fnd 125 26 = some (26, .aload_n 0, 1, 0, 0, 0, 0) := ceB_eq (by decide +kernel)
theorem f_125_27 : fnd 125 27 = some (27, .getfield 45, 3, 0, 6, 6, 0) := ceB_eq (by decide +kernel)
theorem f_125_30 : fnd 125 30 = some (30, .getfield 202, 3, 4, 7, 7, 0) := ceB_eq (by decide +kernel)
theorem f_125_33 : fnd 125 33 = some (33, .iload_n 1, 1, 0, 0, 0, 0) := ceB_eq (by decide +kernel)
theorem f_125_34 : fnd 125 34 = some (34, .aaload, 1, 0, 0, 0, 0) := ceB_eq (by decide +kernel)
theorem f_125_35 : fnd 125 35 = some (35, .getfield 211, 3, 8, 1, 1, 0) := ceB_eq (by decide +kernel)
theorem f_125_38 : fnd 125 38 = some (38, .iload_n 3, 1, 0, 0, 0, 0) := ceB_eq (by decide +kernel)
theorem f_125_39 : fnd 125 39 = some (39, .invokevirtual 283, 3, 123, 4, 0, 0) := ceB_eq (by decide +kernel)
theorem f_125_42 : fnd 125 42 = some (42, .iload 4, 2, 0, 0, 0, 0) := ceB_eq (by decide +kernel)
theorem f_125_44 : fnd 125 44 = some (44, .if_icmp .ne 7, 3, 0, 0, 0, 0) := ceB_eq (by decide +kernel)
theorem f_125_47 : fnd 125 47 = some (47, .iconst 1, 1, 0, 0, 0, 0) := ceB_eq (by decide +kernel)
theorem f_125_48 : fnd 125 48 = some (48, .goto 4, 3, 0, 0, 0, 0) := ceB_eq (by decide +kernel)
theorem f_125_51 : fnd 125 51 = some (51, .iconst 0, 1, 0, 0, 0, 0) := ceB_eq (by decide +kernel)
theorem f_125_52 : fnd 125 52 = some (52, .ireturn, 1, 0, 0, 0, 0) := ceB_eq (by decide +kernel)
theorem rk_125 : rkm 125 = 1 := by decide +kernel
theorem ml_125 : (mth 125).2.1 = 5 := by decide +kernel
set_option maxRecDepth 100000 in
theorem T_X_proves (k0 i0 x1 x2 x3 x4 : Int) (σ : ST) (Q : Option AV → ST → Prop) (h :
  wpM m_World_isInside [.inr (.inr (12, 0, 0)), .inl x1] σ (asI fun r101 s101 =>
  (((r101 = 0 : Prop) →
    ((0 : Int) = 0 ∨ (0 : Int) = 1) ∧ Q (some (.inl 0)) s101) ∧
  (¬ (r101 = 0) →
    wpM m_World_isRoom [.inr (.inr (12, 0, 0)), .inl x2] s101 (asI fun r102 s102 =>
    (((r102 ≠ 0 : Prop) →
      ((0 : Int) ≤ x1 ∧ (x1 : Int) < 3) ∧
      wpM m_X_reportFrom [.inr (.inr (0, k0, i0)), .inl x2, .inl (s102 21 0 x1 1), .inl x3] s102 (asI fun r103 s103 =>
      (((r103 ≠ x4 : Prop) →
        ((0 : Int) = 0 ∨ (0 : Int) = 1) ∧ Q (some (.inl 0)) s103) ∧
      (¬ (r103 ≠ x4) →
        ((1 : Int) = 0 ∨ (1 : Int) = 1) ∧ Q (some (.inl 1)) s103)))) ∧
    (¬ (r102 ≠ 0) →
      ((0 : Int) = 0 ∨ (0 : Int) = 1) ∧ Q (some (.inl 0)) s102))))))) :
  wpM m_X_proves [.inr (.inr (0, k0, i0)), .inl x1, .inl x2, .inl x3, .inl x4] σ Q :=
 wpM_of ml_125 (L := [some (.inr (.inr (0, k0, i0))), some (.inl x1), some (.inl x2), some (.inl x3), some (.inl x4)]) rfl
 (w_aload_n (p' := 1) f_125_0 rfl rfl
 (w_getfield (p' := 4) f_125_1 rfl (x := .inr (.inr (12, 0, 0))) rfl rfl
 (w_iload_n (p' := 5) f_125_4 rfl rfl
 (w_callV (p' := 8) f_125_5 rfl rfl rfl rfl rfl (r := []) rfl rfl (kI (.inr rk_70) fun r101 s101 h101 =>
 w_if (p' := 22) (q' := 11) f_125_8 rfl rfl
 (fun c106 => w_iconst (p' := 23) f_125_22 rfl
 (w_zret f_125_23 rk_125 (h101.1 c106).1 (h101.1 c106).2))
 (fun c106 => w_aload_n (p' := 12) f_125_11 rfl rfl
 (w_getfield (p' := 15) f_125_12 rfl (x := .inr (.inr (12, 0, 0))) rfl rfl
 (w_iload_n (p' := 16) f_125_15 rfl rfl
 (w_callV (p' := 19) f_125_16 rfl rfl rfl rfl rfl (r := []) rfl rfl (kI (.inr rk_37) fun r102 s102 h102 =>
 w_if (p' := 24) (q' := 22) f_125_19 rfl rfl
 (fun c105 => w_aload_n (p' := 25) f_125_24 rfl rfl
 (w_iload_n (p' := 26) f_125_25 rfl rfl
 (w_aload_n (p' := 27) f_125_26 rfl rfl
 (w_getfield (p' := 30) f_125_27 rfl (x := .inr (.inr (12, 0, 0))) rfl rfl
 (w_getfield (p' := 33) f_125_30 rfl (x := .inr (.inr (20, 0, 0))) rfl rfl
 (w_iload_n (p' := 34) f_125_33 rfl rfl
 (w_aaload (p' := 35) f_125_34 rfl (n := 3) rfl (x := (21, 0, x1)) rfl (h102.1 c105).1 rfl
 (w_getfield (p' := 38) f_125_35 rfl (x := .inl (s102 21 0 x1 1)) rfl rfl
 (w_iload_n (p' := 39) f_125_38 rfl rfl
 (w_callV (p' := 42) f_125_39 rfl rfl rfl rfl rfl (r := []) rfl rfl (kI (.inl rk_123) fun r103 s103 h103 =>
 w_iload (p' := 44) f_125_42 rfl rfl
 (w_icmp (p' := 51) (q' := 47) f_125_44 rfl rfl
 (fun c104 => w_iconst (p' := 52) f_125_51 rfl
 (w_zret f_125_52 rk_125 (h103.1 c104).1 (h103.1 c104).2))
 (fun c104 => w_iconst (p' := 48) f_125_47 rfl
 (w_goto (p' := 52) f_125_48 rfl
 (w_zret f_125_52 rk_125 (h103.2 c104).1 (h103.2 c104).2))))) (h102.1 c105).2))))))))))
 (fun c105 => w_iconst (p' := 23) f_125_22 rfl
 (w_zret f_125_23 rk_125 (h102.2 c105).1 (h102.2 c105).2))) (h101.2 c106)))))) h))))
/-! ClosedRooms.status(I)I -/
theorem f_126_0 : fnd 126 0 = some (0, .iload_n 1, 1, 0, 0, 0, 0) := ceB_eq (by decide +kernel)
theorem f_126_1 : fnd 126 1 = some (1, .ifCond .lt 8, 3, 0, 0, 0, 0) := ceB_eq (by decide +kernel)
theorem f_126_4 : fnd 126 4 = some (4, .iload_n 1, 1, 0, 0, 0, 0) := ceB_eq (by decide +kernel)
theorem f_126_5 : fnd 126 5 = some (5, .iconst 5, 1, 0, 0, 0, 0) := ceB_eq (by decide +kernel)
theorem f_126_6 : fnd 126 6 = some (6, .if_icmp .lt 5, 3, 0, 0, 0, 0) := ceB_eq (by decide +kernel)
theorem f_126_9 : fnd 126 9 = some (9, .iconst (-1), 1, 0, 0, 0, 0) := ceB_eq (by decide +kernel)
theorem f_126_10 : fnd 126 10 = some (10, .ireturn, 1, 0, 0, 0, 0) := ceB_eq (by decide +kernel)
theorem f_126_11 : fnd 126 11 = some (11, .aload_n 0, 1, 0, 0, 0, 0) := ceB_eq (by decide +kernel)
theorem f_126_12 : fnd 126 12 = some (12, .getfield 68, 3, 0, 13, 13, 0) := ceB_eq (by decide +kernel)
theorem f_126_15 : fnd 126 15 = some (15, .iload_n 1, 1, 0, 0, 0, 0) := ceB_eq (by decide +kernel)
theorem f_126_16 : fnd 126 16 = some (16, .iaload, 1, 0, 0, 0, 0) := ceB_eq (by decide +kernel)
theorem f_126_17 : fnd 126 17 = some (17, .ireturn, 1, 0, 0, 0, 0) := ceB_eq (by decide +kernel)
theorem rk_126 : rkm 126 = 0 := by decide +kernel
theorem ml_126 : (mth 126).2.1 = 2 := by decide +kernel
set_option maxRecDepth 100000 in
theorem T_X_status (k0 i0 x1 : Int) (σ : ST) (Q : Option AV → ST → Prop) (h :
  (((x1 < 0 : Prop) →
    Q (some (.inl (-1))) σ) ∧
  (¬ (x1 < 0) →
    (((x1 < 5 : Prop) →
      ((0 : Int) ≤ x1 ∧ (x1 : Int) < 5) ∧
      Q (some (.inl (σ 10 0 0 x1))) σ) ∧
    (¬ (x1 < 5) →
      Q (some (.inl (-1))) σ))))) :
  wpM m_X_status [.inr (.inr (0, k0, i0)), .inl x1] σ Q :=
 wpM_of ml_126 (L := [some (.inr (.inr (0, k0, i0))), some (.inl x1)]) rfl
 (w_iload_n (p' := 1) f_126_0 rfl rfl
 (w_if (p' := 9) (q' := 4) f_126_1 rfl rfl
 (fun c102 => w_iconst (p' := 10) f_126_9 rfl
 (w_iret f_126_10 rk_126 (h.1 c102)))
 (fun c102 => w_iload_n (p' := 5) f_126_4 rfl rfl
 (w_iconst (p' := 6) f_126_5 rfl
 (w_icmp (p' := 11) (q' := 9) f_126_6 rfl rfl
 (fun c101 => w_aload_n (p' := 12) f_126_11 rfl rfl
 (w_getfield (p' := 15) f_126_12 rfl (x := .inr (.inr (10, 0, 0))) rfl rfl
 (w_iload_n (p' := 16) f_126_15 rfl rfl
 (w_iaload (p' := 17) f_126_16 rfl (n := 5) rfl ((h.2 c102).1 c101).1 rfl
 (w_iret f_126_17 rk_126 ((h.2 c102).1 c101).2)))))
 (fun c101 => w_iconst (p' := 10) f_126_9 rfl
 (w_iret f_126_10 rk_126 ((h.2 c102).2 c101))))))))
/-! ClosedRooms.undo()I -/
theorem f_127_0 : fnd 127 0 = some (0, .aload_n 0, 1, 0, 0, 0, 0) := ceB_eq (by decide +kernel)
theorem f_127_1 : fnd 127 1 = some (1, .getfield 65, 3, 0, 12, 12, 0) := ceB_eq (by decide +kernel)
theorem f_127_4 : fnd 127 4 = some (4, .ifCond .gt 5, 3, 0, 0, 0, 0) := ceB_eq (by decide +kernel)
theorem f_127_7 : fnd 127 7 = some (7, .iconst (-1), 1, 0, 0, 0, 0) := ceB_eq (by decide +kernel)
theorem f_127_8 : fnd 127 8 = some (8, .ireturn, 1, 0, 0, 0, 0) := ceB_eq (by decide +kernel)
theorem f_127_9 : fnd 127 9 = some (9, .aload_n 0, 1, 0, 0, 0, 0) := ceB_eq (by decide +kernel)
theorem f_127_10 : fnd 127 10 = some (10, .aload_n 0, 1, 0, 0, 0, 0) := ceB_eq (by decide +kernel)
theorem f_127_11 : fnd 127 11 = some (11, .getfield 62, 3, 0, 11, 11, 0) := ceB_eq (by decide +kernel)
theorem f_127_14 : fnd 127 14 = some (14, .iconst 1, 1, 0, 0, 0, 0) := ceB_eq (by decide +kernel)
theorem f_127_15 : fnd 127 15 = some (15, .isub, 1, 0, 0, 0, 0) := ceB_eq (by decide +kernel)
theorem f_127_16 : fnd 127 16 = some (16, .bipush 41, 2, 0, 0, 0, 0) := ceB_eq (by decide +kernel)
theorem f_127_18 : fnd 127 18 = some (18, .invokestatic 266, 3, 45, 2, 11, 0) := ceB_eq (by decide +kernel)
theorem f_127_21 : fnd 127 21 = some (21, .putfield 62, 3, 0, 11, 11, 0) := ceB_eq (by decide +kernel)
theorem f_127_24 : fnd 127 24 = some (24, .aload_n 0, 1, 0, 0, 0, 0) := ceB_eq (by decide +kernel)
theorem f_127_25 : fnd 127 25 = some (25, .getfield 45, 3, 0, 6, 6, 0) := ceB_eq (by decide +kernel)
theorem f_127_28 : fnd 127 28 = some (28, .aload_n 0, 1, 0, 0, 0, 0) := ceB_eq (by decide +kernel)
theorem f_127_29 : fnd 127 29 = some (29, .invokevirtual 248, 3, 46, 1, 0, 12) := ceB_eq (by decide +kernel)
theorem f_127_32 : fnd 127 32 = some (32, .invokevirtual 252, 3, 52, 2, 4, 0) := ceB_eq (by decide +kernel)
theorem f_127_35 : fnd 127 35 = some (35, .aload_n 0, 1, 0, 0, 0, 0) := ceB_eq (by decide +kernel)
theorem f_127_36 : fnd 127 36 = some (36, .dup, 1, 0, 0, 0, 0) := ceB_eq (by decide +kernel)
theorem f_127_37 : fnd 127 37 = some (37, .getfield 65, 3, 0, 12, 12, 0) := ceB_eq (by decide +kernel)
theorem f_127_40 : fnd 127 40 = some (40, .iconst 1, 1, 0, 0, 0, 0) := ceB_eq (by decide +kernel)
theorem f_127_41 : fnd 127 41 = some (41, .isub, 1, 0, 0, 0, 0) := ceB_eq (by decide +kernel)
theorem f_127_42 : fnd 127 42 = some (42, .putfield 65, 3, 0, 12, 12, 0) := ceB_eq (by decide +kernel)
theorem f_127_45 : fnd 127 45 = some (45, .aload_n 0, 1, 0, 0, 0, 0) := ceB_eq (by decide +kernel)
theorem f_127_46 : fnd 127 46 = some (46, .getfield 65, 3, 0, 12, 12, 0) := ceB_eq (by decide +kernel)
theorem f_127_49 : fnd 127 49 = some (49, .ireturn, 1, 0, 0, 0, 0) := ceB_eq (by decide +kernel)
theorem rk_127 : rkm 127 = 0 := by decide +kernel
theorem ml_127 : (mth 127).2.1 = 1 := by decide +kernel
set_option maxRecDepth 100000 in
theorem T_X_undo (k0 i0 : Int) (σ : ST) (Q : Option AV → ST → Prop) (h :
  (((0 < (σ 0 k0 i0 12) : Prop) →
    wpM m_JMath_floorMod [.inl (wr ((σ 0 k0 i0 11) - 1)), .inl 41] σ (asI fun r101 s101 =>
    wpM m_X_pastRow [.inr (.inr (0, k0, i0))] (up s101 0 k0 i0 11 r101) (asR 12 fun a102 b102 s102 =>
    wpM m_World_take [.inr (.inr (12, 0, 0)), .inr (.inr (12, a102, b102))] s102 (asV fun s103 =>
    Q (some (.inl ((up s103 0 k0 i0 12 (wr ((s103 0 k0 i0 12) - 1))) 0 k0 i0 12))) (up s103 0 k0 i0 12 (wr ((s103 0 k0 i0 12) - 1))))))) ∧
  (¬ (0 < (σ 0 k0 i0 12)) →
    Q (some (.inl (-1))) σ))) :
  wpM m_X_undo [.inr (.inr (0, k0, i0))] σ Q :=
 wpM_of ml_127 (L := [some (.inr (.inr (0, k0, i0)))]) rfl
 (w_aload_n (p' := 1) f_127_0 rfl rfl
 (w_getfield (p' := 4) f_127_1 rfl (x := .inl (σ 0 k0 i0 12)) rfl rfl
 (w_if (p' := 9) (q' := 7) f_127_4 rfl rfl
 (fun c104 => w_aload_n (p' := 10) f_127_9 rfl rfl
 (w_aload_n (p' := 11) f_127_10 rfl rfl
 (w_getfield (p' := 14) f_127_11 rfl (x := .inl (σ 0 k0 i0 11)) rfl rfl
 (w_iconst (p' := 15) f_127_14 rfl
 (w_isub (p' := 16) f_127_15 rfl
 (w_bipush (p' := 18) f_127_16 rfl
 (w_callS (p' := 21) f_127_18 rfl rfl rfl (r := [.inr (.inr (0, k0, i0))]) rfl rfl (kI (.inl rk_45) fun r101 s101 h101 =>
 w_putI (p' := 24) f_127_21 rfl rfl (c' := 11) rfl rfl
 (w_aload_n (p' := 25) f_127_24 rfl rfl
 (w_getfield (p' := 28) f_127_25 rfl (x := .inr (.inr (12, 0, 0))) rfl rfl
 (w_aload_n (p' := 29) f_127_28 rfl rfl
 (w_callV (p' := 32) f_127_29 rfl rfl rfl rfl rfl (r := [.inr (.inr (12, 0, 0))]) rfl rfl (kR rfl rk_46 fun a102 b102 s102 h102 =>
 w_callV (p' := 35) f_127_32 rfl rfl rfl rfl rfl (r := []) rfl rfl (kV rk_52 fun s103 h103 =>
 w_aload_n (p' := 36) f_127_35 rfl rfl
 (w_dupR (p' := 37) f_127_36 rfl
 (w_getfield (p' := 40) f_127_37 rfl (x := .inl (s103 0 k0 i0 12)) rfl rfl
 (w_iconst (p' := 41) f_127_40 rfl
 (w_isub (p' := 42) f_127_41 rfl
 (w_putI (p' := 45) f_127_42 rfl rfl (c' := 12) rfl rfl
 (w_aload_n (p' := 46) f_127_45 rfl rfl
 (w_getfield (p' := 49) f_127_46 rfl (x := .inl ((up s103 0 k0 i0 12 (wr ((s103 0 k0 i0 12) - 1))) 0 k0 i0 12)) rfl rfl
 (w_iret f_127_49 rk_127 h103))))))))) h102) h101))))) (h.1 c104))))))))
 (fun c104 => w_iconst (p' := 8) f_127_7 rfl
 (w_iret f_127_8 rk_127 (h.2 c104))))))
/-! ClosedRooms$Log.told(II)I -/
theorem f_128_0 : fnd 128 0 = some (0, .aload_n 0, 1, 0, 0, 0, 0) := ceB_eq (by decide +kernel)
theorem f_128_1 : fnd 128 1 = some (1, .getfield 15, 3, 5, 1, 1, 0) := ceB_eq (by decide +kernel)
theorem f_128_4 : fnd 128 4 = some (4, .iconst 1, 1, 0, 0, 0, 0) := ceB_eq (by decide +kernel)
theorem f_128_5 : fnd 128 5 = some (5, .isub, 1, 0, 0, 0, 0) := ceB_eq (by decide +kernel)
theorem f_128_6 : fnd 128 6 = some (6, .iload_n 1, 1, 0, 0, 0, 0) := ceB_eq (by decide +kernel)
theorem f_128_7 : fnd 128 7 = some (7, .isub, 1, 0, 0, 0, 0) := ceB_eq (by decide +kernel)
theorem f_128_8 : fnd 128 8 = some (8, .bipush 60, 2, 0, 0, 0, 0) := ceB_eq (by decide +kernel)
theorem f_128_10 : fnd 128 10 = some (10, .invokestatic 28, 3, 45, 2, 11, 0) := ceB_eq (by decide +kernel)
theorem f_128_13 : fnd 128 13 = some (13, .istore_n 3, 1, 0, 0, 0, 0) := ceB_eq (by decide +kernel)
theorem f_128_14 : fnd 128 14 = some (14, .iload_n 2, 1, 0, 0, 0, 0) := ceB_eq (by decide +kernel)
theorem f_128_15 : fnd 128 15 = some (15, .ifCond .ne 10, 3, 0, 0, 0, 0) := ceB_eq (by decide +kernel)
theorem f_128_18 : fnd 128 18 = some (18, .aload_n 0, 1, 0, 0, 0, 0) := ceB_eq (by decide +kernel)
theorem f_128_19 : fnd 128 19 = some (19, .getfield 18, 3, 5, 2, 2, 0) := ceB_eq (by decide +kernel)
theorem f_128_22 : fnd 128 22 = some (22, .iload_n 3, 1, 0, 0, 0, 0) := ceB_eq (by decide +kernel)
theorem f_128_23 : fnd 128 23 = some (23, .iaload, 1, 0, 0, 0, 0) := ceB_eq (by decide +kernel)
theorem f_128_24 : fnd 128 24 = some (24, .ireturn, 1, 0, 0, 0, 0) := ceB_eq (by decide +kernel)
theorem f_128_25 : fnd 128 25 = some (25, .iload_n 2, 1, 0, 0, 0, 0) := ceB_eq (by decide +kernel)
theorem f_128_26 : fnd 128 26 = some (26, .iconst 1, 1, 0, 0, 0, 0) := ceB_eq (by decide +kernel)
theorem f_128_27 : fnd 128 27 = some (27, .if_icmp .ne 12, 3, 0, 0, 0, 0) := ceB_eq (by decide +kernel)
theorem f_128_30 : fnd 128 30 = some (30, .aload_n 0, 1, 0, 0, 0, 0) := ceB_eq (by decide +kernel)
theorem f_128_31 : fnd 128 31 = some (31, .getfield 22, 3, 5, 3, 3, 0) := ceB_eq (by decide +kernel)
theorem f_128_34 : fnd 128 34 = some (34, .iload_n 3, 1, 0, 0, 0, 0) := ceB_eq (by decide +kernel)
theorem f_128_35 : fnd 128 35 = some (35, .iaload, 1, 0, 0, 0, 0) := ceB_eq (by decide +kernel)
theorem f_128_36 : fnd 128 36 = some (36, .goto 9, 3, 0, 0, 0, 0) := ceB_eq (by decide +kernel)
theorem f_128_39 : fnd 128 39 = some (39, .aload_n 0, 1, 0, 0, 0, 0) := ceB_eq (by decide +kernel)
theorem f_128_40 : fnd 128 40 = some (40, .getfield 25, 3, 5, 4, 4, 0) := ceB_eq (by decide +kernel)
theorem f_128_43 : fnd 128 43 = some (43, .iload_n 3, 1, 0, 0, 0, 0) := ceB_eq (by decide +kernel)
theorem f_128_44 : fnd 128 44 = some (44, .iaload, 1, 0, 0, 0, 0) := ceB_eq (by decide +kernel)
theorem f_128_45 : fnd 128 45 = some (45, .ireturn, 1, 0, 0, 0, 0) := ceB_eq (by decide +kernel)
theorem rk_128 : rkm 128 = 0 := by decide +kernel
theorem ml_128 : (mth 128).2.1 = 4 := by decide +kernel
set_option maxRecDepth 100000 in
theorem T_Log_told (k0 i0 x1 x2 : Int) (σ : ST) (Q : Option AV → ST → Prop) (h :
  wpM m_JMath_floorMod [.inl (wr ((wr ((σ 26 k0 i0 1) - 1)) - x1)), .inl 60] σ (asI fun r101 s101 =>
  (((x2 ≠ 0 : Prop) →
    (((x2 ≠ 1 : Prop) →
      ((0 : Int) ≤ r101 ∧ (r101 : Int) < 60) ∧
      Q (some (.inl (s101 29 k0 0 r101))) s101) ∧
    (¬ (x2 ≠ 1) →
      ((0 : Int) ≤ r101 ∧ (r101 : Int) < 60) ∧
      Q (some (.inl (s101 28 k0 0 r101))) s101))) ∧
  (¬ (x2 ≠ 0) →
    ((0 : Int) ≤ r101 ∧ (r101 : Int) < 60) ∧
    Q (some (.inl (s101 27 k0 0 r101))) s101)))) :
  wpM m_Log_told [.inr (.inr (26, k0, i0)), .inl x1, .inl x2] σ Q :=
 wpM_of ml_128 (L := [some (.inr (.inr (26, k0, i0))), some (.inl x1), some (.inl x2), none]) rfl
 (w_aload_n (p' := 1) f_128_0 rfl rfl
 (w_getfield (p' := 4) f_128_1 rfl (x := .inl (σ 26 k0 i0 1)) rfl rfl
 (w_iconst (p' := 5) f_128_4 rfl
 (w_isub (p' := 6) f_128_5 rfl
 (w_iload_n (p' := 7) f_128_6 rfl rfl
 (w_isub (p' := 8) f_128_7 rfl
 (w_bipush (p' := 10) f_128_8 rfl
 (w_callS (p' := 13) f_128_10 rfl rfl rfl (r := []) rfl rfl (kI (.inl rk_45) fun r101 s101 h101 =>
 w_istore_n (p' := 14) f_128_13 (L' := [some (.inr (.inr (26, k0, i0))), some (.inl x1), some (.inl x2), some (.inl r101)]) rfl rfl
 (w_iload_n (p' := 15) f_128_14 rfl rfl
 (w_if (p' := 25) (q' := 18) f_128_15 rfl rfl
 (fun c103 => w_iload_n (p' := 26) f_128_25 rfl rfl
 (w_iconst (p' := 27) f_128_26 rfl
 (w_icmp (p' := 39) (q' := 30) f_128_27 rfl rfl
 (fun c102 => w_aload_n (p' := 40) f_128_39 rfl rfl
 (w_getfield (p' := 43) f_128_40 rfl (x := .inr (.inr (29, k0, 0))) rfl rfl
 (w_iload_n (p' := 44) f_128_43 rfl rfl
 (w_iaload (p' := 45) f_128_44 rfl (n := 60) rfl ((h101.1 c103).1 c102).1 rfl
 (w_iret f_128_45 rk_128 ((h101.1 c103).1 c102).2)))))
 (fun c102 => w_aload_n (p' := 31) f_128_30 rfl rfl
 (w_getfield (p' := 34) f_128_31 rfl (x := .inr (.inr (28, k0, 0))) rfl rfl
 (w_iload_n (p' := 35) f_128_34 rfl rfl
 (w_iaload (p' := 36) f_128_35 rfl (n := 60) rfl ((h101.1 c103).2 c102).1 rfl
 (w_goto (p' := 45) f_128_36 rfl
 (w_iret f_128_45 rk_128 ((h101.1 c103).2 c102).2)))))))))
 (fun c103 => w_aload_n (p' := 19) f_128_18 rfl rfl
 (w_getfield (p' := 22) f_128_19 rfl (x := .inr (.inr (27, k0, 0))) rfl rfl
 (w_iload_n (p' := 23) f_128_22 rfl rfl
 (w_iaload (p' := 24) f_128_23 rfl (n := 60) rfl (h101.2 c103).1 rfl
 (w_iret f_128_24 rk_128 (h101.2 c103).2)))))))) h))))))))
/-! ClosedRooms.log(II)I -/
theorem f_129_0 : fnd 129 0 = some (0, .iload_n 1, 1, 0, 0, 0, 0) := ceB_eq (by decide +kernel)
theorem f_129_1 : fnd 129 1 = some (1, .ifCond .lt 26, 3, 0, 0, 0, 0) := ceB_eq (by decide +kernel)
theorem f_129_4 : fnd 129 4 = some (4, .iload_n 1, 1, 0, 0, 0, 0) := ceB_eq (by decide +kernel)
theorem f_129_5 : fnd 129 5 = some (5, .aload_n 0, 1, 0, 0, 0, 0) := ceB_eq (by decide +kernel)
theorem f_129_6 : fnd 129 6 = some (6, .getfield 45, 3, 0, 6, 6, 0) := ceB_eq (by decide +kernel)
theorem f_129_9 : fnd 129 9 = some (9, .getfield 271, 3, 4, 9, 9, 0) := ceB_eq (by decide +kernel)
theorem f_129_12 : fnd 129 12 = some (12, .getfield 290, 3, 5, 0, 0, 0) := ceB_eq (by decide +kernel)
theorem f_129_15 : fnd 129 15 = some (15, .if_icmp .ge 12, 3, 0, 0, 0, 0) := ceB_eq (by decide +kernel)
theorem f_129_18 : fnd 129 18 = some (18, .iload_n 2, 1, 0, 0, 0, 0) := ceB_eq (by decide +kernel)
theorem f_129_19 : fnd 129 19 = some (19, .ifCond .lt 8, 3, 0, 0, 0, 0) := ceB_eq (by decide +kernel)
theorem f_129_22 : fnd 129 22 = some (22, .iload_n 2, 1, 0, 0, 0, 0) := ceB_eq (by decide +kernel)
theorem f_129_23 : fnd 129 23 = some (23, .iconst 2, 1, 0, 0, 0, 0) := ceB_eq (by decide +kernel)
theorem f_129_24 : fnd 129 24 = some (24, .if_icmp .le 6, 3, 0, 0, 0, 0) := ceB_eq (by decide +kernel)
theorem f_129_27 : fnd 129 27 = some (27, .ldc 116, 2, 0, 0, 0, (-1000000)) := ceB_eq (by decide +kernel)
theorem f_129_29 : fnd 129 29 = some (29, .ireturn, 1, 0, 0, 0, 0) := ceB_eq (by decide +kernel)
theorem f_129_30 : fnd 129 30 = some (30, .aload_n 0, 1, 0, 0, 0, 0) := ceB_eq (by decide +kernel)
theorem f_129_31 : fnd 129 31 = some (31, .getfield 45, 3, 0, 6, 6, 0) := ceB_eq (by decide +kernel)
theorem f_129_34 : fnd 129 34 = some (34, .getfield 271, 3, 4, 9, 9, 0) := ceB_eq (by decide +kernel)
theorem f_129_37 : fnd 129 37 = some (37, .iload_n 1, 1, 0, 0, 0, 0) := ceB_eq (by decide +kernel)
theorem f_129_38 : fnd 129 38 = some (38, .iload_n 2, 1, 0, 0, 0, 0) := ceB_eq (by decide +kernel)
theorem f_129_39 : fnd 129 39 = some (39, .invokevirtual 291, 3, 128, 3, 5, 0) := ceB_eq (by decide +kernel)
theorem f_129_42 : fnd 129 42 = some (42, .ireturn, 1, 0, 0, 0, 0) := ceB_eq (by decide +kernel)
theorem rk_129 : rkm 129 = 0 := by decide +kernel
theorem ml_129 : (mth 129).2.1 = 3 := by decide +kernel
set_option maxRecDepth 100000 in
theorem T_X_log (k0 i0 x1 x2 : Int) (σ : ST) (Q : Option AV → ST → Prop) (h :
  (((x1 < 0 : Prop) →
    Q (some (.inl (-1000000))) σ) ∧
  (¬ (x1 < 0) →
    ((((σ 26 0 0 0) ≤ x1 : Prop) →
      Q (some (.inl (-1000000))) σ) ∧
    (¬ ((σ 26 0 0 0) ≤ x1) →
      (((x2 < 0 : Prop) →
        Q (some (.inl (-1000000))) σ) ∧
      (¬ (x2 < 0) →
        (((x2 ≤ 2 : Prop) →
          wpM m_Log_told [.inr (.inr (26, 0, 0)), .inl x1, .inl x2] σ (asI fun r101 s101 =>
          Q (some (.inl r101)) s101)) ∧
        (¬ (x2 ≤ 2) →
          Q (some (.inl (-1000000))) σ))))))))) :
  wpM m_X_log [.inr (.inr (0, k0, i0)), .inl x1, .inl x2] σ Q :=
 wpM_of ml_129 (L := [some (.inr (.inr (0, k0, i0))), some (.inl x1), some (.inl x2)]) rfl
 (w_iload_n (p' := 1) f_129_0 rfl rfl
 (w_if (p' := 27) (q' := 4) f_129_1 rfl rfl
 (fun c105 => w_ldc (p' := 29) f_129_27 rfl
 (w_iret f_129_29 rk_129 (h.1 c105)))
 (fun c105 => w_iload_n (p' := 5) f_129_4 rfl rfl
 (w_aload_n (p' := 6) f_129_5 rfl rfl
 (w_getfield (p' := 9) f_129_6 rfl (x := .inr (.inr (12, 0, 0))) rfl rfl
 (w_getfield (p' := 12) f_129_9 rfl (x := .inr (.inr (26, 0, 0))) rfl rfl
 (w_getfield (p' := 15) f_129_12 rfl (x := .inl (σ 26 0 0 0)) rfl rfl
 (w_icmp (p' := 27) (q' := 18) f_129_15 rfl rfl
 (fun c104 => w_ldc (p' := 29) f_129_27 rfl
 (w_iret f_129_29 rk_129 ((h.2 c105).1 c104)))
 (fun c104 => w_iload_n (p' := 19) f_129_18 rfl rfl
 (w_if (p' := 27) (q' := 22) f_129_19 rfl rfl
 (fun c103 => w_ldc (p' := 29) f_129_27 rfl
 (w_iret f_129_29 rk_129 (((h.2 c105).2 c104).1 c103)))
 (fun c103 => w_iload_n (p' := 23) f_129_22 rfl rfl
 (w_iconst (p' := 24) f_129_23 rfl
 (w_icmp (p' := 30) (q' := 27) f_129_24 rfl rfl
 (fun c102 => w_aload_n (p' := 31) f_129_30 rfl rfl
 (w_getfield (p' := 34) f_129_31 rfl (x := .inr (.inr (12, 0, 0))) rfl rfl
 (w_getfield (p' := 37) f_129_34 rfl (x := .inr (.inr (26, 0, 0))) rfl rfl
 (w_iload_n (p' := 38) f_129_37 rfl rfl
 (w_iload_n (p' := 39) f_129_38 rfl rfl
 (w_callV (p' := 42) f_129_39 rfl rfl rfl rfl rfl (r := []) rfl rfl (kI (.inl rk_128) fun r101 s101 h101 =>
 w_iret f_129_42 rk_129 h101) ((((h.2 c105).2 c104).2 c103).1 c102)))))))
 (fun c102 => w_ldc (p' := 29) f_129_27 rfl
 (w_iret f_129_29 rk_129 ((((h.2 c105).2 c104).2 c103).2 c102))))))))))))))))
/-! ClosedRooms$Page.hasVersion(I)Z -/
theorem f_130_0 : fnd 130 0 = some (0, .iconst 0, 1, 0, 0, 0, 0) := ceB_eq (by decide +kernel)
theorem f_130_1 : fnd 130 1 = some (1, .istore_n 2, 1, 0, 0, 0, 0) := ceB_eq (by decide +kernel)
theorem f_130_2 : fnd 130 2 = some (2, .iload_n 2, 1, 0, 0, 0, 0) := ceB_eq (by decide +kernel)
theorem f_130_3 : fnd 130 3 = some (3, .iconst 4, 1, 0, 0, 0, 0) := ceB_eq (by decide +kernel)
theorem f_130_4 : fnd 130 4 = some (4, .if_icmp .ge 21, 3, 0, 0, 0, 0) := ceB_eq (by decide +kernel)
theorem f_130_7 : fnd 130 7 = some (7, .aload_n 0, 1, 0, 0, 0, 0) := ceB_eq (by decide +kernel)
theorem f_130_8 : fnd 130 8 = some (8, .getfield 9, 3, 6, 8, 8, 0) := ceB_eq (by decide +kernel)
theorem f_130_11 : fnd 130 11 = some (11, .iload_n 2, 1, 0, 0, 0, 0) := ceB_eq (by decide +kernel)
theorem f_130_12 : fnd 130 12 = some (12, .iaload, 1, 0, 0, 0, 0) := ceB_eq (by decide +kernel)
theorem f_130_13 : fnd 130 13 = some (13, .iload_n 1, 1, 0, 0, 0, 0) := ceB_eq (by decide +kernel)
theorem f_130_14 : fnd 130 14 = some (14, .if_icmp .ne 5, 3, 0, 0, 0, 0) := ceB_eq (by decide +kernel)
theorem f_130_17 : fnd 130 17 = some (17, .iconst 1, 1, 0, 0, 0, 0) := ceB_eq (by decide +kernel)
theorem f_130_18 : fnd 130 18 = some (18, .ireturn, 1, 0, 0, 0, 0) := ceB_eq (by decide +kernel)
theorem f_130_19 : fnd 130 19 = some (19, .iinc 2 1, 3, 0, 0, 0, 0) := ceB_eq (by decide +kernel)
theorem f_130_22 : fnd 130 22 = some (22, .goto (-20), 3, 0, 0, 0, 0) := ceB_eq (by decide +kernel)
theorem f_130_25 : fnd 130 25 = some (25, .iconst 0, 1, 0, 0, 0, 0) := ceB_eq (by decide +kernel)
theorem f_130_26 : fnd 130 26 = some (26, .ireturn, 1, 0, 0, 0, 0) := ceB_eq (by decide +kernel)
theorem rk_130 : rkm 130 = 1 := by decide +kernel
theorem ml_130 : (mth 130).2.1 = 3 := by decide +kernel
set_option maxRecDepth 100000 in
theorem T_Page_hasVersion (k0 i0 x1 : Int) (σ : ST) (Q : Option AV → ST → Prop) (h :
  wp m_Page_hasVersion (2, [some (.inr (.inr (14, k0, i0))), some (.inl x1), some (.inl 0)], [], σ) Q) :
  wpM m_Page_hasVersion [.inr (.inr (14, k0, i0)), .inl x1] σ Q :=
 wpM_of ml_130 (L := [some (.inr (.inr (14, k0, i0))), some (.inl x1), none]) rfl
 (w_iconst (p' := 1) f_130_0 rfl
 (w_istore_n (p' := 2) f_130_1 (L' := [some (.inr (.inr (14, k0, i0))), some (.inl x1), some (.inl 0)]) rfl rfl
 (h)))
set_option maxRecDepth 100000 in
theorem T_Page_hasVersion_2 (k0 i0 x1 x2 : Int) (σ : ST) (Q : Option AV → ST → Prop) (h :
  (((4 ≤ x2 : Prop) →
    ((0 : Int) = 0 ∨ (0 : Int) = 1) ∧ Q (some (.inl 0)) σ) ∧
  (¬ (4 ≤ x2) →
    ((0 : Int) ≤ x2 ∧ (x2 : Int) < 4) ∧
    ((((σ 15 k0 i0 x2) ≠ x1 : Prop) →
      wp m_Page_hasVersion (2, [some (.inr (.inr (14, k0, i0))), some (.inl x1), some (.inl (wr (x2 + 1)))], [], σ) Q) ∧
    (¬ ((σ 15 k0 i0 x2) ≠ x1) →
      ((1 : Int) = 0 ∨ (1 : Int) = 1) ∧ Q (some (.inl 1)) σ))))) :
  wp m_Page_hasVersion (2, [some (.inr (.inr (14, k0, i0))), some (.inl x1), some (.inl x2)], [], σ) Q :=
 w_iload_n (p' := 3) f_130_2 rfl rfl
 (w_iconst (p' := 4) f_130_3 rfl
 (w_icmp (p' := 25) (q' := 7) f_130_4 rfl rfl
 (fun c102 => w_iconst (p' := 26) f_130_25 rfl
 (w_zret f_130_26 rk_130 (h.1 c102).1 (h.1 c102).2))
 (fun c102 => w_aload_n (p' := 8) f_130_7 rfl rfl
 (w_getfield (p' := 11) f_130_8 rfl (x := .inr (.inr (15, k0, i0))) rfl rfl
 (w_iload_n (p' := 12) f_130_11 rfl rfl
 (w_iaload (p' := 13) f_130_12 rfl (n := 4) rfl (h.2 c102).1 rfl
 (w_iload_n (p' := 14) f_130_13 rfl rfl
 (w_icmp (p' := 19) (q' := 17) f_130_14 rfl rfl
 (fun c101 => w_iinc (p' := 22) f_130_19 rfl (L' := [some (.inr (.inr (14, k0, i0))), some (.inl x1), some (.inl (wr (x2 + 1)))]) rfl rfl
 (w_goto (p' := 2) f_130_22 rfl
 (((h.2 c102).2.1 c101))))
 (fun c101 => w_iconst (p' := 18) f_130_17 rfl
 (w_zret f_130_18 rk_130 ((h.2 c102).2.2 c101).1 ((h.2 c102).2.2 c101).2))))))))))
/-! ClosedRooms$World.isOld(LClosedRooms$Copy;)Z -/
theorem f_131_0 : fnd 131 0 = some (0, .aload_n 1, 1, 0, 0, 0, 0) := ceB_eq (by decide +kernel)
theorem f_131_1 : fnd 131 1 = some (1, .getfield 143, 3, 9, 8, 8, 0) := ceB_eq (by decide +kernel)
theorem f_131_4 : fnd 131 4 = some (4, .ifCond .ne 15, 3, 0, 0, 0, 0) := ceB_eq (by decide +kernel)
theorem f_131_7 : fnd 131 7 = some (7, .aload_n 0, 1, 0, 0, 0, 0) := ceB_eq (by decide +kernel)
theorem f_131_8 : fnd 131 8 = some (8, .aload_n 1, 1, 0, 0, 0, 0) := ceB_eq (by decide +kernel)
theorem f_131_9 : fnd 131 9 = some (9, .getfield 146, 3, 9, 1, 1, 0) := ceB_eq (by decide +kernel)
theorem f_131_12 : fnd 131 12 = some (12, .invokevirtual 147, 3, 88, 2, 4, 0) := ceB_eq (by decide +kernel)
theorem f_131_15 : fnd 131 15 = some (15, .iconst (-1), 1, 0, 0, 0, 0) := ceB_eq (by decide +kernel)
theorem f_131_16 : fnd 131 16 = some (16, .if_icmp .ne 5, 3, 0, 0, 0, 0) := ceB_eq (by decide +kernel)
theorem f_131_19 : fnd 131 19 = some (19, .iconst 1, 1, 0, 0, 0, 0) := ceB_eq (by decide +kernel)
theorem f_131_20 : fnd 131 20 = some (20, .ireturn, 1, 0, 0, 0, 0) := ceB_eq (by decide +kernel)
theorem f_131_21 : fnd 131 21 = some (21, .iconst 0, 1, 0, 0, 0, 0) := ceB_eq (by decide +kernel)
theorem f_131_22 : fnd 131 22 = some (22, .istore_n 2, 1, 0, 0, 0, 0) := ceB_eq (by decide +kernel)
theorem f_131_23 : fnd 131 23 = some (23, .iload_n 2, 1, 0, 0, 0, 0) := ceB_eq (by decide +kernel)
theorem f_131_24 : fnd 131 24 = some (24, .aload_n 0, 1, 0, 0, 0, 0) := ceB_eq (by decide +kernel)
theorem f_131_25 : fnd 131 25 = some (25, .getfield 9, 3, 4, 0, 0, 0) := ceB_eq (by decide +kernel)
theorem f_131_28 : fnd 131 28 = some (28, .if_icmp .ge 35, 3, 0, 0, 0, 0) := ceB_eq (by decide +kernel)
theorem f_131_31 : fnd 131 31 = some (31, .aload_n 0, 1, 0, 0, 0, 0) := ceB_eq (by decide +kernel)
theorem f_131_32 : fnd 131 32 = some (32, .iload_n 2, 1, 0, 0, 0, 0) := ceB_eq (by decide +kernel)
theorem f_131_33 : fnd 131 33 = some (33, .invokevirtual 150, 3, 35, 2, 4, 0) := ceB_eq (by decide +kernel)
theorem f_131_36 : fnd 131 36 = some (36, .ifCond .eq 21, 3, 0, 0, 0, 0) := ceB_eq (by decide +kernel)
theorem f_131_39 : fnd 131 39 = some (39, .aload_n 0, 1, 0, 0, 0, 0) := ceB_eq (by decide +kernel)
theorem f_131_40 : fnd 131 40 = some (40, .getfield 29, 3, 4, 5, 5, 0) := ceB_eq (by decide +kernel)
theorem f_131_43 : fnd 131 43 = some (43, .iload_n 2, 1, 0, 0, 0, 0) := ceB_eq (by decide +kernel)
theorem f_131_44 : fnd 131 44 = some (44, .aaload, 1, 0, 0, 0, 0) := ceB_eq (by decide +kernel)
theorem f_131_45 : fnd 131 45 = some (45, .aload_n 1, 1, 0, 0, 0, 0) := ceB_eq (by decide +kernel)
theorem f_131_46 : fnd 131 46 = some (46, .getfield 153, 3, 9, 7, 7, 0) := ceB_eq (by decide +kernel)
theorem f_131_49 : fnd 131 49 = some (49, .invokevirtual 156, 3, 130, 2, 6, 0) := ceB_eq (by decide +kernel)
theorem f_131_52 : fnd 131 52 = some (52, .ifCond .eq 5, 3, 0, 0, 0, 0) := ceB_eq (by decide +kernel)
theorem f_131_55 : fnd 131 55 = some (55, .iconst 0, 1, 0, 0, 0, 0) := ceB_eq (by decide +kernel)
theorem f_131_56 : fnd 131 56 = some (56, .ireturn, 1, 0, 0, 0, 0) := ceB_eq (by decide +kernel)
theorem f_131_57 : fnd 131 57 = some (57, .iinc 2 1, 3, 0, 0, 0, 0) := ceB_eq (by decide +kernel)
theorem f_131_60 : fnd 131 60 = some (60, .goto (-37), 3, 0, 0, 0, 0) := ceB_eq (by decide +kernel)
theorem f_131_63 : fnd 131 63 = some (63, .iconst 1, 1, 0, 0, 0, 0) := ceB_eq (by decide +kernel)
theorem f_131_64 : fnd 131 64 = some (64, .ireturn, 1, 0, 0, 0, 0) := ceB_eq (by decide +kernel)
theorem rk_131 : rkm 131 = 1 := by decide +kernel
theorem ml_131 : (mth 131).2.1 = 3 := by decide +kernel
set_option maxRecDepth 100000 in
theorem T_World_isOld (k0 i0 k1 i1 : Int) (σ : ST) (Q : Option AV → ST → Prop) (h :
  ((((bz (σ 25 k1 i1 8)) ≠ 0 : Prop) →
    ((1 : Int) = 0 ∨ (1 : Int) = 1) ∧ Q (some (.inl 1)) σ) ∧
  (¬ ((bz (σ 25 k1 i1 8)) ≠ 0) →
    wpM m_World_roomOfSerial [.inr (.inr (12, k0, i0)), .inl (σ 25 k1 i1 1)] σ (asI fun r101 s101 =>
    (((r101 ≠ (-1) : Prop) →
      wp m_World_isOld (23, [some (.inr (.inr (12, k0, i0))), some (.inr (.inr (25, k1, i1))), some (.inl 0)], [], s101) Q) ∧
    (¬ (r101 ≠ (-1)) →
      ((1 : Int) = 0 ∨ (1 : Int) = 1) ∧ Q (some (.inl 1)) s101)))))) :
  wpM m_World_isOld [.inr (.inr (12, k0, i0)), .inr (.inr (25, k1, i1))] σ Q :=
 wpM_of ml_131 (L := [some (.inr (.inr (12, k0, i0))), some (.inr (.inr (25, k1, i1))), none]) rfl
 (w_aload_n (p' := 1) f_131_0 rfl rfl
 (w_getfield (p' := 4) f_131_1 rfl (x := .inl (bz (σ 25 k1 i1 8))) rfl rfl
 (w_if (p' := 19) (q' := 7) f_131_4 rfl rfl
 (fun c103 => w_iconst (p' := 20) f_131_19 rfl
 (w_zret f_131_20 rk_131 (h.1 c103).1 (h.1 c103).2))
 (fun c103 => w_aload_n (p' := 8) f_131_7 rfl rfl
 (w_aload_n (p' := 9) f_131_8 rfl rfl
 (w_getfield (p' := 12) f_131_9 rfl (x := .inl (σ 25 k1 i1 1)) rfl rfl
 (w_callV (p' := 15) f_131_12 rfl rfl rfl rfl rfl (r := []) rfl rfl (kI (.inl rk_88) fun r101 s101 h101 =>
 w_iconst (p' := 16) f_131_15 rfl
 (w_icmp (p' := 21) (q' := 19) f_131_16 rfl rfl
 (fun c102 => w_iconst (p' := 22) f_131_21 rfl
 (w_istore_n (p' := 23) f_131_22 (L' := [some (.inr (.inr (12, k0, i0))), some (.inr (.inr (25, k1, i1))), some (.inl 0)]) rfl rfl
 ((h101.1 c102))))
 (fun c102 => w_iconst (p' := 20) f_131_19 rfl
 (w_zret f_131_20 rk_131 (h101.2 c102).1 (h101.2 c102).2)))) (h.2 c103))))))))
set_option maxRecDepth 100000 in
theorem T_World_isOld_23 (k0 i0 k1 i1 x2 : Int) (σ : ST) (Q : Option AV → ST → Prop) (h :
  ((((σ 12 k0 i0 0) ≤ x2 : Prop) →
    ((1 : Int) = 0 ∨ (1 : Int) = 1) ∧ Q (some (.inl 1)) σ) ∧
  (¬ ((σ 12 k0 i0 0) ≤ x2) →
    wpM m_World_isSlots [.inr (.inr (12, k0, i0)), .inl x2] σ (asI fun r101 s101 =>
    (((r101 = 0 : Prop) →
      wp m_World_isOld (23, [some (.inr (.inr (12, k0, i0))), some (.inr (.inr (25, k1, i1))), some (.inl (wr (x2 + 1)))], [], s101) Q) ∧
    (¬ (r101 = 0) →
      ((0 : Int) ≤ x2 ∧ (x2 : Int) < 10) ∧
      wpM m_Page_hasVersion [.inr (.inr (14, k0, x2)), .inl (s101 25 k1 i1 7)] s101 (asI fun r102 s102 =>
      (((r102 = 0 : Prop) →
        wp m_World_isOld (23, [some (.inr (.inr (12, k0, i0))), some (.inr (.inr (25, k1, i1))), some (.inl (wr (x2 + 1)))], [], s102) Q) ∧
      (¬ (r102 = 0) →
        ((0 : Int) = 0 ∨ (0 : Int) = 1) ∧ Q (some (.inl 0)) s102))))))))) :
  wp m_World_isOld (23, [some (.inr (.inr (12, k0, i0))), some (.inr (.inr (25, k1, i1))), some (.inl x2)], [], σ) Q :=
 w_iload_n (p' := 24) f_131_23 rfl rfl
 (w_aload_n (p' := 25) f_131_24 rfl rfl
 (w_getfield (p' := 28) f_131_25 rfl (x := .inl (σ 12 k0 i0 0)) rfl rfl
 (w_icmp (p' := 63) (q' := 31) f_131_28 rfl rfl
 (fun c105 => w_iconst (p' := 64) f_131_63 rfl
 (w_zret f_131_64 rk_131 (h.1 c105).1 (h.1 c105).2))
 (fun c105 => w_aload_n (p' := 32) f_131_31 rfl rfl
 (w_iload_n (p' := 33) f_131_32 rfl rfl
 (w_callV (p' := 36) f_131_33 rfl rfl rfl rfl rfl (r := []) rfl rfl (kI (.inr rk_35) fun r101 s101 h101 =>
 w_if (p' := 57) (q' := 39) f_131_36 rfl rfl
 (fun c104 => w_iinc (p' := 60) f_131_57 rfl (L' := [some (.inr (.inr (12, k0, i0))), some (.inr (.inr (25, k1, i1))), some (.inl (wr (x2 + 1)))]) rfl rfl
 (w_goto (p' := 23) f_131_60 rfl
 ((h101.1 c104))))
 (fun c104 => w_aload_n (p' := 40) f_131_39 rfl rfl
 (w_getfield (p' := 43) f_131_40 rfl (x := .inr (.inr (13, k0, 0))) rfl rfl
 (w_iload_n (p' := 44) f_131_43 rfl rfl
 (w_aaload (p' := 45) f_131_44 rfl (n := 10) rfl (x := (14, k0, x2)) rfl (h101.2 c104).1 rfl
 (w_aload_n (p' := 46) f_131_45 rfl rfl
 (w_getfield (p' := 49) f_131_46 rfl (x := .inl (s101 25 k1 i1 7)) rfl rfl
 (w_callV (p' := 52) f_131_49 rfl rfl rfl rfl rfl (r := []) rfl rfl (kI (.inr rk_130) fun r102 s102 h102 =>
 w_if (p' := 57) (q' := 55) f_131_52 rfl rfl
 (fun c103 => w_iinc (p' := 60) f_131_57 rfl (L' := [some (.inr (.inr (12, k0, i0))), some (.inr (.inr (25, k1, i1))), some (.inl (wr (x2 + 1)))]) rfl rfl
 (w_goto (p' := 23) f_131_60 rfl
 ((h102.1 c103))))
 (fun c103 => w_iconst (p' := 56) f_131_55 rfl
 (w_zret f_131_56 rk_131 (h102.2 c103).1 (h102.2 c103).2))) (h101.2 c104).2)))))))) (h.2 c105)))))))
/-! ClosedRooms.old()I -/
theorem f_132_0 : fnd 132 0 = some (0, .aload_n 0, 1, 0, 0, 0, 0) := ceB_eq (by decide +kernel)
theorem f_132_1 : fnd 132 1 = some (1, .getfield 20, 3, 0, 2, 2, 0) := ceB_eq (by decide +kernel)
theorem f_132_4 : fnd 132 4 = some (4, .ifCond .ne 5, 3, 0, 0, 0, 0) := ceB_eq (by decide +kernel)
theorem f_132_7 : fnd 132 7 = some (7, .iconst (-1), 1, 0, 0, 0, 0) := ceB_eq (by decide +kernel)
theorem f_132_8 : fnd 132 8 = some (8, .ireturn, 1, 0, 0, 0, 0) := ceB_eq (by decide +kernel)
theorem f_132_9 : fnd 132 9 = some (9, .iconst 0, 1, 0, 0, 0, 0) := ceB_eq (by decide +kernel)
theorem f_132_10 : fnd 132 10 = some (10, .istore_n 1, 1, 0, 0, 0, 0) := ceB_eq (by decide +kernel)
theorem f_132_11 : fnd 132 11 = some (11, .iconst 0, 1, 0, 0, 0, 0) := ceB_eq (by decide +kernel)
theorem f_132_12 : fnd 132 12 = some (12, .istore_n 2, 1, 0, 0, 0, 0) := ceB_eq (by decide +kernel)
theorem f_132_13 : fnd 132 13 = some (13, .iload_n 2, 1, 0, 0, 0, 0) := ceB_eq (by decide +kernel)
theorem f_132_14 : fnd 132 14 = some (14, .bipush 12, 2, 0, 0, 0, 0) := ceB_eq (by decide +kernel)
theorem f_132_16 : fnd 132 16 = some (16, .if_icmp .ge 45, 3, 0, 0, 0, 0) := ceB_eq (by decide +kernel)
theorem f_132_19 : fnd 132 19 = some (19, .aload_n 0, 1, 0, 0, 0, 0) := ceB_eq (by decide +kernel)
theorem f_132_20 : fnd 132 20 = some (20, .getfield 45, 3, 0, 6, 6, 0) := ceB_eq (by decide +kernel)
theorem f_132_23 : fnd 132 23 = some (23, .iload_n 2, 1, 0, 0, 0, 0) := ceB_eq (by decide +kernel)
theorem f_132_24 : fnd 132 24 = some (24, .invokevirtual 225, 3, 43, 2, 4, 0) := ceB_eq (by decide +kernel)
theorem f_132_27 : fnd 132 27 = some (27, .ifCond .eq 28, 3, 0, 0, 0, 0) := ceB_eq (by decide +kernel)
theorem f_132_30 : fnd 132 30 = some (30, .aload_n 0, 1, 0, 0, 0, 0) := ceB_eq (by decide +kernel)
theorem f_132_31 : fnd 132 31 = some (31, .getfield 45, 3, 0, 6, 6, 0) := ceB_eq (by decide +kernel)
theorem f_132_34 : fnd 132 34 = some (34, .aload_n 0, 1, 0, 0, 0, 0) := ceB_eq (by decide +kernel)
theorem f_132_35 : fnd 132 35 = some (35, .getfield 45, 3, 0, 6, 6, 0) := ceB_eq (by decide +kernel)
theorem f_132_38 : fnd 132 38 = some (38, .getfield 228, 3, 4, 8, 8, 0) := ceB_eq (by decide +kernel)
theorem f_132_41 : fnd 132 41 = some (41, .iload_n 2, 1, 0, 0, 0, 0) := ceB_eq (by decide +kernel)
theorem f_132_42 : fnd 132 42 = some (42, .aaload, 1, 0, 0, 0, 0) := ceB_eq (by decide +kernel)
theorem f_132_43 : fnd 132 43 = some (43, .invokevirtual 294, 3, 131, 2, 4, 0) := ceB_eq (by decide +kernel)
theorem f_132_46 : fnd 132 46 = some (46, .ifCond .eq 9, 3, 0, 0, 0, 0) := ceB_eq (by decide +kernel)
theorem f_132_49 : fnd 132 49 = some (49, .iload_n 1, 1, 0, 0, 0, 0) := ceB_eq (by decide +kernel)
theorem f_132_50 : fnd 132 50 = some (50, .iconst 1, 1, 0, 0, 0, 0) := ceB_eq (by decide +kernel)
theorem f_132_51 : fnd 132 51 = some (51, .iload_n 2, 1, 0, 0, 0, 0) := ceB_eq (by decide +kernel)
theorem f_132_52 : fnd 132 52 = some (52, .ishl, 1, 0, 0, 0, 0) := ceB_eq (by decide +kernel)
theorem f_132_53 : fnd 132 53 = some (53, .ior, 1, 0, 0, 0, 0) := ceB_eq (by decide +kernel)
theorem f_132_54 : fnd 132 54 = some (54, .istore_n 1, 1, 0, 0, 0, 0) := ceB_eq (by decide +kernel)
theorem f_132_55 : fnd 132 55 = some (55, .iinc 2 1, 3, 0, 0, 0, 0) := ceB_eq (by decide +kernel)
theorem f_132_58 : fnd 132 58 = some (58, .goto (-45), 3, 0, 0, 0, 0) := ceB_eq (by decide +kernel)
theorem f_132_61 : fnd 132 61 = some (61, .iload_n 1, 1, 0, 0, 0, 0) := ceB_eq (by decide +kernel)
theorem f_132_62 : fnd 132 62 = some (62, .ireturn, 1, 0, 0, 0, 0) := ceB_eq (by decide +kernel)
theorem rk_132 : rkm 132 = 0 := by decide +kernel
theorem ml_132 : (mth 132).2.1 = 3 := by decide +kernel
set_option maxRecDepth 100000 in
theorem T_X_old (k0 i0 : Int) (σ : ST) (Q : Option AV → ST → Prop) (h :
  ((((bz (σ 0 k0 i0 2)) ≠ 0 : Prop) →
    wp m_X_old (13, [some (.inr (.inr (0, k0, i0))), some (.inl 0), some (.inl 0)], [], σ) Q) ∧
  (¬ ((bz (σ 0 k0 i0 2)) ≠ 0) →
    Q (some (.inl (-1))) σ))) :
  wpM m_X_old [.inr (.inr (0, k0, i0))] σ Q :=
 wpM_of ml_132 (L := [some (.inr (.inr (0, k0, i0))), none, none]) rfl
 (w_aload_n (p' := 1) f_132_0 rfl rfl
 (w_getfield (p' := 4) f_132_1 rfl (x := .inl (bz (σ 0 k0 i0 2))) rfl rfl
 (w_if (p' := 9) (q' := 7) f_132_4 rfl rfl
 (fun c101 => w_iconst (p' := 10) f_132_9 rfl
 (w_istore_n (p' := 11) f_132_10 (L' := [some (.inr (.inr (0, k0, i0))), some (.inl 0), none]) rfl rfl
 (w_iconst (p' := 12) f_132_11 rfl
 (w_istore_n (p' := 13) f_132_12 (L' := [some (.inr (.inr (0, k0, i0))), some (.inl 0), some (.inl 0)]) rfl rfl
 ((h.1 c101))))))
 (fun c101 => w_iconst (p' := 8) f_132_7 rfl
 (w_iret f_132_8 rk_132 (h.2 c101))))))
set_option maxRecDepth 100000 in
theorem T_X_old_13 (k0 i0 x1 x2 : Int) (σ : ST) (Q : Option AV → ST → Prop) (h :
  (((12 ≤ x2 : Prop) →
    Q (some (.inl x1)) σ) ∧
  (¬ (12 ≤ x2) →
    wpM m_World_isCopy [.inr (.inr (12, 0, 0)), .inl x2] σ (asI fun r101 s101 =>
    (((r101 = 0 : Prop) →
      wp m_X_old (13, [some (.inr (.inr (0, k0, i0))), some (.inl x1), some (.inl (wr (x2 + 1)))], [], s101) Q) ∧
    (¬ (r101 = 0) →
      ((0 : Int) ≤ x2 ∧ (x2 : Int) < 12) ∧
      wpM m_World_isOld [.inr (.inr (12, 0, 0)), .inr (.inr (25, 0, x2))] s101 (asI fun r102 s102 =>
      (((r102 = 0 : Prop) →
        wp m_X_old (13, [some (.inr (.inr (0, k0, i0))), some (.inl x1), some (.inl (wr (x2 + 1)))], [], s102) Q) ∧
      (¬ (r102 = 0) →
        wp m_X_old (13, [some (.inr (.inr (0, k0, i0))), some (.inl (i_or x1 (i_shl 1 x2))), some (.inl (wr (x2 + 1)))], [], s102) Q))))))))) :
  wp m_X_old (13, [some (.inr (.inr (0, k0, i0))), some (.inl x1), some (.inl x2)], [], σ) Q :=
 w_iload_n (p' := 14) f_132_13 rfl rfl
 (w_bipush (p' := 16) f_132_14 rfl
 (w_icmp (p' := 61) (q' := 19) f_132_16 rfl rfl
 (fun c105 => w_iload_n (p' := 62) f_132_61 rfl rfl
 (w_iret f_132_62 rk_132 (h.1 c105)))
 (fun c105 => w_aload_n (p' := 20) f_132_19 rfl rfl
 (w_getfield (p' := 23) f_132_20 rfl (x := .inr (.inr (12, 0, 0))) rfl rfl
 (w_iload_n (p' := 24) f_132_23 rfl rfl
 (w_callV (p' := 27) f_132_24 rfl rfl rfl rfl rfl (r := []) rfl rfl (kI (.inr rk_43) fun r101 s101 h101 =>
 w_if (p' := 55) (q' := 30) f_132_27 rfl rfl
 (fun c104 => w_iinc (p' := 58) f_132_55 rfl (L' := [some (.inr (.inr (0, k0, i0))), some (.inl x1), some (.inl (wr (x2 + 1)))]) rfl rfl
 (w_goto (p' := 13) f_132_58 rfl
 ((h101.1 c104))))
 (fun c104 => w_aload_n (p' := 31) f_132_30 rfl rfl
 (w_getfield (p' := 34) f_132_31 rfl (x := .inr (.inr (12, 0, 0))) rfl rfl
 (w_aload_n (p' := 35) f_132_34 rfl rfl
 (w_getfield (p' := 38) f_132_35 rfl (x := .inr (.inr (12, 0, 0))) rfl rfl
 (w_getfield (p' := 41) f_132_38 rfl (x := .inr (.inr (24, 0, 0))) rfl rfl
 (w_iload_n (p' := 42) f_132_41 rfl rfl
 (w_aaload (p' := 43) f_132_42 rfl (n := 12) rfl (x := (25, 0, x2)) rfl (h101.2 c104).1 rfl
 (w_callV (p' := 46) f_132_43 rfl rfl rfl rfl rfl (r := []) rfl rfl (kI (.inr rk_131) fun r102 s102 h102 =>
 w_if (p' := 55) (q' := 49) f_132_46 rfl rfl
 (fun c103 => w_iinc (p' := 58) f_132_55 rfl (L' := [some (.inr (.inr (0, k0, i0))), some (.inl x1), some (.inl (wr (x2 + 1)))]) rfl rfl
 (w_goto (p' := 13) f_132_58 rfl
 ((h102.1 c103))))
 (fun c103 => w_iload_n (p' := 50) f_132_49 rfl rfl
 (w_iconst (p' := 51) f_132_50 rfl
 (w_iload_n (p' := 52) f_132_51 rfl rfl
 (w_ishl (p' := 53) f_132_52 rfl
 (w_ior (p' := 54) f_132_53 rfl
 (w_istore_n (p' := 55) f_132_54 (L' := [some (.inr (.inr (0, k0, i0))), some (.inl (i_or x1 (i_shl 1 x2))), some (.inl x2)]) rfl rfl
 (w_iinc (p' := 58) f_132_55 rfl (L' := [some (.inr (.inr (0, k0, i0))), some (.inl (i_or x1 (i_shl 1 x2))), some (.inl (wr (x2 + 1)))]) rfl rfl
 (w_goto (p' := 13) f_132_58 rfl
 ((h102.2 c103))))))))))) (h101.2 c104).2))))))))) (h.2 c105)))))))
/-! ClosedRooms.twins(I)I -/
theorem f_133_0 : fnd 133 0 = some (0, .aload_n 0, 1, 0, 0, 0, 0) := ceB_eq (by decide +kernel)
theorem f_133_1 : fnd 133 1 = some (1, .getfield 45, 3, 0, 6, 6, 0) := ceB_eq (by decide +kernel)
theorem f_133_4 : fnd 133 4 = some (4, .iload_n 1, 1, 0, 0, 0, 0) := ceB_eq (by decide +kernel)
theorem f_133_5 : fnd 133 5 = some (5, .invokevirtual 225, 3, 43, 2, 4, 0) := ceB_eq (by decide +kernel)
theorem f_133_8 : fnd 133 8 = some (8, .ifCond .ne 5, 3, 0, 0, 0, 0) := ceB_eq (by decide +kernel)
theorem f_133_11 : fnd 133 11 = some (11, .iconst (-1), 1, 0, 0, 0, 0) := ceB_eq (by decide +kernel)
theorem f_133_12 : fnd 133 12 = some (12, .ireturn, 1, 0, 0, 0, 0) := ceB_eq (by decide +kernel)
theorem f_133_13 : fnd 133 13 = some (13, .iconst 0, 1, 0, 0, 0, 0) := ceB_eq (by decide +kernel)
theorem f_133_14 : fnd 133 14 = some (14, .istore_n 2, 1, 0, 0, 0, 0) := ceB_eq (by decide +kernel)
theorem f_133_15 : fnd 133 15 = some (15, .iconst 0, 1, 0, 0, 0, 0) := ceB_eq (by decide +kernel)
theorem f_133_16 : fnd 133 16 = some (16, .istore_n 3, 1, 0, 0, 0, 0) := ceB_eq (by decide +kernel)
theorem f_133_17 : fnd 133 17 = some (17, .iload_n 3, 1, 0, 0, 0, 0) := ceB_eq (by decide +kernel)
theorem f_133_18 : fnd 133 18 = some (18, .bipush 12, 2, 0, 0, 0, 0) := ceB_eq (by decide +kernel)
theorem f_133_20 : fnd 133 20 = some (20, .if_icmp .ge 58, 3, 0, 0, 0, 0) := ceB_eq (by decide +kernel)
theorem f_133_23 : fnd 133 23 = some (23, .iload_n 3, 1, 0, 0, 0, 0) := ceB_eq (by decide +kernel)
theorem f_133_24 : fnd 133 24 = some (24, .iload_n 1, 1, 0, 0, 0, 0) := ceB_eq (by decide +kernel)
theorem f_133_25 : fnd 133 25 = some (25, .if_icmp .eq 47, 3, 0, 0, 0, 0) := ceB_eq (by decide +kernel)
theorem f_133_28 : fnd 133 28 = some (28, .aload_n 0, 1, 0, 0, 0, 0) := ceB_eq (by decide +kernel)
theorem f_133_29 : fnd 133 29 = some (29, .getfield 45, 3, 0, 6, 6, 0) := ceB_eq (by decide +kernel)
theorem f_133_32 : fnd 133 32 = some (32, .iload_n 3, 1, 0, 0, 0, 0) := ceB_eq (by decide +kernel)
theorem f_133_33 : fnd 133 33 = some (33, .invokevirtual 225, 3, 43, 2, 4, 0) := ceB_eq (by decide +kernel)
theorem f_133_36 : fnd 133 36 = some (36, .ifCond .eq 36, 3, 0, 0, 0, 0) := ceB_eq (by decide +kernel)
theorem f_133_39 : fnd 133 39 = some (39, .aload_n 0, 1, 0, 0, 0, 0) := ceB_eq (by decide +kernel)
theorem f_133_40 : fnd 133 40 = some (40, .getfield 45, 3, 0, 6, 6, 0) := ceB_eq (by decide +kernel)
theorem f_133_43 : fnd 133 43 = some (43, .getfield 228, 3, 4, 8, 8, 0) := ceB_eq (by decide +kernel)
theorem f_133_46 : fnd 133 46 = some (46, .iload_n 3, 1, 0, 0, 0, 0) := ceB_eq (by decide +kernel)
theorem f_133_47 : fnd 133 47 = some (47, .aaload, 1, 0, 0, 0, 0) := ceB_eq (by decide +kernel)
theorem f_133_48 : fnd 133 48 = some (48, .getfield 238, 3, 9, 7, 7, 0) := ceB_eq (by decide +kernel)
theorem f_133_51 : fnd 133 51 = some (51, .aload_n 0, 1, 0, 0, 0, 0) := ceB_eq (by decide +kernel)
theorem f_133_52 : fnd 133 52 = some (52, .getfield 45, 3, 0, 6, 6, 0) := ceB_eq (by decide +kernel)
theorem f_133_55 : fnd 133 55 = some (55, .getfield 228, 3, 4, 8, 8, 0) := ceB_eq (by decide +kernel)
theorem f_133_58 : fnd 133 58 = some (58, .iload_n 1, 1, 0, 0, 0, 0) := ceB_eq (by decide +kernel)
theorem f_133_59 : fnd 133 59 = some (59, .aaload, 1, 0, 0, 0, 0) := ceB_eq (by decide +kernel)
theorem f_133_60 : fnd 133 60 = some (60, .getfield 238, 3, 9, 7, 7, 0) := ceB_eq (by decide +kernel)
theorem f_133_63 : fnd 133 63 = some (63, .if_icmp .ne 9, 3, 0, 0, 0, 0) := ceB_eq (by decide +kernel)
theorem f_133_66 : fnd 133 66 = some (66, .iload_n 2, 1, 0, 0, 0, 0) := ceB_eq (by decide +kernel)
theorem f_133_67 : fnd 133 67 = some (67, .iconst 1, 1, 0, 0, 0, 0) := ceB_eq (by decide +kernel)
theorem f_133_68 : fnd 133 68 = some (68, .iload_n 3, 1, 0, 0, 0, 0) := ceB_eq (by decide +kernel)
theorem f_133_69 : fnd 133 69 = some (69, .ishl, 1, 0, 0, 0, 0) := ceB_eq (by decide +kernel)
theorem f_133_70 : fnd 133 70 = some (70, .ior, 1, 0, 0, 0, 0) := ceB_eq (by decide +kernel)
theorem f_133_71 : fnd 133 71 = some (71, .istore_n 2, 1, 0, 0, 0, 0) := ceB_eq (by decide +kernel)
theorem f_133_72 : fnd 133 72 = some (72, .iinc 3 1, 3, 0, 0, 0, 0) := ceB_eq (by decide +kernel)
theorem f_133_75 : fnd 133 75 = some (75, .goto (-58), 3, 0, 0, 0, 0) := ceB_eq (by decide +kernel)
theorem f_133_78 : fnd 133 78 = some (78, .iload_n 2, 1, 0, 0, 0, 0) := ceB_eq (by decide +kernel)
theorem f_133_79 : fnd 133 79 = some (79, .ireturn, 1, 0, 0, 0, 0) := ceB_eq (by decide +kernel)
theorem rk_133 : rkm 133 = 0 := by decide +kernel
theorem ml_133 : (mth 133).2.1 = 4 := by decide +kernel
set_option maxRecDepth 100000 in
theorem T_X_twins (k0 i0 x1 : Int) (σ : ST) (Q : Option AV → ST → Prop) (h :
  wpM m_World_isCopy [.inr (.inr (12, 0, 0)), .inl x1] σ (asI fun r101 s101 =>
  (((r101 ≠ 0 : Prop) →
    wp m_X_twins (17, [some (.inr (.inr (0, k0, i0))), some (.inl x1), some (.inl 0), some (.inl 0)], [], s101) Q) ∧
  (¬ (r101 ≠ 0) →
    Q (some (.inl (-1))) s101)))) :
  wpM m_X_twins [.inr (.inr (0, k0, i0)), .inl x1] σ Q :=
 wpM_of ml_133 (L := [some (.inr (.inr (0, k0, i0))), some (.inl x1), none, none]) rfl
 (w_aload_n (p' := 1) f_133_0 rfl rfl
 (w_getfield (p' := 4) f_133_1 rfl (x := .inr (.inr (12, 0, 0))) rfl rfl
 (w_iload_n (p' := 5) f_133_4 rfl rfl
 (w_callV (p' := 8) f_133_5 rfl rfl rfl rfl rfl (r := []) rfl rfl (kI (.inr rk_43) fun r101 s101 h101 =>
 w_if (p' := 13) (q' := 11) f_133_8 rfl rfl
 (fun c102 => w_iconst (p' := 14) f_133_13 rfl
 (w_istore_n (p' := 15) f_133_14 (L' := [some (.inr (.inr (0, k0, i0))), some (.inl x1), some (.inl 0), none]) rfl rfl
 (w_iconst (p' := 16) f_133_15 rfl
 (w_istore_n (p' := 17) f_133_16 (L' := [some (.inr (.inr (0, k0, i0))), some (.inl x1), some (.inl 0), some (.inl 0)]) rfl rfl
 ((h101.1 c102))))))
 (fun c102 => w_iconst (p' := 12) f_133_11 rfl
 (w_iret f_133_12 rk_133 (h101.2 c102)))) h))))
set_option maxRecDepth 100000 in
theorem T_X_twins_17 (k0 i0 x1 x2 x3 : Int) (σ : ST) (Q : Option AV → ST → Prop) (h :
  (((12 ≤ x3 : Prop) →
    Q (some (.inl x2)) σ) ∧
  (¬ (12 ≤ x3) →
    (((x3 = x1 : Prop) →
      wp m_X_twins (17, [some (.inr (.inr (0, k0, i0))), some (.inl x1), some (.inl x2), some (.inl (wr (x3 + 1)))], [], σ) Q) ∧
    (¬ (x3 = x1) →
      wpM m_World_isCopy [.inr (.inr (12, 0, 0)), .inl x3] σ (asI fun r101 s101 =>
      (((r101 = 0 : Prop) →
        wp m_X_twins (17, [some (.inr (.inr (0, k0, i0))), some (.inl x1), some (.inl x2), some (.inl (wr (x3 + 1)))], [], s101) Q) ∧
      (¬ (r101 = 0) →
        ((0 : Int) ≤ x3 ∧ (x3 : Int) < 12) ∧
        ((0 : Int) ≤ x1 ∧ (x1 : Int) < 12) ∧
        ((((s101 25 0 x3 7) ≠ (s101 25 0 x1 7) : Prop) →
          wp m_X_twins (17, [some (.inr (.inr (0, k0, i0))), some (.inl x1), some (.inl x2), some (.inl (wr (x3 + 1)))], [], s101) Q) ∧
        (¬ ((s101 25 0 x3 7) ≠ (s101 25 0 x1 7)) →
          wp m_X_twins (17, [some (.inr (.inr (0, k0, i0))), some (.inl x1), some (.inl (i_or x2 (i_shl 1 x3))), some (.inl (wr (x3 + 1)))], [], s101) Q)))))))))) :
  wp m_X_twins (17, [some (.inr (.inr (0, k0, i0))), some (.inl x1), some (.inl x2), some (.inl x3)], [], σ) Q :=
 w_iload_n (p' := 18) f_133_17 rfl rfl
 (w_bipush (p' := 20) f_133_18 rfl
 (w_icmp (p' := 78) (q' := 23) f_133_20 rfl rfl
 (fun c105 => w_iload_n (p' := 79) f_133_78 rfl rfl
 (w_iret f_133_79 rk_133 (h.1 c105)))
 (fun c105 => w_iload_n (p' := 24) f_133_23 rfl rfl
 (w_iload_n (p' := 25) f_133_24 rfl rfl
 (w_icmp (p' := 72) (q' := 28) f_133_25 rfl rfl
 (fun c104 => w_iinc (p' := 75) f_133_72 rfl (L' := [some (.inr (.inr (0, k0, i0))), some (.inl x1), some (.inl x2), some (.inl (wr (x3 + 1)))]) rfl rfl
 (w_goto (p' := 17) f_133_75 rfl
 (((h.2 c105).1 c104))))
 (fun c104 => w_aload_n (p' := 29) f_133_28 rfl rfl
 (w_getfield (p' := 32) f_133_29 rfl (x := .inr (.inr (12, 0, 0))) rfl rfl
 (w_iload_n (p' := 33) f_133_32 rfl rfl
 (w_callV (p' := 36) f_133_33 rfl rfl rfl rfl rfl (r := []) rfl rfl (kI (.inr rk_43) fun r101 s101 h101 =>
 w_if (p' := 72) (q' := 39) f_133_36 rfl rfl
 (fun c103 => w_iinc (p' := 75) f_133_72 rfl (L' := [some (.inr (.inr (0, k0, i0))), some (.inl x1), some (.inl x2), some (.inl (wr (x3 + 1)))]) rfl rfl
 (w_goto (p' := 17) f_133_75 rfl
 ((h101.1 c103))))
 (fun c103 => w_aload_n (p' := 40) f_133_39 rfl rfl
 (w_getfield (p' := 43) f_133_40 rfl (x := .inr (.inr (12, 0, 0))) rfl rfl
 (w_getfield (p' := 46) f_133_43 rfl (x := .inr (.inr (24, 0, 0))) rfl rfl
 (w_iload_n (p' := 47) f_133_46 rfl rfl
 (w_aaload (p' := 48) f_133_47 rfl (n := 12) rfl (x := (25, 0, x3)) rfl (h101.2 c103).1 rfl
 (w_getfield (p' := 51) f_133_48 rfl (x := .inl (s101 25 0 x3 7)) rfl rfl
 (w_aload_n (p' := 52) f_133_51 rfl rfl
 (w_getfield (p' := 55) f_133_52 rfl (x := .inr (.inr (12, 0, 0))) rfl rfl
 (w_getfield (p' := 58) f_133_55 rfl (x := .inr (.inr (24, 0, 0))) rfl rfl
 (w_iload_n (p' := 59) f_133_58 rfl rfl
 (w_aaload (p' := 60) f_133_59 rfl (n := 12) rfl (x := (25, 0, x1)) rfl (h101.2 c103).2.1 rfl
 (w_getfield (p' := 63) f_133_60 rfl (x := .inl (s101 25 0 x1 7)) rfl rfl
 (w_icmp (p' := 72) (q' := 66) f_133_63 rfl rfl
 (fun c102 => w_iinc (p' := 75) f_133_72 rfl (L' := [some (.inr (.inr (0, k0, i0))), some (.inl x1), some (.inl x2), some (.inl (wr (x3 + 1)))]) rfl rfl
 (w_goto (p' := 17) f_133_75 rfl
 (((h101.2 c103).2.2.1 c102))))
 (fun c102 => w_iload_n (p' := 67) f_133_66 rfl rfl
 (w_iconst (p' := 68) f_133_67 rfl
 (w_iload_n (p' := 69) f_133_68 rfl rfl
 (w_ishl (p' := 70) f_133_69 rfl
 (w_ior (p' := 71) f_133_70 rfl
 (w_istore_n (p' := 72) f_133_71 (L' := [some (.inr (.inr (0, k0, i0))), some (.inl x1), some (.inl (i_or x2 (i_shl 1 x3))), some (.inl x3)]) rfl rfl
 (w_iinc (p' := 75) f_133_72 rfl (L' := [some (.inr (.inr (0, k0, i0))), some (.inl x1), some (.inl (i_or x2 (i_shl 1 x3))), some (.inl (wr (x3 + 1)))]) rfl rfl
 (w_goto (p' := 17) f_133_75 rfl
 (((h101.2 c103).2.2.2 c102)))))))))))))))))))))))) ((h.2 c105).2 c104))))))))))
/-! ClosedRooms.waits(I)I -/
theorem f_134_0 : fnd 134 0 = some (0, .aload_n 0, 1, 0, 0, 0, 0) := ceB_eq (by decide +kernel)
theorem f_134_1 : fnd 134 1 = some (1, .getfield 45, 3, 0, 6, 6, 0) := ceB_eq (by decide +kernel)
theorem f_134_4 : fnd 134 4 = some (4, .iload_n 1, 1, 0, 0, 0, 0) := ceB_eq (by decide +kernel)
theorem f_134_5 : fnd 134 5 = some (5, .invokevirtual 112, 3, 32, 2, 4, 0) := ceB_eq (by decide +kernel)
theorem f_134_8 : fnd 134 8 = some (8, .ifCond .ne 5, 3, 0, 0, 0, 0) := ceB_eq (by decide +kernel)
theorem f_134_11 : fnd 134 11 = some (11, .iconst (-1), 1, 0, 0, 0, 0) := ceB_eq (by decide +kernel)
theorem f_134_12 : fnd 134 12 = some (12, .ireturn, 1, 0, 0, 0, 0) := ceB_eq (by decide +kernel)
theorem f_134_13 : fnd 134 13 = some (13, .aload_n 0, 1, 0, 0, 0, 0) := ceB_eq (by decide +kernel)
theorem f_134_14 : fnd 134 14 = some (14, .getfield 45, 3, 0, 6, 6, 0) := ceB_eq (by decide +kernel)
theorem f_134_17 : fnd 134 17 = some (17, .getfield 117, 3, 4, 5, 5, 0) := ceB_eq (by decide +kernel)
theorem f_134_20 : fnd 134 20 = some (20, .iload_n 1, 1, 0, 0, 0, 0) := ceB_eq (by decide +kernel)
theorem f_134_21 : fnd 134 21 = some (21, .aaload, 1, 0, 0, 0, 0) := ceB_eq (by decide +kernel)
theorem f_134_22 : fnd 134 22 = some (22, .astore_n 2, 1, 0, 0, 0, 0) := ceB_eq (by decide +kernel)
theorem f_134_23 : fnd 134 23 = some (23, .aload_n 2, 1, 0, 0, 0, 0) := ceB_eq (by decide +kernel)
theorem f_134_24 : fnd 134 24 = some (24, .invokevirtual 298, 3, 78, 1, 6, 0) := ceB_eq (by decide +kernel)
theorem f_134_27 : fnd 134 27 = some (27, .ifCond .eq 17, 3, 0, 0, 0, 0) := ceB_eq (by decide +kernel)
theorem f_134_30 : fnd 134 30 = some (30, .aload_n 0, 1, 0, 0, 0, 0) := ceB_eq (by decide +kernel)
theorem f_134_31 : fnd 134 31 = some (31, .getfield 45, 3, 0, 6, 6, 0) := ceB_eq (by decide +kernel)
theorem f_134_34 : fnd 134 34 = some (34, .aload_n 2, 1, 0, 0, 0, 0) := ceB_eq (by decide +kernel)
theorem f_134_35 : fnd 134 35 = some (35, .getfield 130, 3, 6, 1, 1, 0) := ceB_eq (by decide +kernel)
theorem f_134_38 : fnd 134 38 = some (38, .invokevirtual 151, 3, 37, 2, 4, 0) := ceB_eq (by decide +kernel)
theorem f_134_41 : fnd 134 41 = some (41, .ifCond .ne 5, 3, 0, 0, 0, 0) := ceB_eq (by decide +kernel)
theorem f_134_44 : fnd 134 44 = some (44, .iconst (-1), 1, 0, 0, 0, 0) := ceB_eq (by decide +kernel)
theorem f_134_45 : fnd 134 45 = some (45, .ireturn, 1, 0, 0, 0, 0) := ceB_eq (by decide +kernel)
theorem f_134_46 : fnd 134 46 = some (46, .aload_n 0, 1, 0, 0, 0, 0) := ceB_eq (by decide +kernel)
theorem f_134_47 : fnd 134 47 = some (47, .getfield 45, 3, 0, 6, 6, 0) := ceB_eq (by decide +kernel)
theorem f_134_50 : fnd 134 50 = some (50, .aload_n 2, 1, 0, 0, 0, 0) := ceB_eq (by decide +kernel)
theorem f_134_51 : fnd 134 51 = some (51, .getfield 130, 3, 6, 1, 1, 0) := ceB_eq (by decide +kernel)
theorem f_134_54 : fnd 134 54 = some (54, .aload_n 2, 1, 0, 0, 0, 0) := ceB_eq (by decide +kernel)
theorem f_134_55 : fnd 134 55 = some (55, .getfield 139, 3, 6, 5, 5, 0) := ceB_eq (by decide +kernel)
theorem f_134_58 : fnd 134 58 = some (58, .ifCond .eq 10, 3, 0, 0, 0, 0) := ceB_eq (by decide +kernel)
theorem f_134_61 : fnd 134 61 = some (61, .aload_n 2, 1, 0, 0, 0, 0) := ceB_eq (by decide +kernel)
theorem f_134_62 : fnd 134 62 = some (62, .getfield 300, 3, 6, 6, 6, 0) := ceB_eq (by decide +kernel)
theorem f_134_65 : fnd 134 65 = some (65, .goto 18, 3, 0, 0, 0, 0) := ceB_eq (by decide +kernel)
theorem f_134_68 : fnd 134 68 = some (68, .aload_n 0, 1, 0, 0, 0, 0) := ceB_eq (by decide +kernel)
theorem f_134_69 : fnd 134 69 = some (69, .getfield 45, 3, 0, 6, 6, 0) := ceB_eq (by decide +kernel)
theorem f_134_72 : fnd 134 72 = some (72, .getfield 161, 3, 4, 6, 6, 0) := ceB_eq (by decide +kernel)
theorem f_134_75 : fnd 134 75 = some (75, .aload_n 2, 1, 0, 0, 0, 0) := ceB_eq (by decide +kernel)
theorem f_134_76 : fnd 134 76 = some (76, .getfield 130, 3, 6, 1, 1, 0) := ceB_eq (by decide +kernel)
theorem f_134_79 : fnd 134 79 = some (79, .aaload, 1, 0, 0, 0, 0) := ceB_eq (by decide +kernel)
theorem f_134_80 : fnd 134 80 = some (80, .getfield 179, 3, 7, 5, 5, 0) := ceB_eq (by decide +kernel)
theorem f_134_83 : fnd 134 83 = some (83, .invokevirtual 186, 3, 80, 3, 4, 0) := ceB_eq (by decide +kernel)
theorem f_134_86 : fnd 134 86 = some (86, .ireturn, 1, 0, 0, 0, 0) := ceB_eq (by decide +kernel)
theorem rk_134 : rkm 134 = 0 := by decide +kernel
theorem ml_134 : (mth 134).2.1 = 3 := by decide +kernel
set_option maxRecDepth 100000 in
theorem T_X_waits (k0 i0 x1 : Int) (σ : ST) (Q : Option AV → ST → Prop) (h :
  wpM m_World_isPage [.inr (.inr (12, 0, 0)), .inl x1] σ (asI fun r101 s101 =>
  (((r101 ≠ 0 : Prop) →
    ((0 : Int) ≤ x1 ∧ (x1 : Int) < 10) ∧
    wpM m_Page_hasAddress [.inr (.inr (14, 0, x1))] s101 (asI fun r102 s102 =>
    (((r102 = 0 : Prop) →
      Q (some (.inl (-1))) s102) ∧
    (¬ (r102 = 0) →
      wpM m_World_isRoom [.inr (.inr (12, 0, 0)), .inl (s102 14 0 x1 1)] s102 (asI fun r103 s103 =>
      (((r103 ≠ 0 : Prop) →
        ((((bz (s103 14 0 x1 5)) = 0 : Prop) →
          ((0 : Int) ≤ (s103 14 0 x1 1) ∧ ((s103 14 0 x1 1) : Int) < 4) ∧
          wpM m_World_coresInside [.inr (.inr (12, 0, 0)), .inl (s103 14 0 x1 1), .inl (s103 17 0 (s103 14 0 x1 1) 5)] s103 (asI fun r104 s104 =>
          Q (some (.inl r104)) s104)) ∧
        (¬ ((bz (s103 14 0 x1 5)) = 0) →
          wpM m_World_coresInside [.inr (.inr (12, 0, 0)), .inl (s103 14 0 x1 1), .inl (s103 14 0 x1 6)] s103 (asI fun r105 s105 =>
          Q (some (.inl r105)) s105)))) ∧
      (¬ (r103 ≠ 0) →
        Q (some (.inl (-1))) s103))))))) ∧
  (¬ (r101 ≠ 0) →
    Q (some (.inl (-1))) s101)))) :
  wpM m_X_waits [.inr (.inr (0, k0, i0)), .inl x1] σ Q :=
 wpM_of ml_134 (L := [some (.inr (.inr (0, k0, i0))), some (.inl x1), none]) rfl
 (w_aload_n (p' := 1) f_134_0 rfl rfl
 (w_getfield (p' := 4) f_134_1 rfl (x := .inr (.inr (12, 0, 0))) rfl rfl
 (w_iload_n (p' := 5) f_134_4 rfl rfl
 (w_callV (p' := 8) f_134_5 rfl rfl rfl rfl rfl (r := []) rfl rfl (kI (.inr rk_32) fun r101 s101 h101 =>
 w_if (p' := 13) (q' := 11) f_134_8 rfl rfl
 (fun c109 => w_aload_n (p' := 14) f_134_13 rfl rfl
 (w_getfield (p' := 17) f_134_14 rfl (x := .inr (.inr (12, 0, 0))) rfl rfl
 (w_getfield (p' := 20) f_134_17 rfl (x := .inr (.inr (13, 0, 0))) rfl rfl
 (w_iload_n (p' := 21) f_134_20 rfl rfl
 (w_aaload (p' := 22) f_134_21 rfl (n := 10) rfl (x := (14, 0, x1)) rfl (h101.1 c109).1 rfl
 (w_astore_n (p' := 23) f_134_22 (L' := [some (.inr (.inr (0, k0, i0))), some (.inl x1), some (.inr (.inr (14, 0, x1)))]) rfl rfl
 (w_aload_n (p' := 24) f_134_23 rfl rfl
 (w_callV (p' := 27) f_134_24 rfl rfl rfl rfl rfl (r := []) rfl rfl (kI (.inr rk_78) fun r102 s102 h102 =>
 w_if (p' := 44) (q' := 30) f_134_27 rfl rfl
 (fun c108 => w_iconst (p' := 45) f_134_44 rfl
 (w_iret f_134_45 rk_134 (h102.1 c108)))
 (fun c108 => w_aload_n (p' := 31) f_134_30 rfl rfl
 (w_getfield (p' := 34) f_134_31 rfl (x := .inr (.inr (12, 0, 0))) rfl rfl
 (w_aload_n (p' := 35) f_134_34 rfl rfl
 (w_getfield (p' := 38) f_134_35 rfl (x := .inl (s102 14 0 x1 1)) rfl rfl
 (w_callV (p' := 41) f_134_38 rfl rfl rfl rfl rfl (r := []) rfl rfl (kI (.inr rk_37) fun r103 s103 h103 =>
 w_if (p' := 46) (q' := 44) f_134_41 rfl rfl
 (fun c107 => w_aload_n (p' := 47) f_134_46 rfl rfl
 (w_getfield (p' := 50) f_134_47 rfl (x := .inr (.inr (12, 0, 0))) rfl rfl
 (w_aload_n (p' := 51) f_134_50 rfl rfl
 (w_getfield (p' := 54) f_134_51 rfl (x := .inl (s103 14 0 x1 1)) rfl rfl
 (w_aload_n (p' := 55) f_134_54 rfl rfl
 (w_getfield (p' := 58) f_134_55 rfl (x := .inl (bz (s103 14 0 x1 5))) rfl rfl
 (w_if (p' := 68) (q' := 61) f_134_58 rfl rfl
 (fun c106 => w_aload_n (p' := 69) f_134_68 rfl rfl
 (w_getfield (p' := 72) f_134_69 rfl (x := .inr (.inr (12, 0, 0))) rfl rfl
 (w_getfield (p' := 75) f_134_72 rfl (x := .inr (.inr (16, 0, 0))) rfl rfl
 (w_aload_n (p' := 76) f_134_75 rfl rfl
 (w_getfield (p' := 79) f_134_76 rfl (x := .inl (s103 14 0 x1 1)) rfl rfl
 (w_aaload (p' := 80) f_134_79 rfl (n := 4) rfl (x := (17, 0, (s103 14 0 x1 1))) rfl ((h103.1 c107).1 c106).1 rfl
 (w_getfield (p' := 83) f_134_80 rfl (x := .inl (s103 17 0 (s103 14 0 x1 1) 5)) rfl rfl
 (w_callV (p' := 86) f_134_83 rfl rfl rfl rfl rfl (r := []) rfl rfl (kI (.inl rk_80) fun r104 s104 h104 =>
 w_iret f_134_86 rk_134 h104) ((h103.1 c107).1 c106).2))))))))
 (fun c106 => w_aload_n (p' := 62) f_134_61 rfl rfl
 (w_getfield (p' := 65) f_134_62 rfl (x := .inl (s103 14 0 x1 6)) rfl rfl
 (w_goto (p' := 83) f_134_65 rfl
 (w_callV (p' := 86) f_134_83 rfl rfl rfl rfl rfl (r := []) rfl rfl (kI (.inl rk_80) fun r105 s105 h105 =>
 w_iret f_134_86 rk_134 h105) ((h103.1 c107).2 c106))))))))))))
 (fun c107 => w_iconst (p' := 45) f_134_44 rfl
 (w_iret f_134_45 rk_134 (h103.2 c107)))) (h102.2 c108))))))) (h101.1 c109).2))))))))
 (fun c109 => w_iconst (p' := 12) f_134_11 rfl
 (w_iret f_134_12 rk_134 (h101.2 c109)))) h))))
/-! ClosedRooms$World.leaksOf(LClosedRooms$Core;)I -/
theorem f_135_0 : fnd 135 0 = some (0, .iconst 0, 1, 0, 0, 0, 0) := ceB_eq (by decide +kernel)
theorem f_135_1 : fnd 135 1 = some (1, .istore_n 2, 1, 0, 0, 0, 0) := ceB_eq (by decide +kernel)
theorem f_135_2 : fnd 135 2 = some (2, .iconst 0, 1, 0, 0, 0, 0) := ceB_eq (by decide +kernel)
theorem f_135_3 : fnd 135 3 = some (3, .istore_n 3, 1, 0, 0, 0, 0) := ceB_eq (by decide +kernel)
theorem f_135_4 : fnd 135 4 = some (4, .iload_n 3, 1, 0, 0, 0, 0) := ceB_eq (by decide +kernel)
theorem f_135_5 : fnd 135 5 = some (5, .aload_n 1, 1, 0, 0, 0, 0) := ceB_eq (by decide +kernel)
theorem f_135_6 : fnd 135 6 = some (6, .getfield 159, 3, 8, 4, 4, 0) := ceB_eq (by decide +kernel)
theorem f_135_9 : fnd 135 9 = some (9, .if_icmp .ge 55, 3, 0, 0, 0, 0) := ceB_eq (by decide +kernel)
theorem f_135_12 : fnd 135 12 = some (12, .iload_n 3, 1, 0, 0, 0, 0) := ceB_eq (by decide +kernel)
theorem f_135_13 : fnd 135 13 = some (13, .iconst 3, 1, 0, 0, 0, 0) := ceB_eq (by decide +kernel)
theorem f_135_14 : fnd 135 14 = some (14, .if_icmp .ge 50, 3, 0, 0, 0, 0) := ceB_eq (by decide +kernel)
theorem f_135_17 : fnd 135 17 = some (17, .aload_n 1, 1, 0, 0, 0, 0) := ceB_eq (by decide +kernel)
theorem f_135_18 : fnd 135 18 = some (18, .getfield 162, 3, 8, 6, 6, 0) := ceB_eq (by decide +kernel)
theorem f_135_21 : fnd 135 21 = some (21, .iload_n 3, 1, 0, 0, 0, 0) := ceB_eq (by decide +kernel)
theorem f_135_22 : fnd 135 22 = some (22, .iaload, 1, 0, 0, 0, 0) := ceB_eq (by decide +kernel)
theorem f_135_23 : fnd 135 23 = some (23, .istore 4, 2, 0, 0, 0, 0) := ceB_eq (by decide +kernel)
theorem f_135_25 : fnd 135 25 = some (25, .aload_n 0, 1, 0, 0, 0, 0) := ceB_eq (by decide +kernel)
theorem f_135_26 : fnd 135 26 = some (26, .iload 4, 2, 0, 0, 0, 0) := ceB_eq (by decide +kernel)
theorem f_135_28 : fnd 135 28 = some (28, .invokevirtual 90, 3, 32, 2, 4, 0) := ceB_eq (by decide +kernel)
theorem f_135_31 : fnd 135 31 = some (31, .ifCond .eq 27, 3, 0, 0, 0, 0) := ceB_eq (by decide +kernel)
theorem f_135_34 : fnd 135 34 = some (34, .aload_n 0, 1, 0, 0, 0, 0) := ceB_eq (by decide +kernel)
theorem f_135_35 : fnd 135 35 = some (35, .getfield 29, 3, 4, 5, 5, 0) := ceB_eq (by decide +kernel)
theorem f_135_38 : fnd 135 38 = some (38, .iload 4, 2, 0, 0, 0, 0) := ceB_eq (by decide +kernel)
theorem f_135_40 : fnd 135 40 = some (40, .aaload, 1, 0, 0, 0, 0) := ceB_eq (by decide +kernel)
theorem f_135_41 : fnd 135 41 = some (41, .getfield 127, 3, 6, 5, 5, 0) := ceB_eq (by decide +kernel)
theorem f_135_44 : fnd 135 44 = some (44, .ifCond .eq 14, 3, 0, 0, 0, 0) := ceB_eq (by decide +kernel)
theorem f_135_47 : fnd 135 47 = some (47, .iload_n 2, 1, 0, 0, 0, 0) := ceB_eq (by decide +kernel)
theorem f_135_48 : fnd 135 48 = some (48, .iconst 1, 1, 0, 0, 0, 0) := ceB_eq (by decide +kernel)
theorem f_135_49 : fnd 135 49 = some (49, .aload_n 1, 1, 0, 0, 0, 0) := ceB_eq (by decide +kernel)
theorem f_135_50 : fnd 135 50 = some (50, .getfield 166, 3, 8, 5, 5, 0) := ceB_eq (by decide +kernel)
theorem f_135_53 : fnd 135 53 = some (53, .iload_n 3, 1, 0, 0, 0, 0) := ceB_eq (by decide +kernel)
theorem f_135_54 : fnd 135 54 = some (54, .iaload, 1, 0, 0, 0, 0) := ceB_eq (by decide +kernel)
theorem f_135_55 : fnd 135 55 = some (55, .ishl, 1, 0, 0, 0, 0) := ceB_eq (by decide +kernel)
theorem f_135_56 : fnd 135 56 = some (56, .ior, 1, 0, 0, 0, 0) := ceB_eq (by decide +kernel)
theorem f_135_57 : fnd 135 57 = some (57, .istore_n 2, 1, 0, 0, 0, 0) := ceB_eq (by decide +kernel)
theorem f_135_58 : fnd 135 58 = some (58, .iinc 3 1, 3, 0, 0, 0, 0) := ceB_eq (by decide +kernel)
theorem f_135_61 : fnd 135 61 = some (61, .goto (-57), 3, 0, 0, 0, 0) := ceB_eq (by decide +kernel)
theorem f_135_64 : fnd 135 64 = some (64, .iload_n 2, 1, 0, 0, 0, 0) := ceB_eq (by decide +kernel)
theorem f_135_65 : fnd 135 65 = some (65, .ireturn, 1, 0, 0, 0, 0) := ceB_eq (by decide +kernel)
theorem rk_135 : rkm 135 = 0 := by decide +kernel
theorem ml_135 : (mth 135).2.1 = 5 := by decide +kernel
set_option maxRecDepth 100000 in
theorem T_World_leaksOf (k0 i0 k1 i1 : Int) (σ : ST) (Q : Option AV → ST → Prop) (h :
  wp m_World_leaksOf (4, [some (.inr (.inr (12, k0, i0))), some (.inr (.inr (21, k1, i1))), some (.inl 0), some (.inl 0), none], [], σ) Q) :
  wpM m_World_leaksOf [.inr (.inr (12, k0, i0)), .inr (.inr (21, k1, i1))] σ Q :=
 wpM_of ml_135 (L := [some (.inr (.inr (12, k0, i0))), some (.inr (.inr (21, k1, i1))), none, none, none]) rfl
 (w_iconst (p' := 1) f_135_0 rfl
 (w_istore_n (p' := 2) f_135_1 (L' := [some (.inr (.inr (12, k0, i0))), some (.inr (.inr (21, k1, i1))), some (.inl 0), none, none]) rfl rfl
 (w_iconst (p' := 3) f_135_2 rfl
 (w_istore_n (p' := 4) f_135_3 (L' := [some (.inr (.inr (12, k0, i0))), some (.inr (.inr (21, k1, i1))), some (.inl 0), some (.inl 0), none]) rfl rfl
 (h)))))
set_option maxRecDepth 100000 in
theorem T_World_leaksOf_4 (k0 i0 k1 i1 x2 x3 : Int) (o4 : Option AV) (σ : ST) (Q : Option AV → ST → Prop) (h :
  ((((σ 21 k1 i1 4) ≤ x3 : Prop) →
    Q (some (.inl x2)) σ) ∧
  (¬ ((σ 21 k1 i1 4) ≤ x3) →
    (((3 ≤ x3 : Prop) →
      Q (some (.inl x2)) σ) ∧
    (¬ (3 ≤ x3) →
      ((0 : Int) ≤ x3 ∧ (x3 : Int) < 3) ∧
      wpM m_World_isPage [.inr (.inr (12, k0, i0)), .inl (σ 23 k1 i1 x3)] σ (asI fun r101 s101 =>
      (((r101 = 0 : Prop) →
        wp m_World_leaksOf (4, [some (.inr (.inr (12, k0, i0))), some (.inr (.inr (21, k1, i1))), some (.inl x2), some (.inl (wr (x3 + 1))), some (.inl (σ 23 k1 i1 x3))], [], s101) Q) ∧
      (¬ (r101 = 0) →
        ((0 : Int) ≤ (σ 23 k1 i1 x3) ∧ ((σ 23 k1 i1 x3) : Int) < 10) ∧
        ((((bz (s101 14 k0 (σ 23 k1 i1 x3) 5)) = 0 : Prop) →
          wp m_World_leaksOf (4, [some (.inr (.inr (12, k0, i0))), some (.inr (.inr (21, k1, i1))), some (.inl x2), some (.inl (wr (x3 + 1))), some (.inl (σ 23 k1 i1 x3))], [], s101) Q) ∧
        (¬ ((bz (s101 14 k0 (σ 23 k1 i1 x3) 5)) = 0) →
          ((0 : Int) ≤ x3 ∧ (x3 : Int) < 3) ∧
          wp m_World_leaksOf (4, [some (.inr (.inr (12, k0, i0))), some (.inr (.inr (21, k1, i1))), some (.inl (i_or x2 (i_shl 1 (s101 22 k1 i1 x3)))), some (.inl (wr (x3 + 1))), some (.inl (σ 23 k1 i1 x3))], [], s101) Q)))))))))) :
  wp m_World_leaksOf (4, [some (.inr (.inr (12, k0, i0))), some (.inr (.inr (21, k1, i1))), some (.inl x2), some (.inl x3), o4], [], σ) Q :=
 w_iload_n (p' := 5) f_135_4 rfl rfl
 (w_aload_n (p' := 6) f_135_5 rfl rfl
 (w_getfield (p' := 9) f_135_6 rfl (x := .inl (σ 21 k1 i1 4)) rfl rfl
 (w_icmp (p' := 64) (q' := 12) f_135_9 rfl rfl
 (fun c105 => w_iload_n (p' := 65) f_135_64 rfl rfl
 (w_iret f_135_65 rk_135 (h.1 c105)))
 (fun c105 => w_iload_n (p' := 13) f_135_12 rfl rfl
 (w_iconst (p' := 14) f_135_13 rfl
 (w_icmp (p' := 64) (q' := 17) f_135_14 rfl rfl
 (fun c104 => w_iload_n (p' := 65) f_135_64 rfl rfl
 (w_iret f_135_65 rk_135 ((h.2 c105).1 c104)))
 (fun c104 => w_aload_n (p' := 18) f_135_17 rfl rfl
 (w_getfield (p' := 21) f_135_18 rfl (x := .inr (.inr (23, k1, i1))) rfl rfl
 (w_iload_n (p' := 22) f_135_21 rfl rfl
 (w_iaload (p' := 23) f_135_22 rfl (n := 3) rfl ((h.2 c105).2 c104).1 rfl
 (w_istore (p' := 25) f_135_23 (L' := [some (.inr (.inr (12, k0, i0))), some (.inr (.inr (21, k1, i1))), some (.inl x2), some (.inl x3), some (.inl (σ 23 k1 i1 x3))]) rfl rfl
 (w_aload_n (p' := 26) f_135_25 rfl rfl
 (w_iload (p' := 28) f_135_26 rfl rfl
 (w_callV (p' := 31) f_135_28 rfl rfl rfl rfl rfl (r := []) rfl rfl (kI (.inr rk_32) fun r101 s101 h101 =>
 w_if (p' := 58) (q' := 34) f_135_31 rfl rfl
 (fun c103 => w_iinc (p' := 61) f_135_58 rfl (L' := [some (.inr (.inr (12, k0, i0))), some (.inr (.inr (21, k1, i1))), some (.inl x2), some (.inl (wr (x3 + 1))), some (.inl (σ 23 k1 i1 x3))]) rfl rfl
 (w_goto (p' := 4) f_135_61 rfl
 ((h101.1 c103))))
 (fun c103 => w_aload_n (p' := 35) f_135_34 rfl rfl
 (w_getfield (p' := 38) f_135_35 rfl (x := .inr (.inr (13, k0, 0))) rfl rfl
 (w_iload (p' := 40) f_135_38 rfl rfl
 (w_aaload (p' := 41) f_135_40 rfl (n := 10) rfl (x := (14, k0, (σ 23 k1 i1 x3))) rfl (h101.2 c103).1 rfl
 (w_getfield (p' := 44) f_135_41 rfl (x := .inl (bz (s101 14 k0 (σ 23 k1 i1 x3) 5))) rfl rfl
 (w_if (p' := 58) (q' := 47) f_135_44 rfl rfl
 (fun c102 => w_iinc (p' := 61) f_135_58 rfl (L' := [some (.inr (.inr (12, k0, i0))), some (.inr (.inr (21, k1, i1))), some (.inl x2), some (.inl (wr (x3 + 1))), some (.inl (σ 23 k1 i1 x3))]) rfl rfl
 (w_goto (p' := 4) f_135_61 rfl
 (((h101.2 c103).2.1 c102))))
 (fun c102 => w_iload_n (p' := 48) f_135_47 rfl rfl
 (w_iconst (p' := 49) f_135_48 rfl
 (w_aload_n (p' := 50) f_135_49 rfl rfl
 (w_getfield (p' := 53) f_135_50 rfl (x := .inr (.inr (22, k1, i1))) rfl rfl
 (w_iload_n (p' := 54) f_135_53 rfl rfl
 (w_iaload (p' := 55) f_135_54 rfl (n := 3) rfl ((h101.2 c103).2.2 c102).1 rfl
 (w_ishl (p' := 56) f_135_55 rfl
 (w_ior (p' := 57) f_135_56 rfl
 (w_istore_n (p' := 58) f_135_57 (L' := [some (.inr (.inr (12, k0, i0))), some (.inr (.inr (21, k1, i1))), some (.inl (i_or x2 (i_shl 1 (s101 22 k1 i1 x3)))), some (.inl x3), some (.inl (σ 23 k1 i1 x3))]) rfl rfl
 (w_iinc (p' := 61) f_135_58 rfl (L' := [some (.inr (.inr (12, k0, i0))), some (.inr (.inr (21, k1, i1))), some (.inl (i_or x2 (i_shl 1 (s101 22 k1 i1 x3)))), some (.inl (wr (x3 + 1))), some (.inl (σ 23 k1 i1 x3))]) rfl rfl
 (w_goto (p' := 4) f_135_61 rfl
 (((h101.2 c103).2.2 c102).2))))))))))))))))))) ((h.2 c105).2 c104).2))))))))))))))
/-! ClosedRooms.leaks(I)I -/
theorem f_136_0 : fnd 136 0 = some (0, .aload_n 0, 1, 0, 0, 0, 0) := ceB_eq (by decide +kernel)
theorem f_136_1 : fnd 136 1 = some (1, .getfield 45, 3, 0, 6, 6, 0) := ceB_eq (by decide +kernel)
theorem f_136_4 : fnd 136 4 = some (4, .iload_n 1, 1, 0, 0, 0, 0) := ceB_eq (by decide +kernel)
theorem f_136_5 : fnd 136 5 = some (5, .invokevirtual 151, 3, 37, 2, 4, 0) := ceB_eq (by decide +kernel)
theorem f_136_8 : fnd 136 8 = some (8, .ifCond .ne 5, 3, 0, 0, 0, 0) := ceB_eq (by decide +kernel)
theorem f_136_11 : fnd 136 11 = some (11, .iconst (-1), 1, 0, 0, 0, 0) := ceB_eq (by decide +kernel)
theorem f_136_12 : fnd 136 12 = some (12, .ireturn, 1, 0, 0, 0, 0) := ceB_eq (by decide +kernel)
theorem f_136_13 : fnd 136 13 = some (13, .iconst 0, 1, 0, 0, 0, 0) := ceB_eq (by decide +kernel)
theorem f_136_14 : fnd 136 14 = some (14, .istore_n 2, 1, 0, 0, 0, 0) := ceB_eq (by decide +kernel)
theorem f_136_15 : fnd 136 15 = some (15, .iconst 0, 1, 0, 0, 0, 0) := ceB_eq (by decide +kernel)
theorem f_136_16 : fnd 136 16 = some (16, .istore_n 3, 1, 0, 0, 0, 0) := ceB_eq (by decide +kernel)
theorem f_136_17 : fnd 136 17 = some (17, .iload_n 3, 1, 0, 0, 0, 0) := ceB_eq (by decide +kernel)
theorem f_136_18 : fnd 136 18 = some (18, .aload_n 0, 1, 0, 0, 0, 0) := ceB_eq (by decide +kernel)
theorem f_136_19 : fnd 136 19 = some (19, .getfield 45, 3, 0, 6, 6, 0) := ceB_eq (by decide +kernel)
theorem f_136_22 : fnd 136 22 = some (22, .getfield 303, 3, 4, 1, 1, 0) := ceB_eq (by decide +kernel)
theorem f_136_25 : fnd 136 25 = some (25, .if_icmp .ge 55, 3, 0, 0, 0, 0) := ceB_eq (by decide +kernel)
theorem f_136_28 : fnd 136 28 = some (28, .aload_n 0, 1, 0, 0, 0, 0) := ceB_eq (by decide +kernel)
theorem f_136_29 : fnd 136 29 = some (29, .getfield 45, 3, 0, 6, 6, 0) := ceB_eq (by decide +kernel)
theorem f_136_32 : fnd 136 32 = some (32, .iload_n 3, 1, 0, 0, 0, 0) := ceB_eq (by decide +kernel)
theorem f_136_33 : fnd 136 33 = some (33, .invokevirtual 199, 3, 40, 2, 4, 0) := ceB_eq (by decide +kernel)
theorem f_136_36 : fnd 136 36 = some (36, .ifCond .eq 38, 3, 0, 0, 0, 0) := ceB_eq (by decide +kernel)
theorem f_136_39 : fnd 136 39 = some (39, .aload_n 0, 1, 0, 0, 0, 0) := ceB_eq (by decide +kernel)
theorem f_136_40 : fnd 136 40 = some (40, .getfield 45, 3, 0, 6, 6, 0) := ceB_eq (by decide +kernel)
theorem f_136_43 : fnd 136 43 = some (43, .getfield 202, 3, 4, 7, 7, 0) := ceB_eq (by decide +kernel)
theorem f_136_46 : fnd 136 46 = some (46, .iload_n 3, 1, 0, 0, 0, 0) := ceB_eq (by decide +kernel)
theorem f_136_47 : fnd 136 47 = some (47, .aaload, 1, 0, 0, 0, 0) := ceB_eq (by decide +kernel)
theorem f_136_48 : fnd 136 48 = some (48, .getfield 211, 3, 8, 1, 1, 0) := ceB_eq (by decide +kernel)
theorem f_136_51 : fnd 136 51 = some (51, .iload_n 1, 1, 0, 0, 0, 0) := ceB_eq (by decide +kernel)
theorem f_136_52 : fnd 136 52 = some (52, .if_icmp .ne 22, 3, 0, 0, 0, 0) := ceB_eq (by decide +kernel)
theorem f_136_55 : fnd 136 55 = some (55, .iload_n 2, 1, 0, 0, 0, 0) := ceB_eq (by decide +kernel)
theorem f_136_56 : fnd 136 56 = some (56, .aload_n 0, 1, 0, 0, 0, 0) := ceB_eq (by decide +kernel)
theorem f_136_57 : fnd 136 57 = some (57, .getfield 45, 3, 0, 6, 6, 0) := ceB_eq (by decide +kernel)
theorem f_136_60 : fnd 136 60 = some (60, .aload_n 0, 1, 0, 0, 0, 0) := ceB_eq (by decide +kernel)
theorem f_136_61 : fnd 136 61 = some (61, .getfield 45, 3, 0, 6, 6, 0) := ceB_eq (by decide +kernel)
theorem f_136_64 : fnd 136 64 = some (64, .getfield 202, 3, 4, 7, 7, 0) := ceB_eq (by decide +kernel)
theorem f_136_67 : fnd 136 67 = some (67, .iload_n 3, 1, 0, 0, 0, 0) := ceB_eq (by decide +kernel)
theorem f_136_68 : fnd 136 68 = some (68, .aaload, 1, 0, 0, 0, 0) := ceB_eq (by decide +kernel)
theorem f_136_69 : fnd 136 69 = some (69, .invokevirtual 306, 3, 135, 2, 4, 0) := ceB_eq (by decide +kernel)
theorem f_136_72 : fnd 136 72 = some (72, .ior, 1, 0, 0, 0, 0) := ceB_eq (by decide +kernel)
theorem f_136_73 : fnd 136 73 = some (73, .istore_n 2, 1, 0, 0, 0, 0) := ceB_eq (by decide +kernel)
theorem f_136_74 : fnd 136 74 = some (74, .iinc 3 1, 3, 0, 0, 0, 0) := ceB_eq (by decide +kernel)
theorem f_136_77 : fnd 136 77 = some (77, .goto (-60), 3, 0, 0, 0, 0) := ceB_eq (by decide +kernel)
theorem f_136_80 : fnd 136 80 = some (80, .iload_n 2, 1, 0, 0, 0, 0) := ceB_eq (by decide +kernel)
theorem f_136_81 : fnd 136 81 = some (81, .ireturn, 1, 0, 0, 0, 0) := ceB_eq (by decide +kernel)
theorem rk_136 : rkm 136 = 0 := by decide +kernel
theorem ml_136 : (mth 136).2.1 = 4 := by decide +kernel
set_option maxRecDepth 100000 in
theorem T_X_leaks (k0 i0 x1 : Int) (σ : ST) (Q : Option AV → ST → Prop) (h :
  wpM m_World_isRoom [.inr (.inr (12, 0, 0)), .inl x1] σ (asI fun r101 s101 =>
  (((r101 ≠ 0 : Prop) →
    wp m_X_leaks (17, [some (.inr (.inr (0, k0, i0))), some (.inl x1), some (.inl 0), some (.inl 0)], [], s101) Q) ∧
  (¬ (r101 ≠ 0) →
    Q (some (.inl (-1))) s101)))) :
  wpM m_X_leaks [.inr (.inr (0, k0, i0)), .inl x1] σ Q :=
 wpM_of ml_136 (L := [some (.inr (.inr (0, k0, i0))), some (.inl x1), none, none]) rfl
 (w_aload_n (p' := 1) f_136_0 rfl rfl
 (w_getfield (p' := 4) f_136_1 rfl (x := .inr (.inr (12, 0, 0))) rfl rfl
 (w_iload_n (p' := 5) f_136_4 rfl rfl
 (w_callV (p' := 8) f_136_5 rfl rfl rfl rfl rfl (r := []) rfl rfl (kI (.inr rk_37) fun r101 s101 h101 =>
 w_if (p' := 13) (q' := 11) f_136_8 rfl rfl
 (fun c102 => w_iconst (p' := 14) f_136_13 rfl
 (w_istore_n (p' := 15) f_136_14 (L' := [some (.inr (.inr (0, k0, i0))), some (.inl x1), some (.inl 0), none]) rfl rfl
 (w_iconst (p' := 16) f_136_15 rfl
 (w_istore_n (p' := 17) f_136_16 (L' := [some (.inr (.inr (0, k0, i0))), some (.inl x1), some (.inl 0), some (.inl 0)]) rfl rfl
 ((h101.1 c102))))))
 (fun c102 => w_iconst (p' := 12) f_136_11 rfl
 (w_iret f_136_12 rk_136 (h101.2 c102)))) h))))
set_option maxRecDepth 100000 in
theorem T_X_leaks_17 (k0 i0 x1 x2 x3 : Int) (σ : ST) (Q : Option AV → ST → Prop) (h :
  ((((σ 12 0 0 1) ≤ x3 : Prop) →
    Q (some (.inl x2)) σ) ∧
  (¬ ((σ 12 0 0 1) ≤ x3) →
    wpM m_World_isCore [.inr (.inr (12, 0, 0)), .inl x3] σ (asI fun r101 s101 =>
    (((r101 = 0 : Prop) →
      wp m_X_leaks (17, [some (.inr (.inr (0, k0, i0))), some (.inl x1), some (.inl x2), some (.inl (wr (x3 + 1)))], [], s101) Q) ∧
    (¬ (r101 = 0) →
      ((0 : Int) ≤ x3 ∧ (x3 : Int) < 3) ∧
      ((((s101 21 0 x3 1) ≠ x1 : Prop) →
        wp m_X_leaks (17, [some (.inr (.inr (0, k0, i0))), some (.inl x1), some (.inl x2), some (.inl (wr (x3 + 1)))], [], s101) Q) ∧
      (¬ ((s101 21 0 x3 1) ≠ x1) →
        ((0 : Int) ≤ x3 ∧ (x3 : Int) < 3) ∧
        wpM m_World_leaksOf [.inr (.inr (12, 0, 0)), .inr (.inr (21, 0, x3))] s101 (asI fun r102 s102 =>
        wp m_X_leaks (17, [some (.inr (.inr (0, k0, i0))), some (.inl x1), some (.inl (i_or x2 r102)), some (.inl (wr (x3 + 1)))], [], s102) Q))))))))) :
  wp m_X_leaks (17, [some (.inr (.inr (0, k0, i0))), some (.inl x1), some (.inl x2), some (.inl x3)], [], σ) Q :=
 w_iload_n (p' := 18) f_136_17 rfl rfl
 (w_aload_n (p' := 19) f_136_18 rfl rfl
 (w_getfield (p' := 22) f_136_19 rfl (x := .inr (.inr (12, 0, 0))) rfl rfl
 (w_getfield (p' := 25) f_136_22 rfl (x := .inl (σ 12 0 0 1)) rfl rfl
 (w_icmp (p' := 80) (q' := 28) f_136_25 rfl rfl
 (fun c105 => w_iload_n (p' := 81) f_136_80 rfl rfl
 (w_iret f_136_81 rk_136 (h.1 c105)))
 (fun c105 => w_aload_n (p' := 29) f_136_28 rfl rfl
 (w_getfield (p' := 32) f_136_29 rfl (x := .inr (.inr (12, 0, 0))) rfl rfl
 (w_iload_n (p' := 33) f_136_32 rfl rfl
 (w_callV (p' := 36) f_136_33 rfl rfl rfl rfl rfl (r := []) rfl rfl (kI (.inr rk_40) fun r101 s101 h101 =>
 w_if (p' := 74) (q' := 39) f_136_36 rfl rfl
 (fun c104 => w_iinc (p' := 77) f_136_74 rfl (L' := [some (.inr (.inr (0, k0, i0))), some (.inl x1), some (.inl x2), some (.inl (wr (x3 + 1)))]) rfl rfl
 (w_goto (p' := 17) f_136_77 rfl
 ((h101.1 c104))))
 (fun c104 => w_aload_n (p' := 40) f_136_39 rfl rfl
 (w_getfield (p' := 43) f_136_40 rfl (x := .inr (.inr (12, 0, 0))) rfl rfl
 (w_getfield (p' := 46) f_136_43 rfl (x := .inr (.inr (20, 0, 0))) rfl rfl
 (w_iload_n (p' := 47) f_136_46 rfl rfl
 (w_aaload (p' := 48) f_136_47 rfl (n := 3) rfl (x := (21, 0, x3)) rfl (h101.2 c104).1 rfl
 (w_getfield (p' := 51) f_136_48 rfl (x := .inl (s101 21 0 x3 1)) rfl rfl
 (w_iload_n (p' := 52) f_136_51 rfl rfl
 (w_icmp (p' := 74) (q' := 55) f_136_52 rfl rfl
 (fun c103 => w_iinc (p' := 77) f_136_74 rfl (L' := [some (.inr (.inr (0, k0, i0))), some (.inl x1), some (.inl x2), some (.inl (wr (x3 + 1)))]) rfl rfl
 (w_goto (p' := 17) f_136_77 rfl
 (((h101.2 c104).2.1 c103))))
 (fun c103 => w_iload_n (p' := 56) f_136_55 rfl rfl
 (w_aload_n (p' := 57) f_136_56 rfl rfl
 (w_getfield (p' := 60) f_136_57 rfl (x := .inr (.inr (12, 0, 0))) rfl rfl
 (w_aload_n (p' := 61) f_136_60 rfl rfl
 (w_getfield (p' := 64) f_136_61 rfl (x := .inr (.inr (12, 0, 0))) rfl rfl
 (w_getfield (p' := 67) f_136_64 rfl (x := .inr (.inr (20, 0, 0))) rfl rfl
 (w_iload_n (p' := 68) f_136_67 rfl rfl
 (w_aaload (p' := 69) f_136_68 rfl (n := 3) rfl (x := (21, 0, x3)) rfl ((h101.2 c104).2.2 c103).1 rfl
 (w_callV (p' := 72) f_136_69 rfl rfl rfl rfl rfl (r := [.inl x2]) rfl rfl (kI (.inl rk_135) fun r102 s102 h102 =>
 w_ior (p' := 73) f_136_72 rfl
 (w_istore_n (p' := 74) f_136_73 (L' := [some (.inr (.inr (0, k0, i0))), some (.inl x1), some (.inl (i_or x2 r102)), some (.inl x3)]) rfl rfl
 (w_iinc (p' := 77) f_136_74 rfl (L' := [some (.inr (.inr (0, k0, i0))), some (.inl x1), some (.inl (i_or x2 r102)), some (.inl (wr (x3 + 1)))]) rfl rfl
 (w_goto (p' := 17) f_136_77 rfl
 (h102))))) ((h101.2 c104).2.2 c103).2)))))))))))))))))) (h.2 c105)))))))))
/-! ClosedRooms.lies(I)I -/
theorem f_137_0 : fnd 137 0 = some (0, .aload_n 0, 1, 0, 0, 0, 0) := ceB_eq (by decide +kernel)
theorem f_137_1 : fnd 137 1 = some (1, .getfield 45, 3, 0, 6, 6, 0) := ceB_eq (by decide +kernel)
theorem f_137_4 : fnd 137 4 = some (4, .iload_n 1, 1, 0, 0, 0, 0) := ceB_eq (by decide +kernel)
theorem f_137_5 : fnd 137 5 = some (5, .invokevirtual 151, 3, 37, 2, 4, 0) := ceB_eq (by decide +kernel)
theorem f_137_8 : fnd 137 8 = some (8, .ifCond .ne 5, 3, 0, 0, 0, 0) := ceB_eq (by decide +kernel)
theorem f_137_11 : fnd 137 11 = some (11, .iconst (-1), 1, 0, 0, 0, 0) := ceB_eq (by decide +kernel)
theorem f_137_12 : fnd 137 12 = some (12, .ireturn, 1, 0, 0, 0, 0) := ceB_eq (by decide +kernel)
theorem f_137_13 : fnd 137 13 = some (13, .aload_n 0, 1, 0, 0, 0, 0) := ceB_eq (by decide +kernel)
theorem f_137_14 : fnd 137 14 = some (14, .getfield 45, 3, 0, 6, 6, 0) := ceB_eq (by decide +kernel)
theorem f_137_17 : fnd 137 17 = some (17, .getfield 161, 3, 4, 6, 6, 0) := ceB_eq (by decide +kernel)
theorem f_137_20 : fnd 137 20 = some (20, .iload_n 1, 1, 0, 0, 0, 0) := ceB_eq (by decide +kernel)
theorem f_137_21 : fnd 137 21 = some (21, .aaload, 1, 0, 0, 0, 0) := ceB_eq (by decide +kernel)
theorem f_137_22 : fnd 137 22 = some (22, .astore_n 2, 1, 0, 0, 0, 0) := ceB_eq (by decide +kernel)
theorem f_137_23 : fnd 137 23 = some (23, .iconst 0, 1, 0, 0, 0, 0) := ceB_eq (by decide +kernel)
theorem f_137_24 : fnd 137 24 = some (24, .istore_n 3, 1, 0, 0, 0, 0) := ceB_eq (by decide +kernel)
theorem f_137_25 : fnd 137 25 = some (25, .iconst 0, 1, 0, 0, 0, 0) := ceB_eq (by decide +kernel)
theorem f_137_26 : fnd 137 26 = some (26, .istore 4, 2, 0, 0, 0, 0) := ceB_eq (by decide +kernel)
theorem f_137_28 : fnd 137 28 = some (28, .iload 4, 2, 0, 0, 0, 0) := ceB_eq (by decide +kernel)
theorem f_137_30 : fnd 137 30 = some (30, .bipush 8, 2, 0, 0, 0, 0) := ceB_eq (by decide +kernel)
theorem f_137_32 : fnd 137 32 = some (32, .if_icmp .ge 56, 3, 0, 0, 0, 0) := ceB_eq (by decide +kernel)
theorem f_137_35 : fnd 137 35 = some (35, .aload_n 2, 1, 0, 0, 0, 0) := ceB_eq (by decide +kernel)
theorem f_137_36 : fnd 137 36 = some (36, .iload 4, 2, 0, 0, 0, 0) := ceB_eq (by decide +kernel)
theorem f_137_38 : fnd 137 38 = some (38, .invokevirtual 193, 3, 38, 2, 7, 0) := ceB_eq (by decide +kernel)
theorem f_137_41 : fnd 137 41 = some (41, .ifCond .eq 41, 3, 0, 0, 0, 0) := ceB_eq (by decide +kernel)
theorem f_137_44 : fnd 137 44 = some (44, .aload_n 2, 1, 0, 0, 0, 0) := ceB_eq (by decide +kernel)
theorem f_137_45 : fnd 137 45 = some (45, .getfield 196, 3, 7, 8, 8, 0) := ceB_eq (by decide +kernel)
theorem f_137_48 : fnd 137 48 = some (48, .iload 4, 2, 0, 0, 0, 0) := ceB_eq (by decide +kernel)
theorem f_137_50 : fnd 137 50 = some (50, .iaload, 1, 0, 0, 0, 0) := ceB_eq (by decide +kernel)
theorem f_137_51 : fnd 137 51 = some (51, .iconst (-1), 1, 0, 0, 0, 0) := ceB_eq (by decide +kernel)
theorem f_137_52 : fnd 137 52 = some (52, .if_icmp .eq 30, 3, 0, 0, 0, 0) := ceB_eq (by decide +kernel)
theorem f_137_55 : fnd 137 55 = some (55, .aload_n 0, 1, 0, 0, 0, 0) := ceB_eq (by decide +kernel)
theorem f_137_56 : fnd 137 56 = some (56, .getfield 45, 3, 0, 6, 6, 0) := ceB_eq (by decide +kernel)
theorem f_137_59 : fnd 137 59 = some (59, .aload_n 2, 1, 0, 0, 0, 0) := ceB_eq (by decide +kernel)
theorem f_137_60 : fnd 137 60 = some (60, .getfield 196, 3, 7, 8, 8, 0) := ceB_eq (by decide +kernel)
theorem f_137_63 : fnd 137 63 = some (63, .iload 4, 2, 0, 0, 0, 0) := ceB_eq (by decide +kernel)
theorem f_137_65 : fnd 137 65 = some (65, .iaload, 1, 0, 0, 0, 0) := ceB_eq (by decide +kernel)
theorem f_137_66 : fnd 137 66 = some (66, .iload_n 1, 1, 0, 0, 0, 0) := ceB_eq (by decide +kernel)
theorem f_137_67 : fnd 137 67 = some (67, .iload 4, 2, 0, 0, 0, 0) := ceB_eq (by decide +kernel)
theorem f_137_69 : fnd 137 69 = some (69, .invokevirtual 310, 3, 67, 4, 4, 0) := ceB_eq (by decide +kernel)
theorem f_137_72 : fnd 137 72 = some (72, .ifCond .ne 10, 3, 0, 0, 0, 0) := ceB_eq (by decide +kernel)
theorem f_137_75 : fnd 137 75 = some (75, .iload_n 3, 1, 0, 0, 0, 0) := ceB_eq (by decide +kernel)
theorem f_137_76 : fnd 137 76 = some (76, .iconst 1, 1, 0, 0, 0, 0) := ceB_eq (by decide +kernel)
theorem f_137_77 : fnd 137 77 = some (77, .iload 4, 2, 0, 0, 0, 0) := ceB_eq (by decide +kernel)
theorem f_137_79 : fnd 137 79 = some (79, .ishl, 1, 0, 0, 0, 0) := ceB_eq (by decide +kernel)
theorem f_137_80 : fnd 137 80 = some (80, .ior, 1, 0, 0, 0, 0) := ceB_eq (by decide +kernel)
theorem f_137_81 : fnd 137 81 = some (81, .istore_n 3, 1, 0, 0, 0, 0) := ceB_eq (by decide +kernel)
theorem f_137_82 : fnd 137 82 = some (82, .iinc 4 1, 3, 0, 0, 0, 0) := ceB_eq (by decide +kernel)
theorem f_137_85 : fnd 137 85 = some (85, .goto (-57), 3, 0, 0, 0, 0) := ceB_eq (by decide +kernel)
theorem f_137_88 : fnd 137 88 = some (88, .iload_n 3, 1, 0, 0, 0, 0) := ceB_eq (by decide +kernel)
theorem f_137_89 : fnd 137 89 = some (89, .ireturn, 1, 0, 0, 0, 0) := ceB_eq (by decide +kernel)
theorem rk_137 : rkm 137 = 0 := by decide +kernel
theorem ml_137 : (mth 137).2.1 = 5 := by decide +kernel
set_option maxRecDepth 100000 in
theorem T_X_lies (k0 i0 x1 : Int) (σ : ST) (Q : Option AV → ST → Prop) (h :
  wpM m_World_isRoom [.inr (.inr (12, 0, 0)), .inl x1] σ (asI fun r101 s101 =>
  (((r101 ≠ 0 : Prop) →
    ((0 : Int) ≤ x1 ∧ (x1 : Int) < 4) ∧
    wp m_X_lies (28, [some (.inr (.inr (0, k0, i0))), some (.inl x1), some (.inr (.inr (17, 0, x1))), some (.inl 0), some (.inl 0)], [], s101) Q) ∧
  (¬ (r101 ≠ 0) →
    Q (some (.inl (-1))) s101)))) :
  wpM m_X_lies [.inr (.inr (0, k0, i0)), .inl x1] σ Q :=
 wpM_of ml_137 (L := [some (.inr (.inr (0, k0, i0))), some (.inl x1), none, none, none]) rfl
 (w_aload_n (p' := 1) f_137_0 rfl rfl
 (w_getfield (p' := 4) f_137_1 rfl (x := .inr (.inr (12, 0, 0))) rfl rfl
 (w_iload_n (p' := 5) f_137_4 rfl rfl
 (w_callV (p' := 8) f_137_5 rfl rfl rfl rfl rfl (r := []) rfl rfl (kI (.inr rk_37) fun r101 s101 h101 =>
 w_if (p' := 13) (q' := 11) f_137_8 rfl rfl
 (fun c102 => w_aload_n (p' := 14) f_137_13 rfl rfl
 (w_getfield (p' := 17) f_137_14 rfl (x := .inr (.inr (12, 0, 0))) rfl rfl
 (w_getfield (p' := 20) f_137_17 rfl (x := .inr (.inr (16, 0, 0))) rfl rfl
 (w_iload_n (p' := 21) f_137_20 rfl rfl
 (w_aaload (p' := 22) f_137_21 rfl (n := 4) rfl (x := (17, 0, x1)) rfl (h101.1 c102).1 rfl
 (w_astore_n (p' := 23) f_137_22 (L' := [some (.inr (.inr (0, k0, i0))), some (.inl x1), some (.inr (.inr (17, 0, x1))), none, none]) rfl rfl
 (w_iconst (p' := 24) f_137_23 rfl
 (w_istore_n (p' := 25) f_137_24 (L' := [some (.inr (.inr (0, k0, i0))), some (.inl x1), some (.inr (.inr (17, 0, x1))), some (.inl 0), none]) rfl rfl
 (w_iconst (p' := 26) f_137_25 rfl
 (w_istore (p' := 28) f_137_26 (L' := [some (.inr (.inr (0, k0, i0))), some (.inl x1), some (.inr (.inr (17, 0, x1))), some (.inl 0), some (.inl 0)]) rfl rfl
 ((h101.1 c102).2)))))))))))
 (fun c102 => w_iconst (p' := 12) f_137_11 rfl
 (w_iret f_137_12 rk_137 (h101.2 c102)))) h))))
set_option maxRecDepth 100000 in
theorem T_X_lies_28 (k0 i0 x1 k2 i2 x3 x4 : Int) (σ : ST) (Q : Option AV → ST → Prop) (h :
  (((8 ≤ x4 : Prop) →
    Q (some (.inl x3)) σ) ∧
  (¬ (8 ≤ x4) →
    wpM m_Room_hasAddress [.inr (.inr (17, k2, i2)), .inl x4] σ (asI fun r101 s101 =>
    (((r101 = 0 : Prop) →
      wp m_X_lies (28, [some (.inr (.inr (0, k0, i0))), some (.inl x1), some (.inr (.inr (17, k2, i2))), some (.inl x3), some (.inl (wr (x4 + 1)))], [], s101) Q) ∧
    (¬ (r101 = 0) →
      ((0 : Int) ≤ x4 ∧ (x4 : Int) < 8) ∧
      ((((s101 19 k2 i2 x4) = (-1) : Prop) →
        wp m_X_lies (28, [some (.inr (.inr (0, k0, i0))), some (.inl x1), some (.inr (.inr (17, k2, i2))), some (.inl x3), some (.inl (wr (x4 + 1)))], [], s101) Q) ∧
      (¬ ((s101 19 k2 i2 x4) = (-1)) →
        ((0 : Int) ≤ x4 ∧ (x4 : Int) < 8) ∧
        wpM m_World_isPageOf [.inr (.inr (12, 0, 0)), .inl (s101 19 k2 i2 x4), .inl x1, .inl x4] s101 (asI fun r102 s102 =>
        (((r102 ≠ 0 : Prop) →
          wp m_X_lies (28, [some (.inr (.inr (0, k0, i0))), some (.inl x1), some (.inr (.inr (17, k2, i2))), some (.inl x3), some (.inl (wr (x4 + 1)))], [], s102) Q) ∧
        (¬ (r102 ≠ 0) →
          wp m_X_lies (28, [some (.inr (.inr (0, k0, i0))), some (.inl x1), some (.inr (.inr (17, k2, i2))), some (.inl (i_or x3 (i_shl 1 x4))), some (.inl (wr (x4 + 1)))], [], s102) Q))))))))))) :
  wp m_X_lies (28, [some (.inr (.inr (0, k0, i0))), some (.inl x1), some (.inr (.inr (17, k2, i2))), some (.inl x3), some (.inl x4)], [], σ) Q :=
 w_iload (p' := 30) f_137_28 rfl rfl
 (w_bipush (p' := 32) f_137_30 rfl
 (w_icmp (p' := 88) (q' := 35) f_137_32 rfl rfl
 (fun c106 => w_iload_n (p' := 89) f_137_88 rfl rfl
 (w_iret f_137_89 rk_137 (h.1 c106)))
 (fun c106 => w_aload_n (p' := 36) f_137_35 rfl rfl
 (w_iload (p' := 38) f_137_36 rfl rfl
 (w_callV (p' := 41) f_137_38 rfl rfl rfl rfl rfl (r := []) rfl rfl (kI (.inr rk_38) fun r101 s101 h101 =>
 w_if (p' := 82) (q' := 44) f_137_41 rfl rfl
 (fun c105 => w_iinc (p' := 85) f_137_82 rfl (L' := [some (.inr (.inr (0, k0, i0))), some (.inl x1), some (.inr (.inr (17, k2, i2))), some (.inl x3), some (.inl (wr (x4 + 1)))]) rfl rfl
 (w_goto (p' := 28) f_137_85 rfl
 ((h101.1 c105))))
 (fun c105 => w_aload_n (p' := 45) f_137_44 rfl rfl
 (w_getfield (p' := 48) f_137_45 rfl (x := .inr (.inr (19, k2, i2))) rfl rfl
 (w_iload (p' := 50) f_137_48 rfl rfl
 (w_iaload (p' := 51) f_137_50 rfl (n := 8) rfl (h101.2 c105).1 rfl
 (w_iconst (p' := 52) f_137_51 rfl
 (w_icmp (p' := 82) (q' := 55) f_137_52 rfl rfl
 (fun c104 => w_iinc (p' := 85) f_137_82 rfl (L' := [some (.inr (.inr (0, k0, i0))), some (.inl x1), some (.inr (.inr (17, k2, i2))), some (.inl x3), some (.inl (wr (x4 + 1)))]) rfl rfl
 (w_goto (p' := 28) f_137_85 rfl
 (((h101.2 c105).2.1 c104))))
 (fun c104 => w_aload_n (p' := 56) f_137_55 rfl rfl
 (w_getfield (p' := 59) f_137_56 rfl (x := .inr (.inr (12, 0, 0))) rfl rfl
 (w_aload_n (p' := 60) f_137_59 rfl rfl
 (w_getfield (p' := 63) f_137_60 rfl (x := .inr (.inr (19, k2, i2))) rfl rfl
 (w_iload (p' := 65) f_137_63 rfl rfl
 (w_iaload (p' := 66) f_137_65 rfl (n := 8) rfl ((h101.2 c105).2.2 c104).1 rfl
 (w_iload_n (p' := 67) f_137_66 rfl rfl
 (w_iload (p' := 69) f_137_67 rfl rfl
 (w_callV (p' := 72) f_137_69 rfl rfl rfl rfl rfl (r := []) rfl rfl (kI (.inr rk_67) fun r102 s102 h102 =>
 w_if (p' := 82) (q' := 75) f_137_72 rfl rfl
 (fun c103 => w_iinc (p' := 85) f_137_82 rfl (L' := [some (.inr (.inr (0, k0, i0))), some (.inl x1), some (.inr (.inr (17, k2, i2))), some (.inl x3), some (.inl (wr (x4 + 1)))]) rfl rfl
 (w_goto (p' := 28) f_137_85 rfl
 ((h102.1 c103))))
 (fun c103 => w_iload_n (p' := 76) f_137_75 rfl rfl
 (w_iconst (p' := 77) f_137_76 rfl
 (w_iload (p' := 79) f_137_77 rfl rfl
 (w_ishl (p' := 80) f_137_79 rfl
 (w_ior (p' := 81) f_137_80 rfl
 (w_istore_n (p' := 82) f_137_81 (L' := [some (.inr (.inr (0, k0, i0))), some (.inl x1), some (.inr (.inr (17, k2, i2))), some (.inl (i_or x3 (i_shl 1 x4))), some (.inl x4)]) rfl rfl
 (w_iinc (p' := 85) f_137_82 rfl (L' := [some (.inr (.inr (0, k0, i0))), some (.inl x1), some (.inr (.inr (17, k2, i2))), some (.inl (i_or x3 (i_shl 1 x4))), some (.inl (wr (x4 + 1)))]) rfl rfl
 (w_goto (p' := 28) f_137_85 rfl
 ((h102.2 c103))))))))))) ((h101.2 c105).2.2 c104).2)))))))))))))))) (h.2 c106))))))
/-! ClosedRooms.victimOf(I)I -/
theorem f_138_0 : fnd 138 0 = some (0, .iconst 0, 1, 0, 0, 0, 0) := ceB_eq (by decide +kernel)
theorem f_138_1 : fnd 138 1 = some (1, .istore_n 2, 1, 0, 0, 0, 0) := ceB_eq (by decide +kernel)
theorem f_138_2 : fnd 138 2 = some (2, .iload_n 2, 1, 0, 0, 0, 0) := ceB_eq (by decide +kernel)
theorem f_138_3 : fnd 138 3 = some (3, .aload_n 0, 1, 0, 0, 0, 0) := ceB_eq (by decide +kernel)
theorem f_138_4 : fnd 138 4 = some (4, .getfield 45, 3, 0, 6, 6, 0) := ceB_eq (by decide +kernel)
theorem f_138_7 : fnd 138 7 = some (7, .getfield 316, 3, 4, 0, 0, 0) := ceB_eq (by decide +kernel)
theorem f_138_10 : fnd 138 10 = some (10, .if_icmp .ge 49, 3, 0, 0, 0, 0) := ceB_eq (by decide +kernel)
theorem f_138_13 : fnd 138 13 = some (13, .aload_n 0, 1, 0, 0, 0, 0) := ceB_eq (by decide +kernel)
theorem f_138_14 : fnd 138 14 = some (14, .getfield 45, 3, 0, 6, 6, 0) := ceB_eq (by decide +kernel)
theorem f_138_17 : fnd 138 17 = some (17, .iload_n 2, 1, 0, 0, 0, 0) := ceB_eq (by decide +kernel)
theorem f_138_18 : fnd 138 18 = some (18, .invokevirtual 112, 3, 32, 2, 4, 0) := ceB_eq (by decide +kernel)
theorem f_138_21 : fnd 138 21 = some (21, .ifCond .eq 32, 3, 0, 0, 0, 0) := ceB_eq (by decide +kernel)
theorem f_138_24 : fnd 138 24 = some (24, .aload_n 0, 1, 0, 0, 0, 0) := ceB_eq (by decide +kernel)
theorem f_138_25 : fnd 138 25 = some (25, .getfield 45, 3, 0, 6, 6, 0) := ceB_eq (by decide +kernel)
theorem f_138_28 : fnd 138 28 = some (28, .getfield 117, 3, 4, 5, 5, 0) := ceB_eq (by decide +kernel)
theorem f_138_31 : fnd 138 31 = some (31, .iload_n 2, 1, 0, 0, 0, 0) := ceB_eq (by decide +kernel)
theorem f_138_32 : fnd 138 32 = some (32, .aaload, 1, 0, 0, 0, 0) := ceB_eq (by decide +kernel)
theorem f_138_33 : fnd 138 33 = some (33, .getfield 121, 3, 6, 0, 0, 0) := ceB_eq (by decide +kernel)
theorem f_138_36 : fnd 138 36 = some (36, .iload_n 1, 1, 0, 0, 0, 0) := ceB_eq (by decide +kernel)
theorem f_138_37 : fnd 138 37 = some (37, .if_icmp .ne 16, 3, 0, 0, 0, 0) := ceB_eq (by decide +kernel)
theorem f_138_40 : fnd 138 40 = some (40, .aload_n 0, 1, 0, 0, 0, 0) := ceB_eq (by decide +kernel)
theorem f_138_41 : fnd 138 41 = some (41, .getfield 45, 3, 0, 6, 6, 0) := ceB_eq (by decide +kernel)
theorem f_138_44 : fnd 138 44 = some (44, .iload_n 2, 1, 0, 0, 0, 0) := ceB_eq (by decide +kernel)
theorem f_138_45 : fnd 138 45 = some (45, .invokevirtual 319, 3, 83, 2, 4, 0) := ceB_eq (by decide +kernel)
theorem f_138_48 : fnd 138 48 = some (48, .ifCond .eq 5, 3, 0, 0, 0, 0) := ceB_eq (by decide +kernel)
theorem f_138_51 : fnd 138 51 = some (51, .iload_n 2, 1, 0, 0, 0, 0) := ceB_eq (by decide +kernel)
theorem f_138_52 : fnd 138 52 = some (52, .ireturn, 1, 0, 0, 0, 0) := ceB_eq (by decide +kernel)
theorem f_138_53 : fnd 138 53 = some (53, .iinc 2 1, 3, 0, 0, 0, 0) := ceB_eq (by decide +kernel)
theorem f_138_56 : fnd 138 56 = some (56, .goto (-54), 3, 0, 0, 0, 0) := ceB_eq (by decide +kernel)
theorem f_138_59 : fnd 138 59 = some (59, .iconst (-1), 1, 0, 0, 0, 0) := ceB_eq (by decide +kernel)
theorem f_138_60 : fnd 138 60 = some (60, .ireturn, 1, 0, 0, 0, 0) := ceB_eq (by decide +kernel)
theorem rk_138 : rkm 138 = 0 := by decide +kernel
theorem ml_138 : (mth 138).2.1 = 3 := by decide +kernel
set_option maxRecDepth 100000 in
theorem T_X_victimOf (k0 i0 x1 : Int) (σ : ST) (Q : Option AV → ST → Prop) (h :
  wp m_X_victimOf (2, [some (.inr (.inr (0, k0, i0))), some (.inl x1), some (.inl 0)], [], σ) Q) :
  wpM m_X_victimOf [.inr (.inr (0, k0, i0)), .inl x1] σ Q :=
 wpM_of ml_138 (L := [some (.inr (.inr (0, k0, i0))), some (.inl x1), none]) rfl
 (w_iconst (p' := 1) f_138_0 rfl
 (w_istore_n (p' := 2) f_138_1 (L' := [some (.inr (.inr (0, k0, i0))), some (.inl x1), some (.inl 0)]) rfl rfl
 (h)))
set_option maxRecDepth 100000 in
theorem T_X_victimOf_2 (k0 i0 x1 x2 : Int) (σ : ST) (Q : Option AV → ST → Prop) (h :
  ((((σ 12 0 0 0) ≤ x2 : Prop) →
    Q (some (.inl (-1))) σ) ∧
  (¬ ((σ 12 0 0 0) ≤ x2) →
    wpM m_World_isPage [.inr (.inr (12, 0, 0)), .inl x2] σ (asI fun r101 s101 =>
    (((r101 = 0 : Prop) →
      wp m_X_victimOf (2, [some (.inr (.inr (0, k0, i0))), some (.inl x1), some (.inl (wr (x2 + 1)))], [], s101) Q) ∧
    (¬ (r101 = 0) →
      ((0 : Int) ≤ x2 ∧ (x2 : Int) < 10) ∧
      ((((s101 14 0 x2 0) ≠ x1 : Prop) →
        wp m_X_victimOf (2, [some (.inr (.inr (0, k0, i0))), some (.inl x1), some (.inl (wr (x2 + 1)))], [], s101) Q) ∧
      (¬ ((s101 14 0 x2 0) ≠ x1) →
        wpM m_World_canGo [.inr (.inr (12, 0, 0)), .inl x2] s101 (asI fun r102 s102 =>
        (((r102 = 0 : Prop) →
          wp m_X_victimOf (2, [some (.inr (.inr (0, k0, i0))), some (.inl x1), some (.inl (wr (x2 + 1)))], [], s102) Q) ∧
        (¬ (r102 = 0) →
          Q (some (.inl x2)) s102))))))))))) :
  wp m_X_victimOf (2, [some (.inr (.inr (0, k0, i0))), some (.inl x1), some (.inl x2)], [], σ) Q :=
 w_iload_n (p' := 3) f_138_2 rfl rfl
 (w_aload_n (p' := 4) f_138_3 rfl rfl
 (w_getfield (p' := 7) f_138_4 rfl (x := .inr (.inr (12, 0, 0))) rfl rfl
 (w_getfield (p' := 10) f_138_7 rfl (x := .inl (σ 12 0 0 0)) rfl rfl
 (w_icmp (p' := 59) (q' := 13) f_138_10 rfl rfl
 (fun c106 => w_iconst (p' := 60) f_138_59 rfl
 (w_iret f_138_60 rk_138 (h.1 c106)))
 (fun c106 => w_aload_n (p' := 14) f_138_13 rfl rfl
 (w_getfield (p' := 17) f_138_14 rfl (x := .inr (.inr (12, 0, 0))) rfl rfl
 (w_iload_n (p' := 18) f_138_17 rfl rfl
 (w_callV (p' := 21) f_138_18 rfl rfl rfl rfl rfl (r := []) rfl rfl (kI (.inr rk_32) fun r101 s101 h101 =>
 w_if (p' := 53) (q' := 24) f_138_21 rfl rfl
 (fun c105 => w_iinc (p' := 56) f_138_53 rfl (L' := [some (.inr (.inr (0, k0, i0))), some (.inl x1), some (.inl (wr (x2 + 1)))]) rfl rfl
 (w_goto (p' := 2) f_138_56 rfl
 ((h101.1 c105))))
 (fun c105 => w_aload_n (p' := 25) f_138_24 rfl rfl
 (w_getfield (p' := 28) f_138_25 rfl (x := .inr (.inr (12, 0, 0))) rfl rfl
 (w_getfield (p' := 31) f_138_28 rfl (x := .inr (.inr (13, 0, 0))) rfl rfl
 (w_iload_n (p' := 32) f_138_31 rfl rfl
 (w_aaload (p' := 33) f_138_32 rfl (n := 10) rfl (x := (14, 0, x2)) rfl (h101.2 c105).1 rfl
 (w_getfield (p' := 36) f_138_33 rfl (x := .inl (s101 14 0 x2 0)) rfl rfl
 (w_iload_n (p' := 37) f_138_36 rfl rfl
 (w_icmp (p' := 53) (q' := 40) f_138_37 rfl rfl
 (fun c104 => w_iinc (p' := 56) f_138_53 rfl (L' := [some (.inr (.inr (0, k0, i0))), some (.inl x1), some (.inl (wr (x2 + 1)))]) rfl rfl
 (w_goto (p' := 2) f_138_56 rfl
 (((h101.2 c105).2.1 c104))))
 (fun c104 => w_aload_n (p' := 41) f_138_40 rfl rfl
 (w_getfield (p' := 44) f_138_41 rfl (x := .inr (.inr (12, 0, 0))) rfl rfl
 (w_iload_n (p' := 45) f_138_44 rfl rfl
 (w_callV (p' := 48) f_138_45 rfl rfl rfl rfl rfl (r := []) rfl rfl (kI (.inr rk_83) fun r102 s102 h102 =>
 w_if (p' := 53) (q' := 51) f_138_48 rfl rfl
 (fun c103 => w_iinc (p' := 56) f_138_53 rfl (L' := [some (.inr (.inr (0, k0, i0))), some (.inl x1), some (.inl (wr (x2 + 1)))]) rfl rfl
 (w_goto (p' := 2) f_138_56 rfl
 ((h102.1 c103))))
 (fun c103 => w_iload_n (p' := 52) f_138_51 rfl rfl
 (w_iret f_138_52 rk_138 (h102.2 c103)))) ((h101.2 c105).2.2 c104)))))))))))))) (h.2 c106)))))))))
/-! ClosedRooms.victim()I -/
theorem f_139_0 : fnd 139 0 = some (0, .aload_n 0, 1, 0, 0, 0, 0) := ceB_eq (by decide +kernel)
theorem f_139_1 : fnd 139 1 = some (1, .iconst 2, 1, 0, 0, 0, 0) := ceB_eq (by decide +kernel)
theorem f_139_2 : fnd 139 2 = some (2, .invokevirtual 313, 3, 138, 2, 0, 0) := ceB_eq (by decide +kernel)
theorem f_139_5 : fnd 139 5 = some (5, .istore_n 1, 1, 0, 0, 0, 0) := ceB_eq (by decide +kernel)
theorem f_139_6 : fnd 139 6 = some (6, .iload_n 1, 1, 0, 0, 0, 0) := ceB_eq (by decide +kernel)
theorem f_139_7 : fnd 139 7 = some (7, .iconst (-1), 1, 0, 0, 0, 0) := ceB_eq (by decide +kernel)
theorem f_139_8 : fnd 139 8 = some (8, .if_icmp .ne 9, 3, 0, 0, 0, 0) := ceB_eq (by decide +kernel)
theorem f_139_11 : fnd 139 11 = some (11, .aload_n 0, 1, 0, 0, 0, 0) := ceB_eq (by decide +kernel)
theorem f_139_12 : fnd 139 12 = some (12, .iconst 3, 1, 0, 0, 0, 0) := ceB_eq (by decide +kernel)
theorem f_139_13 : fnd 139 13 = some (13, .invokevirtual 313, 3, 138, 2, 0, 0) := ceB_eq (by decide +kernel)
theorem f_139_16 : fnd 139 16 = some (16, .istore_n 1, 1, 0, 0, 0, 0) := ceB_eq (by decide +kernel)
theorem f_139_17 : fnd 139 17 = some (17, .iload_n 1, 1, 0, 0, 0, 0) := ceB_eq (by decide +kernel)
theorem f_139_18 : fnd 139 18 = some (18, .iconst (-1), 1, 0, 0, 0, 0) := ceB_eq (by decide +kernel)
theorem f_139_19 : fnd 139 19 = some (19, .if_icmp .ne 9, 3, 0, 0, 0, 0) := ceB_eq (by decide +kernel)
theorem f_139_22 : fnd 139 22 = some (22, .aload_n 0, 1, 0, 0, 0, 0) := ceB_eq (by decide +kernel)
theorem f_139_23 : fnd 139 23 = some (23, .iconst 1, 1, 0, 0, 0, 0) := ceB_eq (by decide +kernel)
theorem f_139_24 : fnd 139 24 = some (24, .invokevirtual 313, 3, 138, 2, 0, 0) := ceB_eq (by decide +kernel)
theorem f_139_27 : fnd 139 27 = some (27, .istore_n 1, 1, 0, 0, 0, 0) := ceB_eq (by decide +kernel)
theorem f_139_28 : fnd 139 28 = some (28, .iload_n 1, 1, 0, 0, 0, 0) := ceB_eq (by decide +kernel)
theorem f_139_29 : fnd 139 29 = some (29, .ireturn, 1, 0, 0, 0, 0) := ceB_eq (by decide +kernel)
theorem rk_139 : rkm 139 = 0 := by decide +kernel
theorem ml_139 : (mth 139).2.1 = 2 := by decide +kernel
set_option maxRecDepth 100000 in
theorem T_X_victim (k0 i0 : Int) (σ : ST) (Q : Option AV → ST → Prop) (h :
  wpM m_X_victimOf [.inr (.inr (0, k0, i0)), .inl 2] σ (asI fun r101 s101 =>
  (((r101 ≠ (-1) : Prop) →
    wp m_X_victim (17, [some (.inr (.inr (0, k0, i0))), some (.inl r101)], [], s101) Q) ∧
  (¬ (r101 ≠ (-1)) →
    wpM m_X_victimOf [.inr (.inr (0, k0, i0)), .inl 3] s101 (asI fun r102 s102 =>
    wp m_X_victim (17, [some (.inr (.inr (0, k0, i0))), some (.inl r102)], [], s102) Q))))) :
  wpM m_X_victim [.inr (.inr (0, k0, i0))] σ Q :=
 wpM_of ml_139 (L := [some (.inr (.inr (0, k0, i0))), none]) rfl
 (w_aload_n (p' := 1) f_139_0 rfl rfl
 (w_iconst (p' := 2) f_139_1 rfl
 (w_callV (p' := 5) f_139_2 rfl rfl rfl rfl rfl (r := []) rfl rfl (kI (.inl rk_138) fun r101 s101 h101 =>
 w_istore_n (p' := 6) f_139_5 (L' := [some (.inr (.inr (0, k0, i0))), some (.inl r101)]) rfl rfl
 (w_iload_n (p' := 7) f_139_6 rfl rfl
 (w_iconst (p' := 8) f_139_7 rfl
 (w_icmp (p' := 17) (q' := 11) f_139_8 rfl rfl
 (fun c103 => (h101.1 c103))
 (fun c103 => w_aload_n (p' := 12) f_139_11 rfl rfl
 (w_iconst (p' := 13) f_139_12 rfl
 (w_callV (p' := 16) f_139_13 rfl rfl rfl rfl rfl (r := []) rfl rfl (kI (.inl rk_138) fun r102 s102 h102 =>
 w_istore_n (p' := 17) f_139_16 (L' := [some (.inr (.inr (0, k0, i0))), some (.inl r102)]) rfl rfl
 (h102)) (h101.2 c103)))))))) h)))
set_option maxRecDepth 100000 in
theorem T_X_victim_17 (k0 i0 x1 : Int) (σ : ST) (Q : Option AV → ST → Prop) (h :
  (((x1 ≠ (-1) : Prop) →
    Q (some (.inl x1)) σ) ∧
  (¬ (x1 ≠ (-1)) →
    wpM m_X_victimOf [.inr (.inr (0, k0, i0)), .inl 1] σ (asI fun r101 s101 =>
    Q (some (.inl r101)) s101)))) :
  wp m_X_victim (17, [some (.inr (.inr (0, k0, i0))), some (.inl x1)], [], σ) Q :=
 w_iload_n (p' := 18) f_139_17 rfl rfl
 (w_iconst (p' := 19) f_139_18 rfl
 (w_icmp (p' := 28) (q' := 22) f_139_19 rfl rfl
 (fun c102 => w_iload_n (p' := 29) f_139_28 rfl rfl
 (w_iret f_139_29 rk_139 (h.1 c102)))
 (fun c102 => w_aload_n (p' := 23) f_139_22 rfl rfl
 (w_iconst (p' := 24) f_139_23 rfl
 (w_callV (p' := 27) f_139_24 rfl rfl rfl rfl rfl (r := []) rfl rfl (kI (.inl rk_138) fun r101 s101 h101 =>
 w_istore_n (p' := 28) f_139_27 (L' := [some (.inr (.inr (0, k0, i0))), some (.inl r101)]) rfl rfl
 (w_iload_n (p' := 29) f_139_28 rfl rfl
 (w_iret f_139_29 rk_139 h101))) (h.2 c102))))))
/-! ClosedRooms.isScript(I)Z -/
theorem f_140_0 : fnd 140 0 = some (0, .iload_n 1, 1, 0, 0, 0, 0) := ceB_eq (by decide +kernel)
theorem f_140_1 : fnd 140 1 = some (1, .ifCond .lt 20, 3, 0, 0, 0, 0) := ceB_eq (by decide +kernel)
theorem f_140_4 : fnd 140 4 = some (4, .iload_n 1, 1, 0, 0, 0, 0) := ceB_eq (by decide +kernel)
theorem f_140_5 : fnd 140 5 = some (5, .aload_n 0, 1, 0, 0, 0, 0) := ceB_eq (by decide +kernel)
theorem f_140_6 : fnd 140 6 = some (6, .getfield 30, 3, 0, 4, 4, 0) := ceB_eq (by decide +kernel)
theorem f_140_9 : fnd 140 9 = some (9, .if_icmp .ge 12, 3, 0, 0, 0, 0) := ceB_eq (by decide +kernel)
theorem f_140_12 : fnd 140 12 = some (12, .iload_n 1, 1, 0, 0, 0, 0) := ceB_eq (by decide +kernel)
theorem f_140_13 : fnd 140 13 = some (13, .iconst 4, 1, 0, 0, 0, 0) := ceB_eq (by decide +kernel)
theorem f_140_14 : fnd 140 14 = some (14, .if_icmp .ge 7, 3, 0, 0, 0, 0) := ceB_eq (by decide +kernel)
theorem f_140_17 : fnd 140 17 = some (17, .iconst 1, 1, 0, 0, 0, 0) := ceB_eq (by decide +kernel)
theorem f_140_18 : fnd 140 18 = some (18, .goto 4, 3, 0, 0, 0, 0) := ceB_eq (by decide +kernel)
theorem f_140_21 : fnd 140 21 = some (21, .iconst 0, 1, 0, 0, 0, 0) := ceB_eq (by decide +kernel)
theorem f_140_22 : fnd 140 22 = some (22, .ireturn, 1, 0, 0, 0, 0) := ceB_eq (by decide +kernel)
theorem rk_140 : rkm 140 = 1 := by decide +kernel
theorem ml_140 : (mth 140).2.1 = 2 := by decide +kernel
set_option maxRecDepth 100000 in
theorem T_X_isScript (k0 i0 x1 : Int) (σ : ST) (Q : Option AV → ST → Prop) (h :
  (((x1 < 0 : Prop) →
    ((0 : Int) = 0 ∨ (0 : Int) = 1) ∧ Q (some (.inl 0)) σ) ∧
  (¬ (x1 < 0) →
    ((((σ 0 k0 i0 4) ≤ x1 : Prop) →
      ((0 : Int) = 0 ∨ (0 : Int) = 1) ∧ Q (some (.inl 0)) σ) ∧
    (¬ ((σ 0 k0 i0 4) ≤ x1) →
      (((4 ≤ x1 : Prop) →
        ((0 : Int) = 0 ∨ (0 : Int) = 1) ∧ Q (some (.inl 0)) σ) ∧
      (¬ (4 ≤ x1) →
        ((1 : Int) = 0 ∨ (1 : Int) = 1) ∧ Q (some (.inl 1)) σ))))))) :
  wpM m_X_isScript [.inr (.inr (0, k0, i0)), .inl x1] σ Q :=
 wpM_of ml_140 (L := [some (.inr (.inr (0, k0, i0))), some (.inl x1)]) rfl
 (w_iload_n (p' := 1) f_140_0 rfl rfl
 (w_if (p' := 21) (q' := 4) f_140_1 rfl rfl
 (fun c103 => w_iconst (p' := 22) f_140_21 rfl
 (w_zret f_140_22 rk_140 (h.1 c103).1 (h.1 c103).2))
 (fun c103 => w_iload_n (p' := 5) f_140_4 rfl rfl
 (w_aload_n (p' := 6) f_140_5 rfl rfl
 (w_getfield (p' := 9) f_140_6 rfl (x := .inl (σ 0 k0 i0 4)) rfl rfl
 (w_icmp (p' := 21) (q' := 12) f_140_9 rfl rfl
 (fun c102 => w_iconst (p' := 22) f_140_21 rfl
 (w_zret f_140_22 rk_140 ((h.2 c103).1 c102).1 ((h.2 c103).1 c102).2))
 (fun c102 => w_iload_n (p' := 13) f_140_12 rfl rfl
 (w_iconst (p' := 14) f_140_13 rfl
 (w_icmp (p' := 21) (q' := 17) f_140_14 rfl rfl
 (fun c101 => w_iconst (p' := 22) f_140_21 rfl
 (w_zret f_140_22 rk_140 (((h.2 c103).2 c102).1 c101).1 (((h.2 c103).2 c102).1 c101).2))
 (fun c101 => w_iconst (p' := 18) f_140_17 rfl
 (w_goto (p' := 22) f_140_18 rfl
 (w_zret f_140_22 rk_140 (((h.2 c103).2 c102).2 c101).1 (((h.2 c103).2 c102).2 c101).2))))))))))))
/-! ClosedRooms$Script.told(II)I -/
theorem f_141_0 : fnd 141 0 = some (0, .aload_n 0, 1, 0, 0, 0, 0) := ceB_eq (by decide +kernel)
theorem f_141_1 : fnd 141 1 = some (1, .iload_n 1, 1, 0, 0, 0, 0) := ceB_eq (by decide +kernel)
theorem f_141_2 : fnd 141 2 = some (2, .invokevirtual 25, 3, 16, 2, 2, 0) := ceB_eq (by decide +kernel)
theorem f_141_5 : fnd 141 5 = some (5, .ifCond .eq 13, 3, 0, 0, 0, 0) := ceB_eq (by decide +kernel)
theorem f_141_8 : fnd 141 8 = some (8, .iload_n 2, 1, 0, 0, 0, 0) := ceB_eq (by decide +kernel)
theorem f_141_9 : fnd 141 9 = some (9, .ifCond .lt 9, 3, 0, 0, 0, 0) := ceB_eq (by decide +kernel)
theorem f_141_12 : fnd 141 12 = some (12, .iload_n 2, 1, 0, 0, 0, 0) := ceB_eq (by decide +kernel)
theorem f_141_13 : fnd 141 13 = some (13, .bipush 6, 2, 0, 0, 0, 0) := ceB_eq (by decide +kernel)
theorem f_141_15 : fnd 141 15 = some (15, .if_icmp .lt 5, 3, 0, 0, 0, 0) := ceB_eq (by decide +kernel)
theorem f_141_18 : fnd 141 18 = some (18, .iconst (-1), 1, 0, 0, 0, 0) := ceB_eq (by decide +kernel)
theorem f_141_19 : fnd 141 19 = some (19, .ireturn, 1, 0, 0, 0, 0) := ceB_eq (by decide +kernel)
theorem f_141_20 : fnd 141 20 = some (20, .aload_n 0, 1, 0, 0, 0, 0) := ceB_eq (by decide +kernel)
theorem f_141_21 : fnd 141 21 = some (21, .getfield 15, 3, 2, 1, 1, 0) := ceB_eq (by decide +kernel)
theorem f_141_24 : fnd 141 24 = some (24, .iload_n 1, 1, 0, 0, 0, 0) := ceB_eq (by decide +kernel)
theorem f_141_25 : fnd 141 25 = some (25, .bipush 6, 2, 0, 0, 0, 0) := ceB_eq (by decide +kernel)
theorem f_141_27 : fnd 141 27 = some (27, .imul, 1, 0, 0, 0, 0) := ceB_eq (by decide +kernel)
theorem f_141_28 : fnd 141 28 = some (28, .iload_n 2, 1, 0, 0, 0, 0) := ceB_eq (by decide +kernel)
theorem f_141_29 : fnd 141 29 = some (29, .iadd, 1, 0, 0, 0, 0) := ceB_eq (by decide +kernel)
theorem f_141_30 : fnd 141 30 = some (30, .iaload, 1, 0, 0, 0, 0) := ceB_eq (by decide +kernel)
theorem f_141_31 : fnd 141 31 = some (31, .ireturn, 1, 0, 0, 0, 0) := ceB_eq (by decide +kernel)
theorem rk_141 : rkm 141 = 0 := by decide +kernel
theorem ml_141 : (mth 141).2.1 = 3 := by decide +kernel
set_option maxRecDepth 100000 in
theorem T_Script_told (k0 i0 x1 x2 : Int) (σ : ST) (Q : Option AV → ST → Prop) (h :
  wpM m_Script_hasStep [.inr (.inr (5, k0, i0)), .inl x1] σ (asI fun r101 s101 =>
  (((r101 = 0 : Prop) →
    Q (some (.inl (-1))) s101) ∧
  (¬ (r101 = 0) →
    (((x2 < 0 : Prop) →
      Q (some (.inl (-1))) s101) ∧
    (¬ (x2 < 0) →
      (((x2 < 6 : Prop) →
        ((0 : Int) ≤ (wr ((wr (x1 * 6)) + x2)) ∧ ((wr ((wr (x1 * 6)) + x2)) : Int) < 72) ∧
        Q (some (.inl (s101 6 k0 0 (wr ((wr (x1 * 6)) + x2))))) s101) ∧
      (¬ (x2 < 6) →
        Q (some (.inl (-1))) s101)))))))) :
  wpM m_Script_told [.inr (.inr (5, k0, i0)), .inl x1, .inl x2] σ Q :=
 wpM_of ml_141 (L := [some (.inr (.inr (5, k0, i0))), some (.inl x1), some (.inl x2)]) rfl
 (w_aload_n (p' := 1) f_141_0 rfl rfl
 (w_iload_n (p' := 2) f_141_1 rfl rfl
 (w_callV (p' := 5) f_141_2 rfl rfl rfl rfl rfl (r := []) rfl rfl (kI (.inr rk_16) fun r101 s101 h101 =>
 w_if (p' := 18) (q' := 8) f_141_5 rfl rfl
 (fun c104 => w_iconst (p' := 19) f_141_18 rfl
 (w_iret f_141_19 rk_141 (h101.1 c104)))
 (fun c104 => w_iload_n (p' := 9) f_141_8 rfl rfl
 (w_if (p' := 18) (q' := 12) f_141_9 rfl rfl
 (fun c103 => w_iconst (p' := 19) f_141_18 rfl
 (w_iret f_141_19 rk_141 ((h101.2 c104).1 c103)))
 (fun c103 => w_iload_n (p' := 13) f_141_12 rfl rfl
 (w_bipush (p' := 15) f_141_13 rfl
 (w_icmp (p' := 20) (q' := 18) f_141_15 rfl rfl
 (fun c102 => w_aload_n (p' := 21) f_141_20 rfl rfl
 (w_getfield (p' := 24) f_141_21 rfl (x := .inr (.inr (6, k0, 0))) rfl rfl
 (w_iload_n (p' := 25) f_141_24 rfl rfl
 (w_bipush (p' := 27) f_141_25 rfl
 (w_imul (p' := 28) f_141_27 rfl
 (w_iload_n (p' := 29) f_141_28 rfl rfl
 (w_iadd (p' := 30) f_141_29 rfl
 (w_iaload (p' := 31) f_141_30 rfl (n := 72) rfl (((h101.2 c104).2 c103).1 c102).1 rfl
 (w_iret f_141_31 rk_141 (((h101.2 c104).2 c103).1 c102).2)))))))))
 (fun c102 => w_iconst (p' := 19) f_141_18 rfl
 (w_iret f_141_19 rk_141 (((h101.2 c104).2 c103).2 c102))))))))) h)))
/-! ClosedRooms$Script.firstCreate()I -/
theorem f_142_0 : fnd 142 0 = some (0, .iconst 0, 1, 0, 0, 0, 0) := ceB_eq (by decide +kernel)
theorem f_142_1 : fnd 142 1 = some (1, .istore_n 1, 1, 0, 0, 0, 0) := ceB_eq (by decide +kernel)
theorem f_142_2 : fnd 142 2 = some (2, .iload_n 1, 1, 0, 0, 0, 0) := ceB_eq (by decide +kernel)
theorem f_142_3 : fnd 142 3 = some (3, .aload_n 0, 1, 0, 0, 0, 0) := ceB_eq (by decide +kernel)
theorem f_142_4 : fnd 142 4 = some (4, .getfield 9, 3, 2, 0, 0, 0) := ceB_eq (by decide +kernel)
theorem f_142_7 : fnd 142 7 = some (7, .if_icmp .ge 20, 3, 0, 0, 0, 0) := ceB_eq (by decide +kernel)
theorem f_142_10 : fnd 142 10 = some (10, .aload_n 0, 1, 0, 0, 0, 0) := ceB_eq (by decide +kernel)
theorem f_142_11 : fnd 142 11 = some (11, .iload_n 1, 1, 0, 0, 0, 0) := ceB_eq (by decide +kernel)
theorem f_142_12 : fnd 142 12 = some (12, .iconst 0, 1, 0, 0, 0, 0) := ceB_eq (by decide +kernel)
theorem f_142_13 : fnd 142 13 = some (13, .invokevirtual 38, 3, 141, 3, 2, 0) := ceB_eq (by decide +kernel)
theorem f_142_16 : fnd 142 16 = some (16, .ifCond .ne 5, 3, 0, 0, 0, 0) := ceB_eq (by decide +kernel)
theorem f_142_19 : fnd 142 19 = some (19, .iload_n 1, 1, 0, 0, 0, 0) := ceB_eq (by decide +kernel)
theorem f_142_20 : fnd 142 20 = some (20, .ireturn, 1, 0, 0, 0, 0) := ceB_eq (by decide +kernel)
theorem f_142_21 : fnd 142 21 = some (21, .iinc 1 1, 3, 0, 0, 0, 0) := ceB_eq (by decide +kernel)
theorem f_142_24 : fnd 142 24 = some (24, .goto (-22), 3, 0, 0, 0, 0) := ceB_eq (by decide +kernel)
theorem f_142_27 : fnd 142 27 = some (27, .iconst (-1), 1, 0, 0, 0, 0) := ceB_eq (by decide +kernel)
theorem f_142_28 : fnd 142 28 = some (28, .ireturn, 1, 0, 0, 0, 0) := ceB_eq (by decide +kernel)
theorem rk_142 : rkm 142 = 0 := by decide +kernel
theorem ml_142 : (mth 142).2.1 = 2 := by decide +kernel
set_option maxRecDepth 100000 in
theorem T_Script_firstCreate (k0 i0 : Int) (σ : ST) (Q : Option AV → ST → Prop) (h :
  wp m_Script_firstCreate (2, [some (.inr (.inr (5, k0, i0))), some (.inl 0)], [], σ) Q) :
  wpM m_Script_firstCreate [.inr (.inr (5, k0, i0))] σ Q :=
 wpM_of ml_142 (L := [some (.inr (.inr (5, k0, i0))), none]) rfl
 (w_iconst (p' := 1) f_142_0 rfl
 (w_istore_n (p' := 2) f_142_1 (L' := [some (.inr (.inr (5, k0, i0))), some (.inl 0)]) rfl rfl
 (h)))
set_option maxRecDepth 100000 in
theorem T_Script_firstCreate_2 (k0 i0 x1 : Int) (σ : ST) (Q : Option AV → ST → Prop) (h :
  ((((σ 5 k0 i0 0) ≤ x1 : Prop) →
    Q (some (.inl (-1))) σ) ∧
  (¬ ((σ 5 k0 i0 0) ≤ x1) →
    wpM m_Script_told [.inr (.inr (5, k0, i0)), .inl x1, .inl 0] σ (asI fun r101 s101 =>
    (((r101 ≠ 0 : Prop) →
      wp m_Script_firstCreate (2, [some (.inr (.inr (5, k0, i0))), some (.inl (wr (x1 + 1)))], [], s101) Q) ∧
    (¬ (r101 ≠ 0) →
      Q (some (.inl x1)) s101)))))) :
  wp m_Script_firstCreate (2, [some (.inr (.inr (5, k0, i0))), some (.inl x1)], [], σ) Q :=
 w_iload_n (p' := 3) f_142_2 rfl rfl
 (w_aload_n (p' := 4) f_142_3 rfl rfl
 (w_getfield (p' := 7) f_142_4 rfl (x := .inl (σ 5 k0 i0 0)) rfl rfl
 (w_icmp (p' := 27) (q' := 10) f_142_7 rfl rfl
 (fun c103 => w_iconst (p' := 28) f_142_27 rfl
 (w_iret f_142_28 rk_142 (h.1 c103)))
 (fun c103 => w_aload_n (p' := 11) f_142_10 rfl rfl
 (w_iload_n (p' := 12) f_142_11 rfl rfl
 (w_iconst (p' := 13) f_142_12 rfl
 (w_callV (p' := 16) f_142_13 rfl rfl rfl rfl rfl (r := []) rfl rfl (kI (.inl rk_141) fun r101 s101 h101 =>
 w_if (p' := 21) (q' := 19) f_142_16 rfl rfl
 (fun c102 => w_iinc (p' := 24) f_142_21 rfl (L' := [some (.inr (.inr (5, k0, i0))), some (.inl (wr (x1 + 1)))]) rfl rfl
 (w_goto (p' := 2) f_142_24 rfl
 ((h101.1 c102))))
 (fun c102 => w_iload_n (p' := 20) f_142_19 rfl rfl
 (w_iret f_142_20 rk_142 (h101.2 c102)))) (h.2 c103))))))))
/-! ClosedRooms$Script.valueAhead(II)I -/
theorem f_143_0 : fnd 143 0 = some (0, .iload_n 2, 1, 0, 0, 0, 0) := ceB_eq (by decide +kernel)
theorem f_143_1 : fnd 143 1 = some (1, .iconst 1, 1, 0, 0, 0, 0) := ceB_eq (by decide +kernel)
theorem f_143_2 : fnd 143 2 = some (2, .isub, 1, 0, 0, 0, 0) := ceB_eq (by decide +kernel)
theorem f_143_3 : fnd 143 3 = some (3, .istore_n 3, 1, 0, 0, 0, 0) := ceB_eq (by decide +kernel)
theorem f_143_4 : fnd 143 4 = some (4, .iload_n 3, 1, 0, 0, 0, 0) := ceB_eq (by decide +kernel)
theorem f_143_5 : fnd 143 5 = some (5, .iload_n 1, 1, 0, 0, 0, 0) := ceB_eq (by decide +kernel)
theorem f_143_6 : fnd 143 6 = some (6, .if_icmp .le 41, 3, 0, 0, 0, 0) := ceB_eq (by decide +kernel)
theorem f_143_9 : fnd 143 9 = some (9, .aload_n 0, 1, 0, 0, 0, 0) := ceB_eq (by decide +kernel)
theorem f_143_10 : fnd 143 10 = some (10, .iload_n 3, 1, 0, 0, 0, 0) := ceB_eq (by decide +kernel)
theorem f_143_11 : fnd 143 11 = some (11, .iconst 0, 1, 0, 0, 0, 0) := ceB_eq (by decide +kernel)
theorem f_143_12 : fnd 143 12 = some (12, .invokevirtual 38, 3, 141, 3, 2, 0) := ceB_eq (by decide +kernel)
theorem f_143_15 : fnd 143 15 = some (15, .iconst 2, 1, 0, 0, 0, 0) := ceB_eq (by decide +kernel)
theorem f_143_16 : fnd 143 16 = some (16, .if_icmp .ne 25, 3, 0, 0, 0, 0) := ceB_eq (by decide +kernel)
theorem f_143_19 : fnd 143 19 = some (19, .aload_n 0, 1, 0, 0, 0, 0) := ceB_eq (by decide +kernel)
theorem f_143_20 : fnd 143 20 = some (20, .iload_n 3, 1, 0, 0, 0, 0) := ceB_eq (by decide +kernel)
theorem f_143_21 : fnd 143 21 = some (21, .iconst 2, 1, 0, 0, 0, 0) := ceB_eq (by decide +kernel)
theorem f_143_22 : fnd 143 22 = some (22, .invokevirtual 38, 3, 141, 3, 2, 0) := ceB_eq (by decide +kernel)
theorem f_143_25 : fnd 143 25 = some (25, .aload_n 0, 1, 0, 0, 0, 0) := ceB_eq (by decide +kernel)
theorem f_143_26 : fnd 143 26 = some (26, .iload_n 2, 1, 0, 0, 0, 0) := ceB_eq (by decide +kernel)
theorem f_143_27 : fnd 143 27 = some (27, .iconst 2, 1, 0, 0, 0, 0) := ceB_eq (by decide +kernel)
theorem f_143_28 : fnd 143 28 = some (28, .invokevirtual 38, 3, 141, 3, 2, 0) := ceB_eq (by decide +kernel)
theorem f_143_31 : fnd 143 31 = some (31, .if_icmp .ne 10, 3, 0, 0, 0, 0) := ceB_eq (by decide +kernel)
theorem f_143_34 : fnd 143 34 = some (34, .aload_n 0, 1, 0, 0, 0, 0) := ceB_eq (by decide +kernel)
theorem f_143_35 : fnd 143 35 = some (35, .iload_n 3, 1, 0, 0, 0, 0) := ceB_eq (by decide +kernel)
theorem f_143_36 : fnd 143 36 = some (36, .iconst 5, 1, 0, 0, 0, 0) := ceB_eq (by decide +kernel)
theorem f_143_37 : fnd 143 37 = some (37, .invokevirtual 38, 3, 141, 3, 2, 0) := ceB_eq (by decide +kernel)
theorem f_143_40 : fnd 143 40 = some (40, .ireturn, 1, 0, 0, 0, 0) := ceB_eq (by decide +kernel)
theorem f_143_41 : fnd 143 41 = some (41, .iinc 3 (-1), 3, 0, 0, 0, 0) := ceB_eq (by decide +kernel)
theorem f_143_44 : fnd 143 44 = some (44, .goto (-40), 3, 0, 0, 0, 0) := ceB_eq (by decide +kernel)
theorem f_143_47 : fnd 143 47 = some (47, .iconst 0, 1, 0, 0, 0, 0) := ceB_eq (by decide +kernel)
theorem f_143_48 : fnd 143 48 = some (48, .ireturn, 1, 0, 0, 0, 0) := ceB_eq (by decide +kernel)
theorem rk_143 : rkm 143 = 0 := by decide +kernel
theorem ml_143 : (mth 143).2.1 = 4 := by decide +kernel
set_option maxRecDepth 100000 in
theorem T_Script_valueAhead (k0 i0 x1 x2 : Int) (σ : ST) (Q : Option AV → ST → Prop) (h :
  wp m_Script_valueAhead (4, [some (.inr (.inr (5, k0, i0))), some (.inl x1), some (.inl x2), some (.inl (wr (x2 - 1)))], [], σ) Q) :
  wpM m_Script_valueAhead [.inr (.inr (5, k0, i0)), .inl x1, .inl x2] σ Q :=
 wpM_of ml_143 (L := [some (.inr (.inr (5, k0, i0))), some (.inl x1), some (.inl x2), none]) rfl
 (w_iload_n (p' := 1) f_143_0 rfl rfl
 (w_iconst (p' := 2) f_143_1 rfl
 (w_isub (p' := 3) f_143_2 rfl
 (w_istore_n (p' := 4) f_143_3 (L' := [some (.inr (.inr (5, k0, i0))), some (.inl x1), some (.inl x2), some (.inl (wr (x2 - 1)))]) rfl rfl
 (h)))))
set_option maxRecDepth 100000 in
theorem T_Script_valueAhead_4 (k0 i0 x1 x2 x3 : Int) (σ : ST) (Q : Option AV → ST → Prop) (h :
  (((x3 ≤ x1 : Prop) →
    Q (some (.inl 0)) σ) ∧
  (¬ (x3 ≤ x1) →
    wpM m_Script_told [.inr (.inr (5, k0, i0)), .inl x3, .inl 0] σ (asI fun r101 s101 =>
    (((r101 ≠ 2 : Prop) →
      wp m_Script_valueAhead (4, [some (.inr (.inr (5, k0, i0))), some (.inl x1), some (.inl x2), some (.inl (wr (x3 + (-1))))], [], s101) Q) ∧
    (¬ (r101 ≠ 2) →
      wpM m_Script_told [.inr (.inr (5, k0, i0)), .inl x3, .inl 2] s101 (asI fun r102 s102 =>
      wpM m_Script_told [.inr (.inr (5, k0, i0)), .inl x2, .inl 2] s102 (asI fun r103 s103 =>
      (((r102 ≠ r103 : Prop) →
        wp m_Script_valueAhead (4, [some (.inr (.inr (5, k0, i0))), some (.inl x1), some (.inl x2), some (.inl (wr (x3 + (-1))))], [], s103) Q) ∧
      (¬ (r102 ≠ r103) →
        wpM m_Script_told [.inr (.inr (5, k0, i0)), .inl x3, .inl 5] s103 (asI fun r104 s104 =>
        Q (some (.inl r104)) s104))))))))))) :
  wp m_Script_valueAhead (4, [some (.inr (.inr (5, k0, i0))), some (.inl x1), some (.inl x2), some (.inl x3)], [], σ) Q :=
 w_iload_n (p' := 5) f_143_4 rfl rfl
 (w_iload_n (p' := 6) f_143_5 rfl rfl
 (w_icmp (p' := 47) (q' := 9) f_143_6 rfl rfl
 (fun c107 => w_iconst (p' := 48) f_143_47 rfl
 (w_iret f_143_48 rk_143 (h.1 c107)))
 (fun c107 => w_aload_n (p' := 10) f_143_9 rfl rfl
 (w_iload_n (p' := 11) f_143_10 rfl rfl
 (w_iconst (p' := 12) f_143_11 rfl
 (w_callV (p' := 15) f_143_12 rfl rfl rfl rfl rfl (r := []) rfl rfl (kI (.inl rk_141) fun r101 s101 h101 =>
 w_iconst (p' := 16) f_143_15 rfl
 (w_icmp (p' := 41) (q' := 19) f_143_16 rfl rfl
 (fun c106 => w_iinc (p' := 44) f_143_41 rfl (L' := [some (.inr (.inr (5, k0, i0))), some (.inl x1), some (.inl x2), some (.inl (wr (x3 + (-1))))]) rfl rfl
 (w_goto (p' := 4) f_143_44 rfl
 ((h101.1 c106))))
 (fun c106 => w_aload_n (p' := 20) f_143_19 rfl rfl
 (w_iload_n (p' := 21) f_143_20 rfl rfl
 (w_iconst (p' := 22) f_143_21 rfl
 (w_callV (p' := 25) f_143_22 rfl rfl rfl rfl rfl (r := []) rfl rfl (kI (.inl rk_141) fun r102 s102 h102 =>
 w_aload_n (p' := 26) f_143_25 rfl rfl
 (w_iload_n (p' := 27) f_143_26 rfl rfl
 (w_iconst (p' := 28) f_143_27 rfl
 (w_callV (p' := 31) f_143_28 rfl rfl rfl rfl rfl (r := [.inl r102]) rfl rfl (kI (.inl rk_141) fun r103 s103 h103 =>
 w_icmp (p' := 41) (q' := 34) f_143_31 rfl rfl
 (fun c105 => w_iinc (p' := 44) f_143_41 rfl (L' := [some (.inr (.inr (5, k0, i0))), some (.inl x1), some (.inl x2), some (.inl (wr (x3 + (-1))))]) rfl rfl
 (w_goto (p' := 4) f_143_44 rfl
 ((h103.1 c105))))
 (fun c105 => w_aload_n (p' := 35) f_143_34 rfl rfl
 (w_iload_n (p' := 36) f_143_35 rfl rfl
 (w_iconst (p' := 37) f_143_36 rfl
 (w_callV (p' := 40) f_143_37 rfl rfl rfl rfl rfl (r := []) rfl rfl (kI (.inl rk_141) fun r104 s104 h104 =>
 w_iret f_143_40 rk_143 h104) (h103.2 c105)))))) h102)))) (h101.2 c106))))))) (h.2 c107)))))))
/-! ClosedRooms$Script.paperMeasure()I -/
theorem f_144_0 : fnd 144 0 = some (0, .aload_n 0, 1, 0, 0, 0, 0) := ceB_eq (by decide +kernel)
theorem f_144_1 : fnd 144 1 = some (1, .invokevirtual 33, 3, 142, 1, 2, 0) := ceB_eq (by decide +kernel)
theorem f_144_4 : fnd 144 4 = some (4, .istore_n 1, 1, 0, 0, 0, 0) := ceB_eq (by decide +kernel)
theorem f_144_5 : fnd 144 5 = some (5, .iload_n 1, 1, 0, 0, 0, 0) := ceB_eq (by decide +kernel)
theorem f_144_6 : fnd 144 6 = some (6, .iconst (-1), 1, 0, 0, 0, 0) := ceB_eq (by decide +kernel)
theorem f_144_7 : fnd 144 7 = some (7, .if_icmp .ne 6, 3, 0, 0, 0, 0) := ceB_eq (by decide +kernel)
theorem f_144_10 : fnd 144 10 = some (10, .ldc 37, 2, 0, 0, 0, (-1000000)) := ceB_eq (by decide +kernel)
theorem f_144_12 : fnd 144 12 = some (12, .ireturn, 1, 0, 0, 0, 0) := ceB_eq (by decide +kernel)
theorem f_144_13 : fnd 144 13 = some (13, .bipush 7, 2, 0, 0, 0, 0) := ceB_eq (by decide +kernel)
theorem f_144_15 : fnd 144 15 = some (15, .aload_n 0, 1, 0, 0, 0, 0) := ceB_eq (by decide +kernel)
theorem f_144_16 : fnd 144 16 = some (16, .iload_n 1, 1, 0, 0, 0, 0) := ceB_eq (by decide +kernel)
theorem f_144_17 : fnd 144 17 = some (17, .iconst 1, 1, 0, 0, 0, 0) := ceB_eq (by decide +kernel)
theorem f_144_18 : fnd 144 18 = some (18, .invokevirtual 38, 3, 141, 3, 2, 0) := ceB_eq (by decide +kernel)
theorem f_144_21 : fnd 144 21 = some (21, .iadd, 1, 0, 0, 0, 0) := ceB_eq (by decide +kernel)
theorem f_144_22 : fnd 144 22 = some (22, .istore_n 2, 1, 0, 0, 0, 0) := ceB_eq (by decide +kernel)
theorem f_144_23 : fnd 144 23 = some (23, .iload_n 1, 1, 0, 0, 0, 0) := ceB_eq (by decide +kernel)
theorem f_144_24 : fnd 144 24 = some (24, .iconst 1, 1, 0, 0, 0, 0) := ceB_eq (by decide +kernel)
theorem f_144_25 : fnd 144 25 = some (25, .iadd, 1, 0, 0, 0, 0) := ceB_eq (by decide +kernel)
theorem f_144_26 : fnd 144 26 = some (26, .istore_n 3, 1, 0, 0, 0, 0) := ceB_eq (by decide +kernel)
theorem f_144_27 : fnd 144 27 = some (27, .iload_n 3, 1, 0, 0, 0, 0) := ceB_eq (by decide +kernel)
theorem f_144_28 : fnd 144 28 = some (28, .aload_n 0, 1, 0, 0, 0, 0) := ceB_eq (by decide +kernel)
theorem f_144_29 : fnd 144 29 = some (29, .getfield 9, 3, 2, 0, 0, 0) := ceB_eq (by decide +kernel)
theorem f_144_32 : fnd 144 32 = some (32, .if_icmp .ge 63, 3, 0, 0, 0, 0) := ceB_eq (by decide +kernel)
theorem f_144_35 : fnd 144 35 = some (35, .aload_n 0, 1, 0, 0, 0, 0) := ceB_eq (by decide +kernel)
theorem f_144_36 : fnd 144 36 = some (36, .iload_n 3, 1, 0, 0, 0, 0) := ceB_eq (by decide +kernel)
theorem f_144_37 : fnd 144 37 = some (37, .iconst 0, 1, 0, 0, 0, 0) := ceB_eq (by decide +kernel)
theorem f_144_38 : fnd 144 38 = some (38, .invokevirtual 38, 3, 141, 3, 2, 0) := ceB_eq (by decide +kernel)
theorem f_144_41 : fnd 144 41 = some (41, .istore 4, 2, 0, 0, 0, 0) := ceB_eq (by decide +kernel)
theorem f_144_43 : fnd 144 43 = some (43, .iload 4, 2, 0, 0, 0, 0) := ceB_eq (by decide +kernel)
theorem f_144_45 : fnd 144 45 = some (45, .iconst 2, 1, 0, 0, 0, 0) := ceB_eq (by decide +kernel)
theorem f_144_46 : fnd 144 46 = some (46, .if_icmp .ne 26, 3, 0, 0, 0, 0) := ceB_eq (by decide +kernel)
theorem f_144_49 : fnd 144 49 = some (49, .iload_n 2, 1, 0, 0, 0, 0) := ceB_eq (by decide +kernel)
theorem f_144_50 : fnd 144 50 = some (50, .aload_n 0, 1, 0, 0, 0, 0) := ceB_eq (by decide +kernel)
theorem f_144_51 : fnd 144 51 = some (51, .iload_n 3, 1, 0, 0, 0, 0) := ceB_eq (by decide +kernel)
theorem f_144_52 : fnd 144 52 = some (52, .iconst 2, 1, 0, 0, 0, 0) := ceB_eq (by decide +kernel)
theorem f_144_53 : fnd 144 53 = some (53, .invokevirtual 38, 3, 141, 3, 2, 0) := ceB_eq (by decide +kernel)
theorem f_144_56 : fnd 144 56 = some (56, .aload_n 0, 1, 0, 0, 0, 0) := ceB_eq (by decide +kernel)
theorem f_144_57 : fnd 144 57 = some (57, .iload_n 3, 1, 0, 0, 0, 0) := ceB_eq (by decide +kernel)
theorem f_144_58 : fnd 144 58 = some (58, .iconst 3, 1, 0, 0, 0, 0) := ceB_eq (by decide +kernel)
theorem f_144_59 : fnd 144 59 = some (59, .invokevirtual 38, 3, 141, 3, 2, 0) := ceB_eq (by decide +kernel)
theorem f_144_62 : fnd 144 62 = some (62, .aload_n 0, 1, 0, 0, 0, 0) := ceB_eq (by decide +kernel)
theorem f_144_63 : fnd 144 63 = some (63, .iload_n 3, 1, 0, 0, 0, 0) := ceB_eq (by decide +kernel)
theorem f_144_64 : fnd 144 64 = some (64, .iconst 4, 1, 0, 0, 0, 0) := ceB_eq (by decide +kernel)
theorem f_144_65 : fnd 144 65 = some (65, .invokevirtual 38, 3, 141, 3, 2, 0) := ceB_eq (by decide +kernel)
theorem f_144_68 : fnd 144 68 = some (68, .invokestatic 42, 3, 61, 4, 0, 0) := ceB_eq (by decide +kernel)
theorem f_144_71 : fnd 144 71 = some (71, .istore_n 2, 1, 0, 0, 0, 0) := ceB_eq (by decide +kernel)
theorem f_144_72 : fnd 144 72 = some (72, .iload 4, 2, 0, 0, 0, 0) := ceB_eq (by decide +kernel)
theorem f_144_74 : fnd 144 74 = some (74, .iconst 3, 1, 0, 0, 0, 0) := ceB_eq (by decide +kernel)
theorem f_144_75 : fnd 144 75 = some (75, .if_icmp .ne 14, 3, 0, 0, 0, 0) := ceB_eq (by decide +kernel)
theorem f_144_78 : fnd 144 78 = some (78, .iload_n 2, 1, 0, 0, 0, 0) := ceB_eq (by decide +kernel)
theorem f_144_79 : fnd 144 79 = some (79, .aload_n 0, 1, 0, 0, 0, 0) := ceB_eq (by decide +kernel)
theorem f_144_80 : fnd 144 80 = some (80, .iload_n 1, 1, 0, 0, 0, 0) := ceB_eq (by decide +kernel)
theorem f_144_81 : fnd 144 81 = some (81, .iload_n 3, 1, 0, 0, 0, 0) := ceB_eq (by decide +kernel)
theorem f_144_82 : fnd 144 82 = some (82, .invokevirtual 46, 3, 143, 3, 2, 0) := ceB_eq (by decide +kernel)
theorem f_144_85 : fnd 144 85 = some (85, .invokestatic 49, 3, 64, 2, 0, 0) := ceB_eq (by decide +kernel)
theorem f_144_88 : fnd 144 88 = some (88, .istore_n 2, 1, 0, 0, 0, 0) := ceB_eq (by decide +kernel)
theorem f_144_89 : fnd 144 89 = some (89, .iinc 3 1, 3, 0, 0, 0, 0) := ceB_eq (by decide +kernel)
theorem f_144_92 : fnd 144 92 = some (92, .goto (-65), 3, 0, 0, 0, 0) := ceB_eq (by decide +kernel)
theorem f_144_95 : fnd 144 95 = some (95, .iload_n 2, 1, 0, 0, 0, 0) := ceB_eq (by decide +kernel)
theorem f_144_96 : fnd 144 96 = some (96, .ireturn, 1, 0, 0, 0, 0) := ceB_eq (by decide +kernel)
theorem rk_144 : rkm 144 = 0 := by decide +kernel
theorem ml_144 : (mth 144).2.1 = 5 := by decide +kernel
set_option maxRecDepth 100000 in
theorem T_Script_paperMeasure (k0 i0 : Int) (σ : ST) (Q : Option AV → ST → Prop) (h :
  wpM m_Script_firstCreate [.inr (.inr (5, k0, i0))] σ (asI fun r101 s101 =>
  (((r101 ≠ (-1) : Prop) →
    wpM m_Script_told [.inr (.inr (5, k0, i0)), .inl r101, .inl 1] s101 (asI fun r102 s102 =>
    wp m_Script_paperMeasure (27, [some (.inr (.inr (5, k0, i0))), some (.inl r101), some (.inl (wr (7 + r102))), some (.inl (wr (r101 + 1))), none], [], s102) Q)) ∧
  (¬ (r101 ≠ (-1)) →
    Q (some (.inl (-1000000))) s101)))) :
  wpM m_Script_paperMeasure [.inr (.inr (5, k0, i0))] σ Q :=
 wpM_of ml_144 (L := [some (.inr (.inr (5, k0, i0))), none, none, none, none]) rfl
 (w_aload_n (p' := 1) f_144_0 rfl rfl
 (w_callV (p' := 4) f_144_1 rfl rfl rfl rfl rfl (r := []) rfl rfl (kI (.inl rk_142) fun r101 s101 h101 =>
 w_istore_n (p' := 5) f_144_4 (L' := [some (.inr (.inr (5, k0, i0))), some (.inl r101), none, none, none]) rfl rfl
 (w_iload_n (p' := 6) f_144_5 rfl rfl
 (w_iconst (p' := 7) f_144_6 rfl
 (w_icmp (p' := 13) (q' := 10) f_144_7 rfl rfl
 (fun c103 => w_bipush (p' := 15) f_144_13 rfl
 (w_aload_n (p' := 16) f_144_15 rfl rfl
 (w_iload_n (p' := 17) f_144_16 rfl rfl
 (w_iconst (p' := 18) f_144_17 rfl
 (w_callV (p' := 21) f_144_18 rfl rfl rfl rfl rfl (r := [.inl 7]) rfl rfl (kI (.inl rk_141) fun r102 s102 h102 =>
 w_iadd (p' := 22) f_144_21 rfl
 (w_istore_n (p' := 23) f_144_22 (L' := [some (.inr (.inr (5, k0, i0))), some (.inl r101), some (.inl (wr (7 + r102))), none, none]) rfl rfl
 (w_iload_n (p' := 24) f_144_23 rfl rfl
 (w_iconst (p' := 25) f_144_24 rfl
 (w_iadd (p' := 26) f_144_25 rfl
 (w_istore_n (p' := 27) f_144_26 (L' := [some (.inr (.inr (5, k0, i0))), some (.inl r101), some (.inl (wr (7 + r102))), some (.inl (wr (r101 + 1))), none]) rfl rfl
 (h102))))))) (h101.1 c103))))))
 (fun c103 => w_ldc (p' := 12) f_144_10 rfl
 (w_iret f_144_12 rk_144 (h101.2 c103))))))) h))
set_option maxRecDepth 100000 in
theorem T_Script_paperMeasure_27 (k0 i0 x1 x2 x3 : Int) (o4 : Option AV) (σ : ST) (Q : Option AV → ST → Prop) (h :
  ((((σ 5 k0 i0 0) ≤ x3 : Prop) →
    Q (some (.inl x2)) σ) ∧
  (¬ ((σ 5 k0 i0 0) ≤ x3) →
    wpM m_Script_told [.inr (.inr (5, k0, i0)), .inl x3, .inl 0] σ (asI fun r101 s101 =>
    (((r101 ≠ 2 : Prop) →
      wp m_Script_paperMeasure (72, [some (.inr (.inr (5, k0, i0))), some (.inl x1), some (.inl x2), some (.inl x3), some (.inl r101)], [], s101) Q) ∧
    (¬ (r101 ≠ 2) →
      wpM m_Script_told [.inr (.inr (5, k0, i0)), .inl x3, .inl 2] s101 (asI fun r102 s102 =>
      wpM m_Script_told [.inr (.inr (5, k0, i0)), .inl x3, .inl 3] s102 (asI fun r103 s103 =>
      wpM m_Script_told [.inr (.inr (5, k0, i0)), .inl x3, .inl 4] s103 (asI fun r104 s104 =>
      wpM m_X_measureWithAdd [.inl x2, .inl r102, .inl r103, .inl r104] s104 (asI fun r105 s105 =>
      wp m_Script_paperMeasure (72, [some (.inr (.inr (5, k0, i0))), some (.inl x1), some (.inl r105), some (.inl x3), some (.inl r101)], [], s105) Q)))))))))) :
  wp m_Script_paperMeasure (27, [some (.inr (.inr (5, k0, i0))), some (.inl x1), some (.inl x2), some (.inl x3), o4], [], σ) Q :=
 w_iload_n (p' := 28) f_144_27 rfl rfl
 (w_aload_n (p' := 29) f_144_28 rfl rfl
 (w_getfield (p' := 32) f_144_29 rfl (x := .inl (σ 5 k0 i0 0)) rfl rfl
 (w_icmp (p' := 95) (q' := 35) f_144_32 rfl rfl
 (fun c107 => w_iload_n (p' := 96) f_144_95 rfl rfl
 (w_iret f_144_96 rk_144 (h.1 c107)))
 (fun c107 => w_aload_n (p' := 36) f_144_35 rfl rfl
 (w_iload_n (p' := 37) f_144_36 rfl rfl
 (w_iconst (p' := 38) f_144_37 rfl
 (w_callV (p' := 41) f_144_38 rfl rfl rfl rfl rfl (r := []) rfl rfl (kI (.inl rk_141) fun r101 s101 h101 =>
 w_istore (p' := 43) f_144_41 (L' := [some (.inr (.inr (5, k0, i0))), some (.inl x1), some (.inl x2), some (.inl x3), some (.inl r101)]) rfl rfl
 (w_iload (p' := 45) f_144_43 rfl rfl
 (w_iconst (p' := 46) f_144_45 rfl
 (w_icmp (p' := 72) (q' := 49) f_144_46 rfl rfl
 (fun c106 => (h101.1 c106))
 (fun c106 => w_iload_n (p' := 50) f_144_49 rfl rfl
 (w_aload_n (p' := 51) f_144_50 rfl rfl
 (w_iload_n (p' := 52) f_144_51 rfl rfl
 (w_iconst (p' := 53) f_144_52 rfl
 (w_callV (p' := 56) f_144_53 rfl rfl rfl rfl rfl (r := [.inl x2]) rfl rfl (kI (.inl rk_141) fun r102 s102 h102 =>
 w_aload_n (p' := 57) f_144_56 rfl rfl
 (w_iload_n (p' := 58) f_144_57 rfl rfl
 (w_iconst (p' := 59) f_144_58 rfl
 (w_callV (p' := 62) f_144_59 rfl rfl rfl rfl rfl (r := [.inl r102, .inl x2]) rfl rfl (kI (.inl rk_141) fun r103 s103 h103 =>
 w_aload_n (p' := 63) f_144_62 rfl rfl
 (w_iload_n (p' := 64) f_144_63 rfl rfl
 (w_iconst (p' := 65) f_144_64 rfl
 (w_callV (p' := 68) f_144_65 rfl rfl rfl rfl rfl (r := [.inl r103, .inl r102, .inl x2]) rfl rfl (kI (.inl rk_141) fun r104 s104 h104 =>
 w_callS (p' := 71) f_144_68 rfl rfl rfl (r := []) rfl rfl (kI (.inl rk_61) fun r105 s105 h105 =>
 w_istore_n (p' := 72) f_144_71 (L' := [some (.inr (.inr (5, k0, i0))), some (.inl x1), some (.inl r105), some (.inl x3), some (.inl r101)]) rfl rfl
 (h105)) h104) h103)))) h102)))) (h101.2 c106)))))))))) (h.2 c107))))))))
set_option maxRecDepth 100000 in
theorem T_Script_paperMeasure_72 (k0 i0 x1 x2 x3 x4 : Int) (σ : ST) (Q : Option AV → ST → Prop) (h :
  (((x4 ≠ 3 : Prop) →
    wp m_Script_paperMeasure (27, [some (.inr (.inr (5, k0, i0))), some (.inl x1), some (.inl x2), some (.inl (wr (x3 + 1))), some (.inl x4)], [], σ) Q) ∧
  (¬ (x4 ≠ 3) →
    wpM m_Script_valueAhead [.inr (.inr (5, k0, i0)), .inl x1, .inl x3] σ (asI fun r101 s101 =>
    wpM m_X_measureWithExtend [.inl x2, .inl r101] s101 (asI fun r102 s102 =>
    wp m_Script_paperMeasure (27, [some (.inr (.inr (5, k0, i0))), some (.inl x1), some (.inl r102), some (.inl (wr (x3 + 1))), some (.inl x4)], [], s102) Q))))) :
  wp m_Script_paperMeasure (72, [some (.inr (.inr (5, k0, i0))), some (.inl x1), some (.inl x2), some (.inl x3), some (.inl x4)], [], σ) Q :=
 w_iload (p' := 74) f_144_72 rfl rfl
 (w_iconst (p' := 75) f_144_74 rfl
 (w_icmp (p' := 89) (q' := 78) f_144_75 rfl rfl
 (fun c103 => w_iinc (p' := 92) f_144_89 rfl (L' := [some (.inr (.inr (5, k0, i0))), some (.inl x1), some (.inl x2), some (.inl (wr (x3 + 1))), some (.inl x4)]) rfl rfl
 (w_goto (p' := 27) f_144_92 rfl
 ((h.1 c103))))
 (fun c103 => w_iload_n (p' := 79) f_144_78 rfl rfl
 (w_aload_n (p' := 80) f_144_79 rfl rfl
 (w_iload_n (p' := 81) f_144_80 rfl rfl
 (w_iload_n (p' := 82) f_144_81 rfl rfl
 (w_callV (p' := 85) f_144_82 rfl rfl rfl rfl rfl (r := [.inl x2]) rfl rfl (kI (.inl rk_143) fun r101 s101 h101 =>
 w_callS (p' := 88) f_144_85 rfl rfl rfl (r := []) rfl rfl (kI (.inl rk_64) fun r102 s102 h102 =>
 w_istore_n (p' := 89) f_144_88 (L' := [some (.inr (.inr (5, k0, i0))), some (.inl x1), some (.inl r102), some (.inl x3), some (.inl x4)]) rfl rfl
 (w_iinc (p' := 92) f_144_89 rfl (L' := [some (.inr (.inr (5, k0, i0))), some (.inl x1), some (.inl r102), some (.inl (wr (x3 + 1))), some (.inl x4)]) rfl rfl
 (w_goto (p' := 27) f_144_92 rfl
 (h102)))) h101) (h.2 c103))))))))
/-! ClosedRooms.paper(I)I -/
theorem f_145_0 : fnd 145 0 = some (0, .aload_n 0, 1, 0, 0, 0, 0) := ceB_eq (by decide +kernel)
theorem f_145_1 : fnd 145 1 = some (1, .iload_n 1, 1, 0, 0, 0, 0) := ceB_eq (by decide +kernel)
theorem f_145_2 : fnd 145 2 = some (2, .invokevirtual 322, 3, 140, 2, 0, 0) := ceB_eq (by decide +kernel)
theorem f_145_5 : fnd 145 5 = some (5, .ifCond .ne 6, 3, 0, 0, 0, 0) := ceB_eq (by decide +kernel)
theorem f_145_8 : fnd 145 8 = some (8, .ldc 116, 2, 0, 0, 0, (-1000000)) := ceB_eq (by decide +kernel)
theorem f_145_10 : fnd 145 10 = some (10, .ireturn, 1, 0, 0, 0, 0) := ceB_eq (by decide +kernel)
theorem f_145_11 : fnd 145 11 = some (11, .aload_n 0, 1, 0, 0, 0, 0) := ceB_eq (by decide +kernel)
theorem f_145_12 : fnd 145 12 = some (12, .getfield 26, 3, 0, 3, 3, 0) := ceB_eq (by decide +kernel)
theorem f_145_15 : fnd 145 15 = some (15, .iload_n 1, 1, 0, 0, 0, 0) := ceB_eq (by decide +kernel)
theorem f_145_16 : fnd 145 16 = some (16, .aaload, 1, 0, 0, 0, 0) := ceB_eq (by decide +kernel)
theorem f_145_17 : fnd 145 17 = some (17, .invokevirtual 325, 3, 144, 1, 2, 0) := ceB_eq (by decide +kernel)
theorem f_145_20 : fnd 145 20 = some (20, .ireturn, 1, 0, 0, 0, 0) := ceB_eq (by decide +kernel)
theorem rk_145 : rkm 145 = 0 := by decide +kernel
theorem ml_145 : (mth 145).2.1 = 2 := by decide +kernel
set_option maxRecDepth 100000 in
theorem T_X_paper (k0 i0 x1 : Int) (σ : ST) (Q : Option AV → ST → Prop) (h :
  wpM m_X_isScript [.inr (.inr (0, k0, i0)), .inl x1] σ (asI fun r101 s101 =>
  (((r101 ≠ 0 : Prop) →
    ((0 : Int) ≤ x1 ∧ (x1 : Int) < 4) ∧
    wpM m_Script_paperMeasure [.inr (.inr (5, x1, 0))] s101 (asI fun r102 s102 =>
    Q (some (.inl r102)) s102)) ∧
  (¬ (r101 ≠ 0) →
    Q (some (.inl (-1000000))) s101)))) :
  wpM m_X_paper [.inr (.inr (0, k0, i0)), .inl x1] σ Q :=
 wpM_of ml_145 (L := [some (.inr (.inr (0, k0, i0))), some (.inl x1)]) rfl
 (w_aload_n (p' := 1) f_145_0 rfl rfl
 (w_iload_n (p' := 2) f_145_1 rfl rfl
 (w_callV (p' := 5) f_145_2 rfl rfl rfl rfl rfl (r := []) rfl rfl (kI (.inr rk_140) fun r101 s101 h101 =>
 w_if (p' := 11) (q' := 8) f_145_5 rfl rfl
 (fun c103 => w_aload_n (p' := 12) f_145_11 rfl rfl
 (w_getfield (p' := 15) f_145_12 rfl (x := .inr (.inr (8, 0, 0))) rfl rfl
 (w_iload_n (p' := 16) f_145_15 rfl rfl
 (w_aaload (p' := 17) f_145_16 rfl (n := 4) rfl (x := (5, x1, 0)) rfl (h101.1 c103).1 rfl
 (w_callV (p' := 20) f_145_17 rfl rfl rfl rfl rfl (r := []) rfl rfl (kI (.inl rk_144) fun r102 s102 h102 =>
 w_iret f_145_20 rk_145 h102) (h101.1 c103).2)))))
 (fun c103 => w_ldc (p' := 10) f_145_8 rfl
 (w_iret f_145_10 rk_145 (h101.2 c103)))) h)))
/-! ClosedRooms.alike(II)Z -/
theorem f_146_0 : fnd 146 0 = some (0, .aload_n 0, 1, 0, 0, 0, 0) := ceB_eq (by decide +kernel)
theorem f_146_1 : fnd 146 1 = some (1, .getfield 45, 3, 0, 6, 6, 0) := ceB_eq (by decide +kernel)
theorem f_146_4 : fnd 146 4 = some (4, .iload_n 1, 1, 0, 0, 0, 0) := ceB_eq (by decide +kernel)
theorem f_146_5 : fnd 146 5 = some (5, .invokevirtual 151, 3, 37, 2, 4, 0) := ceB_eq (by decide +kernel)
theorem f_146_8 : fnd 146 8 = some (8, .ifCond .eq 19, 3, 0, 0, 0, 0) := ceB_eq (by decide +kernel)
theorem f_146_11 : fnd 146 11 = some (11, .aload_n 0, 1, 0, 0, 0, 0) := ceB_eq (by decide +kernel)
theorem f_146_12 : fnd 146 12 = some (12, .getfield 45, 3, 0, 6, 6, 0) := ceB_eq (by decide +kernel)
theorem f_146_15 : fnd 146 15 = some (15, .iload_n 2, 1, 0, 0, 0, 0) := ceB_eq (by decide +kernel)
theorem f_146_16 : fnd 146 16 = some (16, .invokevirtual 151, 3, 37, 2, 4, 0) := ceB_eq (by decide +kernel)
theorem f_146_19 : fnd 146 19 = some (19, .ifCond .eq 8, 3, 0, 0, 0, 0) := ceB_eq (by decide +kernel)
theorem f_146_22 : fnd 146 22 = some (22, .iload_n 1, 1, 0, 0, 0, 0) := ceB_eq (by decide +kernel)
theorem f_146_23 : fnd 146 23 = some (23, .iload_n 2, 1, 0, 0, 0, 0) := ceB_eq (by decide +kernel)
theorem f_146_24 : fnd 146 24 = some (24, .if_icmp .ne 5, 3, 0, 0, 0, 0) := ceB_eq (by decide +kernel)
theorem f_146_27 : fnd 146 27 = some (27, .iconst 0, 1, 0, 0, 0, 0) := ceB_eq (by decide +kernel)
theorem f_146_28 : fnd 146 28 = some (28, .ireturn, 1, 0, 0, 0, 0) := ceB_eq (by decide +kernel)
theorem f_146_29 : fnd 146 29 = some (29, .aload_n 0, 1, 0, 0, 0, 0) := ceB_eq (by decide +kernel)
theorem f_146_30 : fnd 146 30 = some (30, .getfield 45, 3, 0, 6, 6, 0) := ceB_eq (by decide +kernel)
theorem f_146_33 : fnd 146 33 = some (33, .getfield 161, 3, 4, 6, 6, 0) := ceB_eq (by decide +kernel)
theorem f_146_36 : fnd 146 36 = some (36, .iload_n 1, 1, 0, 0, 0, 0) := ceB_eq (by decide +kernel)
theorem f_146_37 : fnd 146 37 = some (37, .aaload, 1, 0, 0, 0, 0) := ceB_eq (by decide +kernel)
theorem f_146_38 : fnd 146 38 = some (38, .getfield 176, 3, 7, 4, 4, 0) := ceB_eq (by decide +kernel)
theorem f_146_41 : fnd 146 41 = some (41, .aload_n 0, 1, 0, 0, 0, 0) := ceB_eq (by decide +kernel)
theorem f_146_42 : fnd 146 42 = some (42, .getfield 45, 3, 0, 6, 6, 0) := ceB_eq (by decide +kernel)
theorem f_146_45 : fnd 146 45 = some (45, .getfield 161, 3, 4, 6, 6, 0) := ceB_eq (by decide +kernel)
theorem f_146_48 : fnd 146 48 = some (48, .iload_n 2, 1, 0, 0, 0, 0) := ceB_eq (by decide +kernel)
theorem f_146_49 : fnd 146 49 = some (49, .aaload, 1, 0, 0, 0, 0) := ceB_eq (by decide +kernel)
theorem f_146_50 : fnd 146 50 = some (50, .getfield 176, 3, 7, 4, 4, 0) := ceB_eq (by decide +kernel)
theorem f_146_53 : fnd 146 53 = some (53, .if_icmp .ne 7, 3, 0, 0, 0, 0) := ceB_eq (by decide +kernel)
theorem f_146_56 : fnd 146 56 = some (56, .iconst 1, 1, 0, 0, 0, 0) := ceB_eq (by decide +kernel)
theorem f_146_57 : fnd 146 57 = some (57, .goto 4, 3, 0, 0, 0, 0) := ceB_eq (by decide +kernel)
theorem f_146_60 : fnd 146 60 = some (60, .iconst 0, 1, 0, 0, 0, 0) := ceB_eq (by decide +kernel)
theorem f_146_61 : fnd 146 61 = some (61, .ireturn, 1, 0, 0, 0, 0) := ceB_eq (by decide +kernel)
theorem rk_146 : rkm 146 = 1 := by decide +kernel
theorem ml_146 : (mth 146).2.1 = 3 := by decide +kernel
set_option maxRecDepth 100000 in
theorem T_X_alike (k0 i0 x1 x2 : Int) (σ : ST) (Q : Option AV → ST → Prop) (h :
  wpM m_World_isRoom [.inr (.inr (12, 0, 0)), .inl x1] σ (asI fun r101 s101 =>
  (((r101 = 0 : Prop) →
    ((0 : Int) = 0 ∨ (0 : Int) = 1) ∧ Q (some (.inl 0)) s101) ∧
  (¬ (r101 = 0) →
    wpM m_World_isRoom [.inr (.inr (12, 0, 0)), .inl x2] s101 (asI fun r102 s102 =>
    (((r102 = 0 : Prop) →
      ((0 : Int) = 0 ∨ (0 : Int) = 1) ∧ Q (some (.inl 0)) s102) ∧
    (¬ (r102 = 0) →
      (((x1 ≠ x2 : Prop) →
        ((0 : Int) ≤ x1 ∧ (x1 : Int) < 4) ∧
        ((0 : Int) ≤ x2 ∧ (x2 : Int) < 4) ∧
        ((((s102 17 0 x1 4) ≠ (s102 17 0 x2 4) : Prop) →
          ((0 : Int) = 0 ∨ (0 : Int) = 1) ∧ Q (some (.inl 0)) s102) ∧
        (¬ ((s102 17 0 x1 4) ≠ (s102 17 0 x2 4)) →
          ((1 : Int) = 0 ∨ (1 : Int) = 1) ∧ Q (some (.inl 1)) s102))) ∧
      (¬ (x1 ≠ x2) →
        ((0 : Int) = 0 ∨ (0 : Int) = 1) ∧ Q (some (.inl 0)) s102))))))))) :
  wpM m_X_alike [.inr (.inr (0, k0, i0)), .inl x1, .inl x2] σ Q :=
 wpM_of ml_146 (L := [some (.inr (.inr (0, k0, i0))), some (.inl x1), some (.inl x2)]) rfl
 (w_aload_n (p' := 1) f_146_0 rfl rfl
 (w_getfield (p' := 4) f_146_1 rfl (x := .inr (.inr (12, 0, 0))) rfl rfl
 (w_iload_n (p' := 5) f_146_4 rfl rfl
 (w_callV (p' := 8) f_146_5 rfl rfl rfl rfl rfl (r := []) rfl rfl (kI (.inr rk_37) fun r101 s101 h101 =>
 w_if (p' := 27) (q' := 11) f_146_8 rfl rfl
 (fun c106 => w_iconst (p' := 28) f_146_27 rfl
 (w_zret f_146_28 rk_146 (h101.1 c106).1 (h101.1 c106).2))
 (fun c106 => w_aload_n (p' := 12) f_146_11 rfl rfl
 (w_getfield (p' := 15) f_146_12 rfl (x := .inr (.inr (12, 0, 0))) rfl rfl
 (w_iload_n (p' := 16) f_146_15 rfl rfl
 (w_callV (p' := 19) f_146_16 rfl rfl rfl rfl rfl (r := []) rfl rfl (kI (.inr rk_37) fun r102 s102 h102 =>
 w_if (p' := 27) (q' := 22) f_146_19 rfl rfl
 (fun c105 => w_iconst (p' := 28) f_146_27 rfl
 (w_zret f_146_28 rk_146 (h102.1 c105).1 (h102.1 c105).2))
 (fun c105 => w_iload_n (p' := 23) f_146_22 rfl rfl
 (w_iload_n (p' := 24) f_146_23 rfl rfl
 (w_icmp (p' := 29) (q' := 27) f_146_24 rfl rfl
 (fun c104 => w_aload_n (p' := 30) f_146_29 rfl rfl
 (w_getfield (p' := 33) f_146_30 rfl (x := .inr (.inr (12, 0, 0))) rfl rfl
 (w_getfield (p' := 36) f_146_33 rfl (x := .inr (.inr (16, 0, 0))) rfl rfl
 (w_iload_n (p' := 37) f_146_36 rfl rfl
 (w_aaload (p' := 38) f_146_37 rfl (n := 4) rfl (x := (17, 0, x1)) rfl ((h102.2 c105).1 c104).1 rfl
 (w_getfield (p' := 41) f_146_38 rfl (x := .inl (s102 17 0 x1 4)) rfl rfl
 (w_aload_n (p' := 42) f_146_41 rfl rfl
 (w_getfield (p' := 45) f_146_42 rfl (x := .inr (.inr (12, 0, 0))) rfl rfl
 (w_getfield (p' := 48) f_146_45 rfl (x := .inr (.inr (16, 0, 0))) rfl rfl
 (w_iload_n (p' := 49) f_146_48 rfl rfl
 (w_aaload (p' := 50) f_146_49 rfl (n := 4) rfl (x := (17, 0, x2)) rfl ((h102.2 c105).1 c104).2.1 rfl
 (w_getfield (p' := 53) f_146_50 rfl (x := .inl (s102 17 0 x2 4)) rfl rfl
 (w_icmp (p' := 60) (q' := 56) f_146_53 rfl rfl
 (fun c103 => w_iconst (p' := 61) f_146_60 rfl
 (w_zret f_146_61 rk_146 (((h102.2 c105).1 c104).2.2.1 c103).1 (((h102.2 c105).1 c104).2.2.1 c103).2))
 (fun c103 => w_iconst (p' := 57) f_146_56 rfl
 (w_goto (p' := 61) f_146_57 rfl
 (w_zret f_146_61 rk_146 (((h102.2 c105).1 c104).2.2.2 c103).1 (((h102.2 c105).1 c104).2.2.2 c103).2))))))))))))))))
 (fun c104 => w_iconst (p' := 28) f_146_27 rfl
 (w_zret f_146_28 rk_146 ((h102.2 c105).2 c104).1 ((h102.2 c105).2 c104).2)))))) (h101.2 c106)))))) h))))
/-! ClosedRooms.step(III)I -/
theorem f_147_0 : fnd 147 0 = some (0, .aload_n 0, 1, 0, 0, 0, 0) := ceB_eq (by decide +kernel)
theorem f_147_1 : fnd 147 1 = some (1, .iload_n 1, 1, 0, 0, 0, 0) := ceB_eq (by decide +kernel)
theorem f_147_2 : fnd 147 2 = some (2, .invokevirtual 322, 3, 140, 2, 0, 0) := ceB_eq (by decide +kernel)
theorem f_147_5 : fnd 147 5 = some (5, .ifCond .eq 26, 3, 0, 0, 0, 0) := ceB_eq (by decide +kernel)
theorem f_147_8 : fnd 147 8 = some (8, .aload_n 0, 1, 0, 0, 0, 0) := ceB_eq (by decide +kernel)
theorem f_147_9 : fnd 147 9 = some (9, .getfield 26, 3, 0, 3, 3, 0) := ceB_eq (by decide +kernel)
theorem f_147_12 : fnd 147 12 = some (12, .iload_n 1, 1, 0, 0, 0, 0) := ceB_eq (by decide +kernel)
theorem f_147_13 : fnd 147 13 = some (13, .aaload, 1, 0, 0, 0, 0) := ceB_eq (by decide +kernel)
theorem f_147_14 : fnd 147 14 = some (14, .iload_n 2, 1, 0, 0, 0, 0) := ceB_eq (by decide +kernel)
theorem f_147_15 : fnd 147 15 = some (15, .invokevirtual 351, 3, 16, 2, 2, 0) := ceB_eq (by decide +kernel)
theorem f_147_18 : fnd 147 18 = some (18, .ifCond .eq 13, 3, 0, 0, 0, 0) := ceB_eq (by decide +kernel)
theorem f_147_21 : fnd 147 21 = some (21, .iload_n 3, 1, 0, 0, 0, 0) := ceB_eq (by decide +kernel)
theorem f_147_22 : fnd 147 22 = some (22, .ifCond .lt 9, 3, 0, 0, 0, 0) := ceB_eq (by decide +kernel)
theorem f_147_25 : fnd 147 25 = some (25, .iload_n 3, 1, 0, 0, 0, 0) := ceB_eq (by decide +kernel)
theorem f_147_26 : fnd 147 26 = some (26, .bipush 6, 2, 0, 0, 0, 0) := ceB_eq (by decide +kernel)
theorem f_147_28 : fnd 147 28 = some (28, .if_icmp .lt 6, 3, 0, 0, 0, 0) := ceB_eq (by decide +kernel)
theorem f_147_31 : fnd 147 31 = some (31, .ldc 116, 2, 0, 0, 0, (-1000000)) := ceB_eq (by decide +kernel)
theorem f_147_33 : fnd 147 33 = some (33, .ireturn, 1, 0, 0, 0, 0) := ceB_eq (by decide +kernel)
theorem f_147_34 : fnd 147 34 = some (34, .aload_n 0, 1, 0, 0, 0, 0) := ceB_eq (by decide +kernel)
theorem f_147_35 : fnd 147 35 = some (35, .getfield 26, 3, 0, 3, 3, 0) := ceB_eq (by decide +kernel)
theorem f_147_38 : fnd 147 38 = some (38, .iload_n 1, 1, 0, 0, 0, 0) := ceB_eq (by decide +kernel)
theorem f_147_39 : fnd 147 39 = some (39, .aaload, 1, 0, 0, 0, 0) := ceB_eq (by decide +kernel)
theorem f_147_40 : fnd 147 40 = some (40, .iload_n 2, 1, 0, 0, 0, 0) := ceB_eq (by decide +kernel)
theorem f_147_41 : fnd 147 41 = some (41, .iload_n 3, 1, 0, 0, 0, 0) := ceB_eq (by decide +kernel)
theorem f_147_42 : fnd 147 42 = some (42, .invokevirtual 354, 3, 141, 3, 2, 0) := ceB_eq (by decide +kernel)
theorem f_147_45 : fnd 147 45 = some (45, .ireturn, 1, 0, 0, 0, 0) := ceB_eq (by decide +kernel)
theorem rk_147 : rkm 147 = 0 := by decide +kernel
theorem ml_147 : (mth 147).2.1 = 4 := by decide +kernel
set_option maxRecDepth 100000 in
theorem T_X_step (k0 i0 x1 x2 x3 : Int) (σ : ST) (Q : Option AV → ST → Prop) (h :
  wpM m_X_isScript [.inr (.inr (0, k0, i0)), .inl x1] σ (asI fun r101 s101 =>
  (((r101 = 0 : Prop) →
    Q (some (.inl (-1000000))) s101) ∧
  (¬ (r101 = 0) →
    ((0 : Int) ≤ x1 ∧ (x1 : Int) < 4) ∧
    wpM m_Script_hasStep [.inr (.inr (5, x1, 0)), .inl x2] s101 (asI fun r102 s102 =>
    (((r102 = 0 : Prop) →
      Q (some (.inl (-1000000))) s102) ∧
    (¬ (r102 = 0) →
      (((x3 < 0 : Prop) →
        Q (some (.inl (-1000000))) s102) ∧
      (¬ (x3 < 0) →
        (((x3 < 6 : Prop) →
          ((0 : Int) ≤ x1 ∧ (x1 : Int) < 4) ∧
          wpM m_Script_told [.inr (.inr (5, x1, 0)), .inl x2, .inl x3] s102 (asI fun r103 s103 =>
          Q (some (.inl r103)) s103)) ∧
        (¬ (x3 < 6) →
          Q (some (.inl (-1000000))) s102))))))))))) :
  wpM m_X_step [.inr (.inr (0, k0, i0)), .inl x1, .inl x2, .inl x3] σ Q :=
 wpM_of ml_147 (L := [some (.inr (.inr (0, k0, i0))), some (.inl x1), some (.inl x2), some (.inl x3)]) rfl
 (w_aload_n (p' := 1) f_147_0 rfl rfl
 (w_iload_n (p' := 2) f_147_1 rfl rfl
 (w_callV (p' := 5) f_147_2 rfl rfl rfl rfl rfl (r := []) rfl rfl (kI (.inr rk_140) fun r101 s101 h101 =>
 w_if (p' := 31) (q' := 8) f_147_5 rfl rfl
 (fun c107 => w_ldc (p' := 33) f_147_31 rfl
 (w_iret f_147_33 rk_147 (h101.1 c107)))
 (fun c107 => w_aload_n (p' := 9) f_147_8 rfl rfl
 (w_getfield (p' := 12) f_147_9 rfl (x := .inr (.inr (8, 0, 0))) rfl rfl
 (w_iload_n (p' := 13) f_147_12 rfl rfl
 (w_aaload (p' := 14) f_147_13 rfl (n := 4) rfl (x := (5, x1, 0)) rfl (h101.2 c107).1 rfl
 (w_iload_n (p' := 15) f_147_14 rfl rfl
 (w_callV (p' := 18) f_147_15 rfl rfl rfl rfl rfl (r := []) rfl rfl (kI (.inr rk_16) fun r102 s102 h102 =>
 w_if (p' := 31) (q' := 21) f_147_18 rfl rfl
 (fun c106 => w_ldc (p' := 33) f_147_31 rfl
 (w_iret f_147_33 rk_147 (h102.1 c106)))
 (fun c106 => w_iload_n (p' := 22) f_147_21 rfl rfl
 (w_if (p' := 31) (q' := 25) f_147_22 rfl rfl
 (fun c105 => w_ldc (p' := 33) f_147_31 rfl
 (w_iret f_147_33 rk_147 ((h102.2 c106).1 c105)))
 (fun c105 => w_iload_n (p' := 26) f_147_25 rfl rfl
 (w_bipush (p' := 28) f_147_26 rfl
 (w_icmp (p' := 34) (q' := 31) f_147_28 rfl rfl
 (fun c104 => w_aload_n (p' := 35) f_147_34 rfl rfl
 (w_getfield (p' := 38) f_147_35 rfl (x := .inr (.inr (8, 0, 0))) rfl rfl
 (w_iload_n (p' := 39) f_147_38 rfl rfl
 (w_aaload (p' := 40) f_147_39 rfl (n := 4) rfl (x := (5, x1, 0)) rfl (((h102.2 c106).2 c105).1 c104).1 rfl
 (w_iload_n (p' := 41) f_147_40 rfl rfl
 (w_iload_n (p' := 42) f_147_41 rfl rfl
 (w_callV (p' := 45) f_147_42 rfl rfl rfl rfl rfl (r := []) rfl rfl (kI (.inl rk_141) fun r103 s103 h103 =>
 w_iret f_147_45 rk_147 h103) (((h102.2 c106).2 c105).1 c104).2)))))))
 (fun c104 => w_ldc (p' := 33) f_147_31 rfl
 (w_iret f_147_33 rk_147 (((h102.2 c106).2 c105).2 c104))))))))) (h101.2 c107).2))))))) h)))
/-! ClosedRooms$Acts.carryOutStep(LClosedRooms$Script;I)I -/
theorem f_148_0 : fnd 148 0 = some (0, .aload_n 1, 1, 0, 0, 0, 0) := ceB_eq (by decide +kernel)
theorem f_148_1 : fnd 148 1 = some (1, .iload_n 2, 1, 0, 0, 0, 0) := ceB_eq (by decide +kernel)
theorem f_148_2 : fnd 148 2 = some (2, .iconst 0, 1, 0, 0, 0, 0) := ceB_eq (by decide +kernel)
theorem f_148_3 : fnd 148 3 = some (3, .invokevirtual 88, 3, 141, 3, 2, 0) := ceB_eq (by decide +kernel)
theorem f_148_6 : fnd 148 6 = some (6, .istore_n 3, 1, 0, 0, 0, 0) := ceB_eq (by decide +kernel)
theorem f_148_7 : fnd 148 7 = some (7, .aload_n 1, 1, 0, 0, 0, 0) := ceB_eq (by decide +kernel)
theorem f_148_8 : fnd 148 8 = some (8, .iload_n 2, 1, 0, 0, 0, 0) := ceB_eq (by decide +kernel)
theorem f_148_9 : fnd 148 9 = some (9, .iconst 1, 1, 0, 0, 0, 0) := ceB_eq (by decide +kernel)
theorem f_148_10 : fnd 148 10 = some (10, .invokevirtual 88, 3, 141, 3, 2, 0) := ceB_eq (by decide +kernel)
theorem f_148_13 : fnd 148 13 = some (13, .istore 4, 2, 0, 0, 0, 0) := ceB_eq (by decide +kernel)
theorem f_148_15 : fnd 148 15 = some (15, .iload_n 3, 1, 0, 0, 0, 0) := ceB_eq (by decide +kernel)
theorem f_148_16 : fnd 148 16 = some (16, .iconst 4, 1, 0, 0, 0, 0) := ceB_eq (by decide +kernel)
theorem f_148_17 : fnd 148 17 = some (17, .if_icmp .ne 15, 3, 0, 0, 0, 0) := ceB_eq (by decide +kernel)
theorem f_148_20 : fnd 148 20 = some (20, .aload_n 0, 1, 0, 0, 0, 0) := ceB_eq (by decide +kernel)
theorem f_148_21 : fnd 148 21 = some (21, .getfield 12, 3, 3, 0, 0, 0) := ceB_eq (by decide +kernel)
theorem f_148_24 : fnd 148 24 = some (24, .iload 4, 2, 0, 0, 0, 0) := ceB_eq (by decide +kernel)
theorem f_148_26 : fnd 148 26 = some (26, .invokevirtual 93, 3, 122, 2, 4, 0) := ceB_eq (by decide +kernel)
theorem f_148_29 : fnd 148 29 = some (29, .goto 9, 3, 0, 0, 0, 0) := ceB_eq (by decide +kernel)
theorem f_148_32 : fnd 148 32 = some (32, .aload_n 1, 1, 0, 0, 0, 0) := ceB_eq (by decide +kernel)
theorem f_148_33 : fnd 148 33 = some (33, .iload_n 2, 1, 0, 0, 0, 0) := ceB_eq (by decide +kernel)
theorem f_148_34 : fnd 148 34 = some (34, .iconst 2, 1, 0, 0, 0, 0) := ceB_eq (by decide +kernel)
theorem f_148_35 : fnd 148 35 = some (35, .invokevirtual 88, 3, 141, 3, 2, 0) := ceB_eq (by decide +kernel)
theorem f_148_38 : fnd 148 38 = some (38, .istore 5, 2, 0, 0, 0, 0) := ceB_eq (by decide +kernel)
theorem f_148_40 : fnd 148 40 = some (40, .aload_n 0, 1, 0, 0, 0, 0) := ceB_eq (by decide +kernel)
theorem f_148_41 : fnd 148 41 = some (41, .iload_n 3, 1, 0, 0, 0, 0) := ceB_eq (by decide +kernel)
theorem f_148_42 : fnd 148 42 = some (42, .iload 4, 2, 0, 0, 0, 0) := ceB_eq (by decide +kernel)
theorem f_148_44 : fnd 148 44 = some (44, .iload 5, 2, 0, 0, 0, 0) := ceB_eq (by decide +kernel)
theorem f_148_46 : fnd 148 46 = some (46, .aload_n 1, 1, 0, 0, 0, 0) := ceB_eq (by decide +kernel)
theorem f_148_47 : fnd 148 47 = some (47, .iload_n 2, 1, 0, 0, 0, 0) := ceB_eq (by decide +kernel)
theorem f_148_48 : fnd 148 48 = some (48, .iconst 3, 1, 0, 0, 0, 0) := ceB_eq (by decide +kernel)
theorem f_148_49 : fnd 148 49 = some (49, .invokevirtual 88, 3, 141, 3, 2, 0) := ceB_eq (by decide +kernel)
theorem f_148_52 : fnd 148 52 = some (52, .aload_n 1, 1, 0, 0, 0, 0) := ceB_eq (by decide +kernel)
theorem f_148_53 : fnd 148 53 = some (53, .iload_n 2, 1, 0, 0, 0, 0) := ceB_eq (by decide +kernel)
theorem f_148_54 : fnd 148 54 = some (54, .iconst 4, 1, 0, 0, 0, 0) := ceB_eq (by decide +kernel)
theorem f_148_55 : fnd 148 55 = some (55, .invokevirtual 88, 3, 141, 3, 2, 0) := ceB_eq (by decide +kernel)
theorem f_148_58 : fnd 148 58 = some (58, .aload_n 1, 1, 0, 0, 0, 0) := ceB_eq (by decide +kernel)
theorem f_148_59 : fnd 148 59 = some (59, .iload_n 2, 1, 0, 0, 0, 0) := ceB_eq (by decide +kernel)
theorem f_148_60 : fnd 148 60 = some (60, .iconst 5, 1, 0, 0, 0, 0) := ceB_eq (by decide +kernel)
theorem f_148_61 : fnd 148 61 = some (61, .invokevirtual 88, 3, 141, 3, 2, 0) := ceB_eq (by decide +kernel)
theorem f_148_64 : fnd 148 64 = some (64, .invokevirtual 96, 3, 98, 7, 3, 0) := ceB_eq (by decide +kernel)
theorem f_148_67 : fnd 148 67 = some (67, .ireturn, 1, 0, 0, 0, 0) := ceB_eq (by decide +kernel)
theorem rk_148 : rkm 148 = 0 := by decide +kernel
theorem ml_148 : (mth 148).2.1 = 6 := by decide +kernel
set_option maxRecDepth 100000 in
theorem T_Acts_carryOutStep (k0 i0 k1 i1 x2 : Int) (σ : ST) (Q : Option AV → ST → Prop) (h :
  wpM m_Script_told [.inr (.inr (5, k1, i1)), .inl x2, .inl 0] σ (asI fun r101 s101 =>
  wpM m_Script_told [.inr (.inr (5, k1, i1)), .inl x2, .inl 1] s101 (asI fun r102 s102 =>
  (((r101 ≠ 4 : Prop) →
    wpM m_Script_told [.inr (.inr (5, k1, i1)), .inl x2, .inl 2] s102 (asI fun r103 s103 =>
    wp m_Acts_carryOutStep (38, [some (.inr (.inr (11, k0, i0))), some (.inr (.inr (5, k1, i1))), some (.inl x2), some (.inl r101), some (.inl r102), none], [.inl r103], s103) Q)) ∧
  (¬ (r101 ≠ 4) →
    wpM m_World_measureOf [.inr (.inr (12, k0, 0)), .inl r102] s102 (asI fun r104 s104 =>
    wp m_Acts_carryOutStep (38, [some (.inr (.inr (11, k0, i0))), some (.inr (.inr (5, k1, i1))), some (.inl x2), some (.inl r101), some (.inl r102), none], [.inl r104], s104) Q)))))) :
  wpM m_Acts_carryOutStep [.inr (.inr (11, k0, i0)), .inr (.inr (5, k1, i1)), .inl x2] σ Q :=
 wpM_of ml_148 (L := [some (.inr (.inr (11, k0, i0))), some (.inr (.inr (5, k1, i1))), some (.inl x2), none, none, none]) rfl
 (w_aload_n (p' := 1) f_148_0 rfl rfl
 (w_iload_n (p' := 2) f_148_1 rfl rfl
 (w_iconst (p' := 3) f_148_2 rfl
 (w_callV (p' := 6) f_148_3 rfl rfl rfl rfl rfl (r := []) rfl rfl (kI (.inl rk_141) fun r101 s101 h101 =>
 w_istore_n (p' := 7) f_148_6 (L' := [some (.inr (.inr (11, k0, i0))), some (.inr (.inr (5, k1, i1))), some (.inl x2), some (.inl r101), none, none]) rfl rfl
 (w_aload_n (p' := 8) f_148_7 rfl rfl
 (w_iload_n (p' := 9) f_148_8 rfl rfl
 (w_iconst (p' := 10) f_148_9 rfl
 (w_callV (p' := 13) f_148_10 rfl rfl rfl rfl rfl (r := []) rfl rfl (kI (.inl rk_141) fun r102 s102 h102 =>
 w_istore (p' := 15) f_148_13 (L' := [some (.inr (.inr (11, k0, i0))), some (.inr (.inr (5, k1, i1))), some (.inl x2), some (.inl r101), some (.inl r102), none]) rfl rfl
 (w_iload_n (p' := 16) f_148_15 rfl rfl
 (w_iconst (p' := 17) f_148_16 rfl
 (w_icmp (p' := 32) (q' := 20) f_148_17 rfl rfl
 (fun c105 => w_aload_n (p' := 33) f_148_32 rfl rfl
 (w_iload_n (p' := 34) f_148_33 rfl rfl
 (w_iconst (p' := 35) f_148_34 rfl
 (w_callV (p' := 38) f_148_35 rfl rfl rfl rfl rfl (r := []) rfl rfl (kI (.inl rk_141) fun r103 s103 h103 =>
 h103) (h102.1 c105)))))
 (fun c105 => w_aload_n (p' := 21) f_148_20 rfl rfl
 (w_getfield (p' := 24) f_148_21 rfl (x := .inr (.inr (12, k0, 0))) rfl rfl
 (w_iload (p' := 26) f_148_24 rfl rfl
 (w_callV (p' := 29) f_148_26 rfl rfl rfl rfl rfl (r := []) rfl rfl (kI (.inl rk_122) fun r104 s104 h104 =>
 w_goto (p' := 38) f_148_29 rfl
 (h104)) (h102.2 c105))))))))) h101))))) h))))
set_option maxRecDepth 100000 in
theorem T_Acts_carryOutStep_38 (k0 i0 k1 i1 x2 x3 x4 t0 : Int) (o5 : Option AV) (σ : ST) (Q : Option AV → ST → Prop) (h :
  wpM m_Script_told [.inr (.inr (5, k1, i1)), .inl x2, .inl 3] σ (asI fun r101 s101 =>
  wpM m_Script_told [.inr (.inr (5, k1, i1)), .inl x2, .inl 4] s101 (asI fun r102 s102 =>
  wpM m_Script_told [.inr (.inr (5, k1, i1)), .inl x2, .inl 5] s102 (asI fun r103 s103 =>
  wpM m_Acts_carryOut [.inr (.inr (11, k0, i0)), .inl x3, .inl x4, .inl t0, .inl r101, .inl r102, .inl r103] s103 (asI fun r104 s104 =>
  Q (some (.inl r104)) s104))))) :
  wp m_Acts_carryOutStep (38, [some (.inr (.inr (11, k0, i0))), some (.inr (.inr (5, k1, i1))), some (.inl x2), some (.inl x3), some (.inl x4), o5], [.inl t0], σ) Q :=
 w_istore (p' := 40) f_148_38 (L' := [some (.inr (.inr (11, k0, i0))), some (.inr (.inr (5, k1, i1))), some (.inl x2), some (.inl x3), some (.inl x4), some (.inl t0)]) rfl rfl
 (w_aload_n (p' := 41) f_148_40 rfl rfl
 (w_iload_n (p' := 42) f_148_41 rfl rfl
 (w_iload (p' := 44) f_148_42 rfl rfl
 (w_iload (p' := 46) f_148_44 rfl rfl
 (w_aload_n (p' := 47) f_148_46 rfl rfl
 (w_iload_n (p' := 48) f_148_47 rfl rfl
 (w_iconst (p' := 49) f_148_48 rfl
 (w_callV (p' := 52) f_148_49 rfl rfl rfl rfl rfl (r := [.inl t0, .inl x4, .inl x3, .inr (.inr (11, k0, i0))]) rfl rfl (kI (.inl rk_141) fun r101 s101 h101 =>
 w_aload_n (p' := 53) f_148_52 rfl rfl
 (w_iload_n (p' := 54) f_148_53 rfl rfl
 (w_iconst (p' := 55) f_148_54 rfl
 (w_callV (p' := 58) f_148_55 rfl rfl rfl rfl rfl (r := [.inl r101, .inl t0, .inl x4, .inl x3, .inr (.inr (11, k0, i0))]) rfl rfl (kI (.inl rk_141) fun r102 s102 h102 =>
 w_aload_n (p' := 59) f_148_58 rfl rfl
 (w_iload_n (p' := 60) f_148_59 rfl rfl
 (w_iconst (p' := 61) f_148_60 rfl
 (w_callV (p' := 64) f_148_61 rfl rfl rfl rfl rfl (r := [.inl r102, .inl r101, .inl t0, .inl x4, .inl x3, .inr (.inr (11, k0, i0))]) rfl rfl (kI (.inl rk_141) fun r103 s103 h103 =>
 w_callV (p' := 67) f_148_64 rfl rfl rfl rfl rfl (r := []) rfl rfl (kI (.inl rk_98) fun r104 s104 h104 =>
 w_iret f_148_67 rk_148 h104) h103) h102)))) h101)))) h))))))))
/-! ClosedRooms.run(II)I -/
theorem f_149_0 : fnd 149 0 = some (0, .aload_n 0, 1, 0, 0, 0, 0) := ceB_eq (by decide +kernel)
theorem f_149_1 : fnd 149 1 = some (1, .getfield 20, 3, 0, 2, 2, 0) := ceB_eq (by decide +kernel)
theorem f_149_4 : fnd 149 4 = some (4, .ifCond .eq 20, 3, 0, 0, 0, 0) := ceB_eq (by decide +kernel)
theorem f_149_7 : fnd 149 7 = some (7, .aload_n 0, 1, 0, 0, 0, 0) := ceB_eq (by decide +kernel)
theorem f_149_8 : fnd 149 8 = some (8, .iload_n 1, 1, 0, 0, 0, 0) := ceB_eq (by decide +kernel)
theorem f_149_9 : fnd 149 9 = some (9, .invokevirtual 322, 3, 140, 2, 0, 0) := ceB_eq (by decide +kernel)
theorem f_149_12 : fnd 149 12 = some (12, .ifCond .eq 12, 3, 0, 0, 0, 0) := ceB_eq (by decide +kernel)
theorem f_149_15 : fnd 149 15 = some (15, .iload_n 2, 1, 0, 0, 0, 0) := ceB_eq (by decide +kernel)
theorem f_149_16 : fnd 149 16 = some (16, .ifCond .lt 8, 3, 0, 0, 0, 0) := ceB_eq (by decide +kernel)
theorem f_149_19 : fnd 149 19 = some (19, .iload_n 2, 1, 0, 0, 0, 0) := ceB_eq (by decide +kernel)
theorem f_149_20 : fnd 149 20 = some (20, .iconst 1, 1, 0, 0, 0, 0) := ceB_eq (by decide +kernel)
theorem f_149_21 : fnd 149 21 = some (21, .if_icmp .le 6, 3, 0, 0, 0, 0) := ceB_eq (by decide +kernel)
theorem f_149_24 : fnd 149 24 = some (24, .ldc 116, 2, 0, 0, 0, (-1000000)) := ceB_eq (by decide +kernel)
theorem f_149_26 : fnd 149 26 = some (26, .ireturn, 1, 0, 0, 0, 0) := ceB_eq (by decide +kernel)
theorem f_149_27 : fnd 149 27 = some (27, .aload_n 0, 1, 0, 0, 0, 0) := ceB_eq (by decide +kernel)
theorem f_149_28 : fnd 149 28 = some (28, .getfield 46, 3, 0, 7, 7, 0) := ceB_eq (by decide +kernel)
theorem f_149_31 : fnd 149 31 = some (31, .getfield 41, 3, 3, 0, 0, 0) := ceB_eq (by decide +kernel)
theorem f_149_34 : fnd 149 34 = some (34, .aload_n 0, 1, 0, 0, 0, 0) := ceB_eq (by decide +kernel)
theorem f_149_35 : fnd 149 35 = some (35, .getfield 45, 3, 0, 6, 6, 0) := ceB_eq (by decide +kernel)
theorem f_149_38 : fnd 149 38 = some (38, .invokevirtual 252, 3, 52, 2, 4, 0) := ceB_eq (by decide +kernel)
theorem f_149_41 : fnd 149 41 = some (41, .aload_n 0, 1, 0, 0, 0, 0) := ceB_eq (by decide +kernel)
theorem f_149_42 : fnd 149 42 = some (42, .getfield 26, 3, 0, 3, 3, 0) := ceB_eq (by decide +kernel)
theorem f_149_45 : fnd 149 45 = some (45, .iload_n 1, 1, 0, 0, 0, 0) := ceB_eq (by decide +kernel)
theorem f_149_46 : fnd 149 46 = some (46, .aaload, 1, 0, 0, 0, 0) := ceB_eq (by decide +kernel)
theorem f_149_47 : fnd 149 47 = some (47, .astore_n 3, 1, 0, 0, 0, 0) := ceB_eq (by decide +kernel)
theorem f_149_48 : fnd 149 48 = some (48, .iconst 0, 1, 0, 0, 0, 0) := ceB_eq (by decide +kernel)
theorem f_149_49 : fnd 149 49 = some (49, .istore 4, 2, 0, 0, 0, 0) := ceB_eq (by decide +kernel)
theorem f_149_51 : fnd 149 51 = some (51, .iload 4, 2, 0, 0, 0, 0) := ceB_eq (by decide +kernel)
theorem f_149_53 : fnd 149 53 = some (53, .aload_n 3, 1, 0, 0, 0, 0) := ceB_eq (by decide +kernel)
theorem f_149_54 : fnd 149 54 = some (54, .getfield 355, 3, 2, 0, 0, 0) := ceB_eq (by decide +kernel)
theorem f_149_57 : fnd 149 57 = some (57, .if_icmp .ge 48, 3, 0, 0, 0, 0) := ceB_eq (by decide +kernel)
theorem f_149_60 : fnd 149 60 = some (60, .aload_n 0, 1, 0, 0, 0, 0) := ceB_eq (by decide +kernel)
theorem f_149_61 : fnd 149 61 = some (61, .getfield 46, 3, 0, 7, 7, 0) := ceB_eq (by decide +kernel)
theorem f_149_64 : fnd 149 64 = some (64, .aload_n 3, 1, 0, 0, 0, 0) := ceB_eq (by decide +kernel)
theorem f_149_65 : fnd 149 65 = some (65, .iload 4, 2, 0, 0, 0, 0) := ceB_eq (by decide +kernel)
theorem f_149_67 : fnd 149 67 = some (67, .invokevirtual 356, 3, 148, 3, 3, 0) := ceB_eq (by decide +kernel)
theorem f_149_70 : fnd 149 70 = some (70, .pop, 1, 0, 0, 0, 0) := ceB_eq (by decide +kernel)
theorem f_149_71 : fnd 149 71 = some (71, .aload_n 0, 1, 0, 0, 0, 0) := ceB_eq (by decide +kernel)
theorem f_149_72 : fnd 149 72 = some (72, .getfield 46, 3, 0, 7, 7, 0) := ceB_eq (by decide +kernel)
theorem f_149_75 : fnd 149 75 = some (75, .getfield 263, 3, 3, 1, 1, 0) := ceB_eq (by decide +kernel)
theorem f_149_78 : fnd 149 78 = some (78, .iconst (-1), 1, 0, 0, 0, 0) := ceB_eq (by decide +kernel)
theorem f_149_79 : fnd 149 79 = some (79, .if_icmp .eq 20, 3, 0, 0, 0, 0) := ceB_eq (by decide +kernel)
theorem f_149_82 : fnd 149 82 = some (82, .iload_n 2, 1, 0, 0, 0, 0) := ceB_eq (by decide +kernel)
theorem f_149_83 : fnd 149 83 = some (83, .ifCond .ne 8, 3, 0, 0, 0, 0) := ceB_eq (by decide +kernel)
theorem f_149_86 : fnd 149 86 = some (86, .iload 4, 2, 0, 0, 0, 0) := ceB_eq (by decide +kernel)
theorem f_149_88 : fnd 149 88 = some (88, .goto 10, 3, 0, 0, 0, 0) := ceB_eq (by decide +kernel)
theorem f_149_91 : fnd 149 91 = some (91, .aload_n 0, 1, 0, 0, 0, 0) := ceB_eq (by decide +kernel)
theorem f_149_92 : fnd 149 92 = some (92, .getfield 46, 3, 0, 7, 7, 0) := ceB_eq (by decide +kernel)
theorem f_149_95 : fnd 149 95 = some (95, .getfield 263, 3, 3, 1, 1, 0) := ceB_eq (by decide +kernel)
theorem f_149_98 : fnd 149 98 = some (98, .ireturn, 1, 0, 0, 0, 0) := ceB_eq (by decide +kernel)
theorem f_149_99 : fnd 149 99 = some (99, .iinc 4 1, 3, 0, 0, 0, 0) := ceB_eq (by decide +kernel)
theorem f_149_102 : fnd 149 102 = some (102, .goto (-51), 3, 0, 0, 0, 0) := ceB_eq (by decide +kernel)
theorem f_149_105 : fnd 149 105 = some (105, .iconst (-1), 1, 0, 0, 0, 0) := ceB_eq (by decide +kernel)
theorem f_149_106 : fnd 149 106 = some (106, .ireturn, 1, 0, 0, 0, 0) := ceB_eq (by decide +kernel)
theorem rk_149 : rkm 149 = 0 := by decide +kernel
theorem ml_149 : (mth 149).2.1 = 5 := by decide +kernel
set_option maxRecDepth 100000 in
theorem T_X_run (k0 i0 x1 x2 : Int) (σ : ST) (Q : Option AV → ST → Prop) (h :
  ((((bz (σ 0 k0 i0 2)) = 0 : Prop) →
    Q (some (.inl (-1000000))) σ) ∧
  (¬ ((bz (σ 0 k0 i0 2)) = 0) →
    wpM m_X_isScript [.inr (.inr (0, k0, i0)), .inl x1] σ (asI fun r101 s101 =>
    (((r101 = 0 : Prop) →
      Q (some (.inl (-1000000))) s101) ∧
    (¬ (r101 = 0) →
      (((x2 < 0 : Prop) →
        Q (some (.inl (-1000000))) s101) ∧
      (¬ (x2 < 0) →
        (((x2 ≤ 1 : Prop) →
          wpM m_World_take [.inr (.inr (12, 1, 0)), .inr (.inr (12, 0, 0))] s101 (asV fun s102 =>
          ((0 : Int) ≤ x1 ∧ (x1 : Int) < 4) ∧
          wp m_X_run (51, [some (.inr (.inr (0, k0, i0))), some (.inl x1), some (.inl x2), some (.inr (.inr (5, x1, 0))), some (.inl 0)], [], s102) Q)) ∧
        (¬ (x2 ≤ 1) →
          Q (some (.inl (-1000000))) s101)))))))))) :
  wpM m_X_run [.inr (.inr (0, k0, i0)), .inl x1, .inl x2] σ Q :=
 wpM_of ml_149 (L := [some (.inr (.inr (0, k0, i0))), some (.inl x1), some (.inl x2), none, none]) rfl
 (w_aload_n (p' := 1) f_149_0 rfl rfl
 (w_getfield (p' := 4) f_149_1 rfl (x := .inl (bz (σ 0 k0 i0 2))) rfl rfl
 (w_if (p' := 24) (q' := 7) f_149_4 rfl rfl
 (fun c106 => w_ldc (p' := 26) f_149_24 rfl
 (w_iret f_149_26 rk_149 (h.1 c106)))
 (fun c106 => w_aload_n (p' := 8) f_149_7 rfl rfl
 (w_iload_n (p' := 9) f_149_8 rfl rfl
 (w_callV (p' := 12) f_149_9 rfl rfl rfl rfl rfl (r := []) rfl rfl (kI (.inr rk_140) fun r101 s101 h101 =>
 w_if (p' := 24) (q' := 15) f_149_12 rfl rfl
 (fun c105 => w_ldc (p' := 26) f_149_24 rfl
 (w_iret f_149_26 rk_149 (h101.1 c105)))
 (fun c105 => w_iload_n (p' := 16) f_149_15 rfl rfl
 (w_if (p' := 24) (q' := 19) f_149_16 rfl rfl
 (fun c104 => w_ldc (p' := 26) f_149_24 rfl
 (w_iret f_149_26 rk_149 ((h101.2 c105).1 c104)))
 (fun c104 => w_iload_n (p' := 20) f_149_19 rfl rfl
 (w_iconst (p' := 21) f_149_20 rfl
 (w_icmp (p' := 27) (q' := 24) f_149_21 rfl rfl
 (fun c103 => w_aload_n (p' := 28) f_149_27 rfl rfl
 (w_getfield (p' := 31) f_149_28 rfl (x := .inr (.inr (11, 1, 0))) rfl rfl
 (w_getfield (p' := 34) f_149_31 rfl (x := .inr (.inr (12, 1, 0))) rfl rfl
 (w_aload_n (p' := 35) f_149_34 rfl rfl
 (w_getfield (p' := 38) f_149_35 rfl (x := .inr (.inr (12, 0, 0))) rfl rfl
 (w_callV (p' := 41) f_149_38 rfl rfl rfl rfl rfl (r := []) rfl rfl (kV rk_52 fun s102 h102 =>
 w_aload_n (p' := 42) f_149_41 rfl rfl
 (w_getfield (p' := 45) f_149_42 rfl (x := .inr (.inr (8, 0, 0))) rfl rfl
 (w_iload_n (p' := 46) f_149_45 rfl rfl
 (w_aaload (p' := 47) f_149_46 rfl (n := 4) rfl (x := (5, x1, 0)) rfl h102.1 rfl
 (w_astore_n (p' := 48) f_149_47 (L' := [some (.inr (.inr (0, k0, i0))), some (.inl x1), some (.inl x2), some (.inr (.inr (5, x1, 0))), none]) rfl rfl
 (w_iconst (p' := 49) f_149_48 rfl
 (w_istore (p' := 51) f_149_49 (L' := [some (.inr (.inr (0, k0, i0))), some (.inl x1), some (.inl x2), some (.inr (.inr (5, x1, 0))), some (.inl 0)]) rfl rfl
 (h102.2)))))))) (((h101.2 c105).2 c104).1 c103)))))))
 (fun c103 => w_ldc (p' := 26) f_149_24 rfl
 (w_iret f_149_26 rk_149 (((h101.2 c105).2 c104).2 c103))))))))) (h.2 c106)))))))
set_option maxRecDepth 100000 in
theorem T_X_run_51 (k0 i0 x2 k3 i3 x4 : Int) (o1 : Option AV) (σ : ST) (Q : Option AV → ST → Prop) (h :
  ((((σ 5 k3 i3 0) ≤ x4 : Prop) →
    Q (some (.inl (-1))) σ) ∧
  (¬ ((σ 5 k3 i3 0) ≤ x4) →
    wpM m_Acts_carryOutStep [.inr (.inr (11, 1, 0)), .inr (.inr (5, k3, i3)), .inl x4] σ (asI fun r101 s101 =>
    ((((s101 11 1 0 1) = (-1) : Prop) →
      wp m_X_run (51, [some (.inr (.inr (0, k0, i0))), o1, some (.inl x2), some (.inr (.inr (5, k3, i3))), some (.inl (wr (x4 + 1)))], [], s101) Q) ∧
    (¬ ((s101 11 1 0 1) = (-1)) →
      (((x2 ≠ 0 : Prop) →
        Q (some (.inl (s101 11 1 0 1))) s101) ∧
      (¬ (x2 ≠ 0) →
        Q (some (.inl x4)) s101)))))))) :
  wp m_X_run (51, [some (.inr (.inr (0, k0, i0))), o1, some (.inl x2), some (.inr (.inr (5, k3, i3))), some (.inl x4)], [], σ) Q :=
 w_iload (p' := 53) f_149_51 rfl rfl
 (w_aload_n (p' := 54) f_149_53 rfl rfl
 (w_getfield (p' := 57) f_149_54 rfl (x := .inl (σ 5 k3 i3 0)) rfl rfl
 (w_icmp (p' := 105) (q' := 60) f_149_57 rfl rfl
 (fun c104 => w_iconst (p' := 106) f_149_105 rfl
 (w_iret f_149_106 rk_149 (h.1 c104)))
 (fun c104 => w_aload_n (p' := 61) f_149_60 rfl rfl
 (w_getfield (p' := 64) f_149_61 rfl (x := .inr (.inr (11, 1, 0))) rfl rfl
 (w_aload_n (p' := 65) f_149_64 rfl rfl
 (w_iload (p' := 67) f_149_65 rfl rfl
 (w_callV (p' := 70) f_149_67 rfl rfl rfl rfl rfl (r := []) rfl rfl (kI (.inl rk_148) fun r101 s101 h101 =>
 w_pop (p' := 71) f_149_70 rfl
 (w_aload_n (p' := 72) f_149_71 rfl rfl
 (w_getfield (p' := 75) f_149_72 rfl (x := .inr (.inr (11, 1, 0))) rfl rfl
 (w_getfield (p' := 78) f_149_75 rfl (x := .inl (s101 11 1 0 1)) rfl rfl
 (w_iconst (p' := 79) f_149_78 rfl
 (w_icmp (p' := 99) (q' := 82) f_149_79 rfl rfl
 (fun c103 => w_iinc (p' := 102) f_149_99 rfl (L' := [some (.inr (.inr (0, k0, i0))), o1, some (.inl x2), some (.inr (.inr (5, k3, i3))), some (.inl (wr (x4 + 1)))]) rfl rfl
 (w_goto (p' := 51) f_149_102 rfl
 ((h101.1 c103))))
 (fun c103 => w_iload_n (p' := 83) f_149_82 rfl rfl
 (w_if (p' := 91) (q' := 86) f_149_83 rfl rfl
 (fun c102 => w_aload_n (p' := 92) f_149_91 rfl rfl
 (w_getfield (p' := 95) f_149_92 rfl (x := .inr (.inr (11, 1, 0))) rfl rfl
 (w_getfield (p' := 98) f_149_95 rfl (x := .inl (s101 11 1 0 1)) rfl rfl
 (w_iret f_149_98 rk_149 ((h101.2 c103).1 c102)))))
 (fun c102 => w_iload (p' := 88) f_149_86 rfl rfl
 (w_goto (p' := 98) f_149_88 rfl
 (w_iret f_149_98 rk_149 ((h101.2 c103).2 c102)))))))))))) (h.2 c104)))))))))
/-! ClosedRooms.doesStep(LClosedRooms$Script;I)Z -/
theorem f_150_0 : fnd 150 0 = some (0, .aload_n 0, 1, 0, 0, 0, 0) := ceB_eq (by decide +kernel)
theorem f_150_1 : fnd 150 1 = some (1, .invokevirtual 248, 3, 46, 1, 0, 12) := ceB_eq (by decide +kernel)
theorem f_150_4 : fnd 150 4 = some (4, .aload_n 0, 1, 0, 0, 0, 0) := ceB_eq (by decide +kernel)
theorem f_150_5 : fnd 150 5 = some (5, .getfield 45, 3, 0, 6, 6, 0) := ceB_eq (by decide +kernel)
theorem f_150_8 : fnd 150 8 = some (8, .invokevirtual 252, 3, 52, 2, 4, 0) := ceB_eq (by decide +kernel)
theorem f_150_11 : fnd 150 11 = some (11, .aload_n 0, 1, 0, 0, 0, 0) := ceB_eq (by decide +kernel)
theorem f_150_12 : fnd 150 12 = some (12, .getfield 37, 3, 0, 5, 5, 0) := ceB_eq (by decide +kernel)
theorem f_150_15 : fnd 150 15 = some (15, .aload_n 1, 1, 0, 0, 0, 0) := ceB_eq (by decide +kernel)
theorem f_150_16 : fnd 150 16 = some (16, .iload_n 2, 1, 0, 0, 0, 0) := ceB_eq (by decide +kernel)
theorem f_150_17 : fnd 150 17 = some (17, .invokevirtual 356, 3, 148, 3, 3, 0) := ceB_eq (by decide +kernel)
theorem f_150_20 : fnd 150 20 = some (20, .istore_n 3, 1, 0, 0, 0, 0) := ceB_eq (by decide +kernel)
theorem f_150_21 : fnd 150 21 = some (21, .aload_n 0, 1, 0, 0, 0, 0) := ceB_eq (by decide +kernel)
theorem f_150_22 : fnd 150 22 = some (22, .aload_n 1, 1, 0, 0, 0, 0) := ceB_eq (by decide +kernel)
theorem f_150_23 : fnd 150 23 = some (23, .iload_n 2, 1, 0, 0, 0, 0) := ceB_eq (by decide +kernel)
theorem f_150_24 : fnd 150 24 = some (24, .iconst 0, 1, 0, 0, 0, 0) := ceB_eq (by decide +kernel)
theorem f_150_25 : fnd 150 25 = some (25, .invokevirtual 354, 3, 141, 3, 2, 0) := ceB_eq (by decide +kernel)
theorem f_150_28 : fnd 150 28 = some (28, .aload_n 1, 1, 0, 0, 0, 0) := ceB_eq (by decide +kernel)
theorem f_150_29 : fnd 150 29 = some (29, .iload_n 2, 1, 0, 0, 0, 0) := ceB_eq (by decide +kernel)
theorem f_150_30 : fnd 150 30 = some (30, .iconst 1, 1, 0, 0, 0, 0) := ceB_eq (by decide +kernel)
theorem f_150_31 : fnd 150 31 = some (31, .invokevirtual 354, 3, 141, 3, 2, 0) := ceB_eq (by decide +kernel)
theorem f_150_34 : fnd 150 34 = some (34, .iload_n 3, 1, 0, 0, 0, 0) := ceB_eq (by decide +kernel)
theorem f_150_35 : fnd 150 35 = some (35, .invokevirtual 259, 3, 100, 4, 0, 0) := ceB_eq (by decide +kernel)
theorem f_150_38 : fnd 150 38 = some (38, .ireturn, 1, 0, 0, 0, 0) := ceB_eq (by decide +kernel)
theorem rk_150 : rkm 150 = 1 := by decide +kernel
theorem ml_150 : (mth 150).2.1 = 4 := by decide +kernel
set_option maxRecDepth 100000 in
theorem T_X_doesStep (k0 i0 k1 i1 x2 : Int) (σ : ST) (Q : Option AV → ST → Prop) (h :
  wpM m_X_pastRow [.inr (.inr (0, k0, i0))] σ (asR 12 fun a101 b101 s101 =>
  wpM m_World_take [.inr (.inr (12, a101, b101)), .inr (.inr (12, 0, 0))] s101 (asV fun s102 =>
  wpM m_Acts_carryOutStep [.inr (.inr (11, 0, 0)), .inr (.inr (5, k1, i1)), .inl x2] s102 (asI fun r103 s103 =>
  wpM m_Script_told [.inr (.inr (5, k1, i1)), .inl x2, .inl 0] s103 (asI fun r104 s104 =>
  wpM m_Script_told [.inr (.inr (5, k1, i1)), .inl x2, .inl 1] s104 (asI fun r105 s105 =>
  wpM m_X_keepsAct [.inr (.inr (0, k0, i0)), .inl r104, .inl r105, .inl r103] s105 (asI fun r106 s106 =>
  ((r106 : Int) = 0 ∨ (r106 : Int) = 1) ∧ Q (some (.inl r106)) s106))))))) :
  wpM m_X_doesStep [.inr (.inr (0, k0, i0)), .inr (.inr (5, k1, i1)), .inl x2] σ Q :=
 wpM_of ml_150 (L := [some (.inr (.inr (0, k0, i0))), some (.inr (.inr (5, k1, i1))), some (.inl x2), none]) rfl
 (w_aload_n (p' := 1) f_150_0 rfl rfl
 (w_callV (p' := 4) f_150_1 rfl rfl rfl rfl rfl (r := []) rfl rfl (kR rfl rk_46 fun a101 b101 s101 h101 =>
 w_aload_n (p' := 5) f_150_4 rfl rfl
 (w_getfield (p' := 8) f_150_5 rfl (x := .inr (.inr (12, 0, 0))) rfl rfl
 (w_callV (p' := 11) f_150_8 rfl rfl rfl rfl rfl (r := []) rfl rfl (kV rk_52 fun s102 h102 =>
 w_aload_n (p' := 12) f_150_11 rfl rfl
 (w_getfield (p' := 15) f_150_12 rfl (x := .inr (.inr (11, 0, 0))) rfl rfl
 (w_aload_n (p' := 16) f_150_15 rfl rfl
 (w_iload_n (p' := 17) f_150_16 rfl rfl
 (w_callV (p' := 20) f_150_17 rfl rfl rfl rfl rfl (r := []) rfl rfl (kI (.inl rk_148) fun r103 s103 h103 =>
 w_istore_n (p' := 21) f_150_20 (L' := [some (.inr (.inr (0, k0, i0))), some (.inr (.inr (5, k1, i1))), some (.inl x2), some (.inl r103)]) rfl rfl
 (w_aload_n (p' := 22) f_150_21 rfl rfl
 (w_aload_n (p' := 23) f_150_22 rfl rfl
 (w_iload_n (p' := 24) f_150_23 rfl rfl
 (w_iconst (p' := 25) f_150_24 rfl
 (w_callV (p' := 28) f_150_25 rfl rfl rfl rfl rfl (r := [.inr (.inr (0, k0, i0))]) rfl rfl (kI (.inl rk_141) fun r104 s104 h104 =>
 w_aload_n (p' := 29) f_150_28 rfl rfl
 (w_iload_n (p' := 30) f_150_29 rfl rfl
 (w_iconst (p' := 31) f_150_30 rfl
 (w_callV (p' := 34) f_150_31 rfl rfl rfl rfl rfl (r := [.inl r104, .inr (.inr (0, k0, i0))]) rfl rfl (kI (.inl rk_141) fun r105 s105 h105 =>
 w_iload_n (p' := 35) f_150_34 rfl rfl
 (w_callV (p' := 38) f_150_35 rfl rfl rfl rfl rfl (r := []) rfl rfl (kI (.inr rk_100) fun r106 s106 h106 =>
 w_zret f_150_38 rk_150 h106.1 h106.2) h105)) h104)))) h103)))))) h102))))) h101))) h))
/-! ClosedRooms.perform(I)I -/
theorem f_151_0 : fnd 151 0 = some (0, .aload_n 0, 1, 0, 0, 0, 0) := ceB_eq (by decide +kernel)
theorem f_151_1 : fnd 151 1 = some (1, .getfield 20, 3, 0, 2, 2, 0) := ceB_eq (by decide +kernel)
theorem f_151_4 : fnd 151 4 = some (4, .ifCond .eq 11, 3, 0, 0, 0, 0) := ceB_eq (by decide +kernel)
theorem f_151_7 : fnd 151 7 = some (7, .aload_n 0, 1, 0, 0, 0, 0) := ceB_eq (by decide +kernel)
theorem f_151_8 : fnd 151 8 = some (8, .iload_n 1, 1, 0, 0, 0, 0) := ceB_eq (by decide +kernel)
theorem f_151_9 : fnd 151 9 = some (9, .invokevirtual 322, 3, 140, 2, 0, 0) := ceB_eq (by decide +kernel)
theorem f_151_12 : fnd 151 12 = some (12, .ifCond .ne 5, 3, 0, 0, 0, 0) := ceB_eq (by decide +kernel)
theorem f_151_15 : fnd 151 15 = some (15, .iconst (-1), 1, 0, 0, 0, 0) := ceB_eq (by decide +kernel)
theorem f_151_16 : fnd 151 16 = some (16, .ireturn, 1, 0, 0, 0, 0) := ceB_eq (by decide +kernel)
theorem f_151_17 : fnd 151 17 = some (17, .aload_n 0, 1, 0, 0, 0, 0) := ceB_eq (by decide +kernel)
theorem f_151_18 : fnd 151 18 = some (18, .getfield 26, 3, 0, 3, 3, 0) := ceB_eq (by decide +kernel)
theorem f_151_21 : fnd 151 21 = some (21, .iload_n 1, 1, 0, 0, 0, 0) := ceB_eq (by decide +kernel)
theorem f_151_22 : fnd 151 22 = some (22, .aaload, 1, 0, 0, 0, 0) := ceB_eq (by decide +kernel)
theorem f_151_23 : fnd 151 23 = some (23, .astore_n 2, 1, 0, 0, 0, 0) := ceB_eq (by decide +kernel)
theorem f_151_24 : fnd 151 24 = some (24, .iconst 0, 1, 0, 0, 0, 0) := ceB_eq (by decide +kernel)
theorem f_151_25 : fnd 151 25 = some (25, .istore_n 3, 1, 0, 0, 0, 0) := ceB_eq (by decide +kernel)
theorem f_151_26 : fnd 151 26 = some (26, .iload_n 3, 1, 0, 0, 0, 0) := ceB_eq (by decide +kernel)
theorem f_151_27 : fnd 151 27 = some (27, .aload_n 2, 1, 0, 0, 0, 0) := ceB_eq (by decide +kernel)
theorem f_151_28 : fnd 151 28 = some (28, .getfield 355, 3, 2, 0, 0, 0) := ceB_eq (by decide +kernel)
theorem f_151_31 : fnd 151 31 = some (31, .if_icmp .ge 18, 3, 0, 0, 0, 0) := ceB_eq (by decide +kernel)
theorem f_151_34 : fnd 151 34 = some (34, .aload_n 0, 1, 0, 0, 0, 0) := ceB_eq (by decide +kernel)
theorem f_151_35 : fnd 151 35 = some (35, .aload_n 2, 1, 0, 0, 0, 0) := ceB_eq (by decide +kernel)
theorem f_151_36 : fnd 151 36 = some (36, .iload_n 3, 1, 0, 0, 0, 0) := ceB_eq (by decide +kernel)
theorem f_151_37 : fnd 151 37 = some (37, .invokevirtual 360, 3, 150, 3, 0, 0) := ceB_eq (by decide +kernel)
theorem f_151_40 : fnd 151 40 = some (40, .ifCond .eq 9, 3, 0, 0, 0, 0) := ceB_eq (by decide +kernel)
theorem f_151_43 : fnd 151 43 = some (43, .iinc 3 1, 3, 0, 0, 0, 0) := ceB_eq (by decide +kernel)
theorem f_151_46 : fnd 151 46 = some (46, .goto (-20), 3, 0, 0, 0, 0) := ceB_eq (by decide +kernel)
theorem f_151_49 : fnd 151 49 = some (49, .iload_n 3, 1, 0, 0, 0, 0) := ceB_eq (by decide +kernel)
theorem f_151_50 : fnd 151 50 = some (50, .ireturn, 1, 0, 0, 0, 0) := ceB_eq (by decide +kernel)
theorem rk_151 : rkm 151 = 0 := by decide +kernel
theorem ml_151 : (mth 151).2.1 = 4 := by decide +kernel
set_option maxRecDepth 100000 in
theorem T_X_perform (k0 i0 x1 : Int) (σ : ST) (Q : Option AV → ST → Prop) (h :
  ((((bz (σ 0 k0 i0 2)) = 0 : Prop) →
    Q (some (.inl (-1))) σ) ∧
  (¬ ((bz (σ 0 k0 i0 2)) = 0) →
    wpM m_X_isScript [.inr (.inr (0, k0, i0)), .inl x1] σ (asI fun r101 s101 =>
    (((r101 ≠ 0 : Prop) →
      ((0 : Int) ≤ x1 ∧ (x1 : Int) < 4) ∧
      wp m_X_perform (26, [some (.inr (.inr (0, k0, i0))), some (.inl x1), some (.inr (.inr (5, x1, 0))), some (.inl 0)], [], s101) Q) ∧
    (¬ (r101 ≠ 0) →
      Q (some (.inl (-1))) s101)))))) :
  wpM m_X_perform [.inr (.inr (0, k0, i0)), .inl x1] σ Q :=
 wpM_of ml_151 (L := [some (.inr (.inr (0, k0, i0))), some (.inl x1), none, none]) rfl
 (w_aload_n (p' := 1) f_151_0 rfl rfl
 (w_getfield (p' := 4) f_151_1 rfl (x := .inl (bz (σ 0 k0 i0 2))) rfl rfl
 (w_if (p' := 15) (q' := 7) f_151_4 rfl rfl
 (fun c103 => w_iconst (p' := 16) f_151_15 rfl
 (w_iret f_151_16 rk_151 (h.1 c103)))
 (fun c103 => w_aload_n (p' := 8) f_151_7 rfl rfl
 (w_iload_n (p' := 9) f_151_8 rfl rfl
 (w_callV (p' := 12) f_151_9 rfl rfl rfl rfl rfl (r := []) rfl rfl (kI (.inr rk_140) fun r101 s101 h101 =>
 w_if (p' := 17) (q' := 15) f_151_12 rfl rfl
 (fun c102 => w_aload_n (p' := 18) f_151_17 rfl rfl
 (w_getfield (p' := 21) f_151_18 rfl (x := .inr (.inr (8, 0, 0))) rfl rfl
 (w_iload_n (p' := 22) f_151_21 rfl rfl
 (w_aaload (p' := 23) f_151_22 rfl (n := 4) rfl (x := (5, x1, 0)) rfl (h101.1 c102).1 rfl
 (w_astore_n (p' := 24) f_151_23 (L' := [some (.inr (.inr (0, k0, i0))), some (.inl x1), some (.inr (.inr (5, x1, 0))), none]) rfl rfl
 (w_iconst (p' := 25) f_151_24 rfl
 (w_istore_n (p' := 26) f_151_25 (L' := [some (.inr (.inr (0, k0, i0))), some (.inl x1), some (.inr (.inr (5, x1, 0))), some (.inl 0)]) rfl rfl
 ((h101.1 c102).2))))))))
 (fun c102 => w_iconst (p' := 16) f_151_15 rfl
 (w_iret f_151_16 rk_151 (h101.2 c102)))) (h.2 c103)))))))
set_option maxRecDepth 100000 in
theorem T_X_perform_26 (k0 i0 k2 i2 x3 : Int) (o1 : Option AV) (σ : ST) (Q : Option AV → ST → Prop) (h :
  ((((σ 5 k2 i2 0) ≤ x3 : Prop) →
    Q (some (.inl x3)) σ) ∧
  (¬ ((σ 5 k2 i2 0) ≤ x3) →
    wpM m_X_doesStep [.inr (.inr (0, k0, i0)), .inr (.inr (5, k2, i2)), .inl x3] σ (asI fun r101 s101 =>
    (((r101 = 0 : Prop) →
      Q (some (.inl x3)) s101) ∧
    (¬ (r101 = 0) →
      wp m_X_perform (26, [some (.inr (.inr (0, k0, i0))), o1, some (.inr (.inr (5, k2, i2))), some (.inl (wr (x3 + 1)))], [], s101) Q)))))) :
  wp m_X_perform (26, [some (.inr (.inr (0, k0, i0))), o1, some (.inr (.inr (5, k2, i2))), some (.inl x3)], [], σ) Q :=
 w_iload_n (p' := 27) f_151_26 rfl rfl
 (w_aload_n (p' := 28) f_151_27 rfl rfl
 (w_getfield (p' := 31) f_151_28 rfl (x := .inl (σ 5 k2 i2 0)) rfl rfl
 (w_icmp (p' := 49) (q' := 34) f_151_31 rfl rfl
 (fun c103 => w_iload_n (p' := 50) f_151_49 rfl rfl
 (w_iret f_151_50 rk_151 (h.1 c103)))
 (fun c103 => w_aload_n (p' := 35) f_151_34 rfl rfl
 (w_aload_n (p' := 36) f_151_35 rfl rfl
 (w_iload_n (p' := 37) f_151_36 rfl rfl
 (w_callV (p' := 40) f_151_37 rfl rfl rfl rfl rfl (r := []) rfl rfl (kI (.inr rk_150) fun r101 s101 h101 =>
 w_if (p' := 49) (q' := 43) f_151_40 rfl rfl
 (fun c102 => w_iload_n (p' := 50) f_151_49 rfl rfl
 (w_iret f_151_50 rk_151 (h101.1 c102)))
 (fun c102 => w_iinc (p' := 46) f_151_43 rfl (L' := [some (.inr (.inr (0, k0, i0))), o1, some (.inr (.inr (5, k2, i2))), some (.inl (wr (x3 + 1)))]) rfl rfl
 (w_goto (p' := 26) f_151_46 rfl
 ((h101.2 c102))))) (h.2 c103))))))))
/-! ClosedRooms$World.freePages()I -/
theorem f_152_0 : fnd 152 0 = some (0, .iconst 0, 1, 0, 0, 0, 0) := ceB_eq (by decide +kernel)
theorem f_152_1 : fnd 152 1 = some (1, .istore_n 1, 1, 0, 0, 0, 0) := ceB_eq (by decide +kernel)
theorem f_152_2 : fnd 152 2 = some (2, .iconst 0, 1, 0, 0, 0, 0) := ceB_eq (by decide +kernel)
theorem f_152_3 : fnd 152 3 = some (3, .istore_n 2, 1, 0, 0, 0, 0) := ceB_eq (by decide +kernel)
theorem f_152_4 : fnd 152 4 = some (4, .iload_n 2, 1, 0, 0, 0, 0) := ceB_eq (by decide +kernel)
theorem f_152_5 : fnd 152 5 = some (5, .aload_n 0, 1, 0, 0, 0, 0) := ceB_eq (by decide +kernel)
theorem f_152_6 : fnd 152 6 = some (6, .getfield 9, 3, 4, 0, 0, 0) := ceB_eq (by decide +kernel)
theorem f_152_9 : fnd 152 9 = some (9, .if_icmp .ge 35, 3, 0, 0, 0, 0) := ceB_eq (by decide +kernel)
theorem f_152_12 : fnd 152 12 = some (12, .aload_n 0, 1, 0, 0, 0, 0) := ceB_eq (by decide +kernel)
theorem f_152_13 : fnd 152 13 = some (13, .iload_n 2, 1, 0, 0, 0, 0) := ceB_eq (by decide +kernel)
theorem f_152_14 : fnd 152 14 = some (14, .invokevirtual 90, 3, 32, 2, 4, 0) := ceB_eq (by decide +kernel)
theorem f_152_17 : fnd 152 17 = some (17, .ifCond .eq 21, 3, 0, 0, 0, 0) := ceB_eq (by decide +kernel)
theorem f_152_20 : fnd 152 20 = some (20, .aload_n 0, 1, 0, 0, 0, 0) := ceB_eq (by decide +kernel)
theorem f_152_21 : fnd 152 21 = some (21, .getfield 29, 3, 4, 5, 5, 0) := ceB_eq (by decide +kernel)
theorem f_152_24 : fnd 152 24 = some (24, .iload_n 2, 1, 0, 0, 0, 0) := ceB_eq (by decide +kernel)
theorem f_152_25 : fnd 152 25 = some (25, .aaload, 1, 0, 0, 0, 0) := ceB_eq (by decide +kernel)
theorem f_152_26 : fnd 152 26 = some (26, .getfield 94, 3, 6, 0, 0, 0) := ceB_eq (by decide +kernel)
theorem f_152_29 : fnd 152 29 = some (29, .ifCond .ne 9, 3, 0, 0, 0, 0) := ceB_eq (by decide +kernel)
theorem f_152_32 : fnd 152 32 = some (32, .iload_n 1, 1, 0, 0, 0, 0) := ceB_eq (by decide +kernel)
theorem f_152_33 : fnd 152 33 = some (33, .iconst 1, 1, 0, 0, 0, 0) := ceB_eq (by decide +kernel)
theorem f_152_34 : fnd 152 34 = some (34, .iload_n 2, 1, 0, 0, 0, 0) := ceB_eq (by decide +kernel)
theorem f_152_35 : fnd 152 35 = some (35, .ishl, 1, 0, 0, 0, 0) := ceB_eq (by decide +kernel)
theorem f_152_36 : fnd 152 36 = some (36, .ior, 1, 0, 0, 0, 0) := ceB_eq (by decide +kernel)
theorem f_152_37 : fnd 152 37 = some (37, .istore_n 1, 1, 0, 0, 0, 0) := ceB_eq (by decide +kernel)
theorem f_152_38 : fnd 152 38 = some (38, .iinc 2 1, 3, 0, 0, 0, 0) := ceB_eq (by decide +kernel)
theorem f_152_41 : fnd 152 41 = some (41, .goto (-37), 3, 0, 0, 0, 0) := ceB_eq (by decide +kernel)
theorem f_152_44 : fnd 152 44 = some (44, .iload_n 1, 1, 0, 0, 0, 0) := ceB_eq (by decide +kernel)
theorem f_152_45 : fnd 152 45 = some (45, .ireturn, 1, 0, 0, 0, 0) := ceB_eq (by decide +kernel)
theorem rk_152 : rkm 152 = 0 := by decide +kernel
theorem ml_152 : (mth 152).2.1 = 3 := by decide +kernel
set_option maxRecDepth 100000 in
theorem T_World_freePages (k0 i0 : Int) (σ : ST) (Q : Option AV → ST → Prop) (h :
  wp m_World_freePages (4, [some (.inr (.inr (12, k0, i0))), some (.inl 0), some (.inl 0)], [], σ) Q) :
  wpM m_World_freePages [.inr (.inr (12, k0, i0))] σ Q :=
 wpM_of ml_152 (L := [some (.inr (.inr (12, k0, i0))), none, none]) rfl
 (w_iconst (p' := 1) f_152_0 rfl
 (w_istore_n (p' := 2) f_152_1 (L' := [some (.inr (.inr (12, k0, i0))), some (.inl 0), none]) rfl rfl
 (w_iconst (p' := 3) f_152_2 rfl
 (w_istore_n (p' := 4) f_152_3 (L' := [some (.inr (.inr (12, k0, i0))), some (.inl 0), some (.inl 0)]) rfl rfl
 (h)))))
set_option maxRecDepth 100000 in
theorem T_World_freePages_4 (k0 i0 x1 x2 : Int) (σ : ST) (Q : Option AV → ST → Prop) (h :
  ((((σ 12 k0 i0 0) ≤ x2 : Prop) →
    Q (some (.inl x1)) σ) ∧
  (¬ ((σ 12 k0 i0 0) ≤ x2) →
    wpM m_World_isPage [.inr (.inr (12, k0, i0)), .inl x2] σ (asI fun r101 s101 =>
    (((r101 = 0 : Prop) →
      wp m_World_freePages (4, [some (.inr (.inr (12, k0, i0))), some (.inl x1), some (.inl (wr (x2 + 1)))], [], s101) Q) ∧
    (¬ (r101 = 0) →
      ((0 : Int) ≤ x2 ∧ (x2 : Int) < 10) ∧
      ((((s101 14 k0 x2 0) ≠ 0 : Prop) →
        wp m_World_freePages (4, [some (.inr (.inr (12, k0, i0))), some (.inl x1), some (.inl (wr (x2 + 1)))], [], s101) Q) ∧
      (¬ ((s101 14 k0 x2 0) ≠ 0) →
        wp m_World_freePages (4, [some (.inr (.inr (12, k0, i0))), some (.inl (i_or x1 (i_shl 1 x2))), some (.inl (wr (x2 + 1)))], [], s101) Q)))))))) :
  wp m_World_freePages (4, [some (.inr (.inr (12, k0, i0))), some (.inl x1), some (.inl x2)], [], σ) Q :=
 w_iload_n (p' := 5) f_152_4 rfl rfl
 (w_aload_n (p' := 6) f_152_5 rfl rfl
 (w_getfield (p' := 9) f_152_6 rfl (x := .inl (σ 12 k0 i0 0)) rfl rfl
 (w_icmp (p' := 44) (q' := 12) f_152_9 rfl rfl
 (fun c104 => w_iload_n (p' := 45) f_152_44 rfl rfl
 (w_iret f_152_45 rk_152 (h.1 c104)))
 (fun c104 => w_aload_n (p' := 13) f_152_12 rfl rfl
 (w_iload_n (p' := 14) f_152_13 rfl rfl
 (w_callV (p' := 17) f_152_14 rfl rfl rfl rfl rfl (r := []) rfl rfl (kI (.inr rk_32) fun r101 s101 h101 =>
 w_if (p' := 38) (q' := 20) f_152_17 rfl rfl
 (fun c103 => w_iinc (p' := 41) f_152_38 rfl (L' := [some (.inr (.inr (12, k0, i0))), some (.inl x1), some (.inl (wr (x2 + 1)))]) rfl rfl
 (w_goto (p' := 4) f_152_41 rfl
 ((h101.1 c103))))
 (fun c103 => w_aload_n (p' := 21) f_152_20 rfl rfl
 (w_getfield (p' := 24) f_152_21 rfl (x := .inr (.inr (13, k0, 0))) rfl rfl
 (w_iload_n (p' := 25) f_152_24 rfl rfl
 (w_aaload (p' := 26) f_152_25 rfl (n := 10) rfl (x := (14, k0, x2)) rfl (h101.2 c103).1 rfl
 (w_getfield (p' := 29) f_152_26 rfl (x := .inl (s101 14 k0 x2 0)) rfl rfl
 (w_if (p' := 38) (q' := 32) f_152_29 rfl rfl
 (fun c102 => w_iinc (p' := 41) f_152_38 rfl (L' := [some (.inr (.inr (12, k0, i0))), some (.inl x1), some (.inl (wr (x2 + 1)))]) rfl rfl
 (w_goto (p' := 4) f_152_41 rfl
 (((h101.2 c103).2.1 c102))))
 (fun c102 => w_iload_n (p' := 33) f_152_32 rfl rfl
 (w_iconst (p' := 34) f_152_33 rfl
 (w_iload_n (p' := 35) f_152_34 rfl rfl
 (w_ishl (p' := 36) f_152_35 rfl
 (w_ior (p' := 37) f_152_36 rfl
 (w_istore_n (p' := 38) f_152_37 (L' := [some (.inr (.inr (12, k0, i0))), some (.inl (i_or x1 (i_shl 1 x2))), some (.inl x2)]) rfl rfl
 (w_iinc (p' := 41) f_152_38 rfl (L' := [some (.inr (.inr (12, k0, i0))), some (.inl (i_or x1 (i_shl 1 x2))), some (.inl (wr (x2 + 1)))]) rfl rfl
 (w_goto (p' := 4) f_152_41 rfl
 (((h101.2 c103).2.2 c102))))))))))))))))) (h.2 c104)))))))
/-! ClosedRooms$World.roomsThere()I -/
theorem f_153_0 : fnd 153 0 = some (0, .iconst 0, 1, 0, 0, 0, 0) := ceB_eq (by decide +kernel)
theorem f_153_1 : fnd 153 1 = some (1, .istore_n 1, 1, 0, 0, 0, 0) := ceB_eq (by decide +kernel)
theorem f_153_2 : fnd 153 2 = some (2, .iconst 0, 1, 0, 0, 0, 0) := ceB_eq (by decide +kernel)
theorem f_153_3 : fnd 153 3 = some (3, .istore_n 2, 1, 0, 0, 0, 0) := ceB_eq (by decide +kernel)
theorem f_153_4 : fnd 153 4 = some (4, .iload_n 2, 1, 0, 0, 0, 0) := ceB_eq (by decide +kernel)
theorem f_153_5 : fnd 153 5 = some (5, .iconst 4, 1, 0, 0, 0, 0) := ceB_eq (by decide +kernel)
theorem f_153_6 : fnd 153 6 = some (6, .if_icmp .ge 27, 3, 0, 0, 0, 0) := ceB_eq (by decide +kernel)
theorem f_153_9 : fnd 153 9 = some (9, .aload_n 0, 1, 0, 0, 0, 0) := ceB_eq (by decide +kernel)
theorem f_153_10 : fnd 153 10 = some (10, .getfield 35, 3, 4, 6, 6, 0) := ceB_eq (by decide +kernel)
theorem f_153_13 : fnd 153 13 = some (13, .iload_n 2, 1, 0, 0, 0, 0) := ceB_eq (by decide +kernel)
theorem f_153_14 : fnd 153 14 = some (14, .aaload, 1, 0, 0, 0, 0) := ceB_eq (by decide +kernel)
theorem f_153_15 : fnd 153 15 = some (15, .getfield 66, 3, 7, 0, 0, 0) := ceB_eq (by decide +kernel)
theorem f_153_18 : fnd 153 18 = some (18, .ifCond .eq 9, 3, 0, 0, 0, 0) := ceB_eq (by decide +kernel)
theorem f_153_21 : fnd 153 21 = some (21, .iload_n 1, 1, 0, 0, 0, 0) := ceB_eq (by decide +kernel)
theorem f_153_22 : fnd 153 22 = some (22, .iconst 1, 1, 0, 0, 0, 0) := ceB_eq (by decide +kernel)
theorem f_153_23 : fnd 153 23 = some (23, .iload_n 2, 1, 0, 0, 0, 0) := ceB_eq (by decide +kernel)
theorem f_153_24 : fnd 153 24 = some (24, .ishl, 1, 0, 0, 0, 0) := ceB_eq (by decide +kernel)
theorem f_153_25 : fnd 153 25 = some (25, .ior, 1, 0, 0, 0, 0) := ceB_eq (by decide +kernel)
theorem f_153_26 : fnd 153 26 = some (26, .istore_n 1, 1, 0, 0, 0, 0) := ceB_eq (by decide +kernel)
theorem f_153_27 : fnd 153 27 = some (27, .iinc 2 1, 3, 0, 0, 0, 0) := ceB_eq (by decide +kernel)
theorem f_153_30 : fnd 153 30 = some (30, .goto (-26), 3, 0, 0, 0, 0) := ceB_eq (by decide +kernel)
theorem f_153_33 : fnd 153 33 = some (33, .iload_n 1, 1, 0, 0, 0, 0) := ceB_eq (by decide +kernel)
theorem f_153_34 : fnd 153 34 = some (34, .ireturn, 1, 0, 0, 0, 0) := ceB_eq (by decide +kernel)
theorem rk_153 : rkm 153 = 0 := by decide +kernel
theorem ml_153 : (mth 153).2.1 = 3 := by decide +kernel
set_option maxRecDepth 100000 in
theorem T_World_roomsThere (k0 i0 : Int) (σ : ST) (Q : Option AV → ST → Prop) (h :
  wp m_World_roomsThere (4, [some (.inr (.inr (12, k0, i0))), some (.inl 0), some (.inl 0)], [], σ) Q) :
  wpM m_World_roomsThere [.inr (.inr (12, k0, i0))] σ Q :=
 wpM_of ml_153 (L := [some (.inr (.inr (12, k0, i0))), none, none]) rfl
 (w_iconst (p' := 1) f_153_0 rfl
 (w_istore_n (p' := 2) f_153_1 (L' := [some (.inr (.inr (12, k0, i0))), some (.inl 0), none]) rfl rfl
 (w_iconst (p' := 3) f_153_2 rfl
 (w_istore_n (p' := 4) f_153_3 (L' := [some (.inr (.inr (12, k0, i0))), some (.inl 0), some (.inl 0)]) rfl rfl
 (h)))))
set_option maxRecDepth 100000 in
theorem T_World_roomsThere_4 (k0 i0 x1 x2 : Int) (σ : ST) (Q : Option AV → ST → Prop) (h :
  (((4 ≤ x2 : Prop) →
    Q (some (.inl x1)) σ) ∧
  (¬ (4 ≤ x2) →
    ((0 : Int) ≤ x2 ∧ (x2 : Int) < 4) ∧
    ((((bz (σ 17 k0 x2 0)) = 0 : Prop) →
      wp m_World_roomsThere (4, [some (.inr (.inr (12, k0, i0))), some (.inl x1), some (.inl (wr (x2 + 1)))], [], σ) Q) ∧
    (¬ ((bz (σ 17 k0 x2 0)) = 0) →
      wp m_World_roomsThere (4, [some (.inr (.inr (12, k0, i0))), some (.inl (i_or x1 (i_shl 1 x2))), some (.inl (wr (x2 + 1)))], [], σ) Q))))) :
  wp m_World_roomsThere (4, [some (.inr (.inr (12, k0, i0))), some (.inl x1), some (.inl x2)], [], σ) Q :=
 w_iload_n (p' := 5) f_153_4 rfl rfl
 (w_iconst (p' := 6) f_153_5 rfl
 (w_icmp (p' := 33) (q' := 9) f_153_6 rfl rfl
 (fun c102 => w_iload_n (p' := 34) f_153_33 rfl rfl
 (w_iret f_153_34 rk_153 (h.1 c102)))
 (fun c102 => w_aload_n (p' := 10) f_153_9 rfl rfl
 (w_getfield (p' := 13) f_153_10 rfl (x := .inr (.inr (16, k0, 0))) rfl rfl
 (w_iload_n (p' := 14) f_153_13 rfl rfl
 (w_aaload (p' := 15) f_153_14 rfl (n := 4) rfl (x := (17, k0, x2)) rfl (h.2 c102).1 rfl
 (w_getfield (p' := 18) f_153_15 rfl (x := .inl (bz (σ 17 k0 x2 0))) rfl rfl
 (w_if (p' := 27) (q' := 21) f_153_18 rfl rfl
 (fun c101 => w_iinc (p' := 30) f_153_27 rfl (L' := [some (.inr (.inr (12, k0, i0))), some (.inl x1), some (.inl (wr (x2 + 1)))]) rfl rfl
 (w_goto (p' := 4) f_153_30 rfl
 (((h.2 c102).2.1 c101))))
 (fun c101 => w_iload_n (p' := 22) f_153_21 rfl rfl
 (w_iconst (p' := 23) f_153_22 rfl
 (w_iload_n (p' := 24) f_153_23 rfl rfl
 (w_ishl (p' := 25) f_153_24 rfl
 (w_ior (p' := 26) f_153_25 rfl
 (w_istore_n (p' := 27) f_153_26 (L' := [some (.inr (.inr (12, k0, i0))), some (.inl (i_or x1 (i_shl 1 x2))), some (.inl x2)]) rfl rfl
 (w_iinc (p' := 30) f_153_27 rfl (L' := [some (.inr (.inr (12, k0, i0))), some (.inl (i_or x1 (i_shl 1 x2))), some (.inl (wr (x2 + 1)))]) rfl rfl
 (w_goto (p' := 4) f_153_30 rfl
 (((h.2 c102).2.2 c101))))))))))))))))))
/-! ClosedRooms$World.coresInsideAny()I -/
theorem f_154_0 : fnd 154 0 = some (0, .iconst 0, 1, 0, 0, 0, 0) := ceB_eq (by decide +kernel)
theorem f_154_1 : fnd 154 1 = some (1, .istore_n 1, 1, 0, 0, 0, 0) := ceB_eq (by decide +kernel)
theorem f_154_2 : fnd 154 2 = some (2, .iconst 0, 1, 0, 0, 0, 0) := ceB_eq (by decide +kernel)
theorem f_154_3 : fnd 154 3 = some (3, .istore_n 2, 1, 0, 0, 0, 0) := ceB_eq (by decide +kernel)
theorem f_154_4 : fnd 154 4 = some (4, .iload_n 2, 1, 0, 0, 0, 0) := ceB_eq (by decide +kernel)
theorem f_154_5 : fnd 154 5 = some (5, .aload_n 0, 1, 0, 0, 0, 0) := ceB_eq (by decide +kernel)
theorem f_154_6 : fnd 154 6 = some (6, .getfield 15, 3, 4, 1, 1, 0) := ceB_eq (by decide +kernel)
theorem f_154_9 : fnd 154 9 = some (9, .if_icmp .ge 23, 3, 0, 0, 0, 0) := ceB_eq (by decide +kernel)
theorem f_154_12 : fnd 154 12 = some (12, .aload_n 0, 1, 0, 0, 0, 0) := ceB_eq (by decide +kernel)
theorem f_154_13 : fnd 154 13 = some (13, .iload_n 2, 1, 0, 0, 0, 0) := ceB_eq (by decide +kernel)
theorem f_154_14 : fnd 154 14 = some (14, .invokevirtual 173, 3, 70, 2, 4, 0) := ceB_eq (by decide +kernel)
theorem f_154_17 : fnd 154 17 = some (17, .ifCond .eq 9, 3, 0, 0, 0, 0) := ceB_eq (by decide +kernel)
theorem f_154_20 : fnd 154 20 = some (20, .iload_n 1, 1, 0, 0, 0, 0) := ceB_eq (by decide +kernel)
theorem f_154_21 : fnd 154 21 = some (21, .iconst 1, 1, 0, 0, 0, 0) := ceB_eq (by decide +kernel)
theorem f_154_22 : fnd 154 22 = some (22, .iload_n 2, 1, 0, 0, 0, 0) := ceB_eq (by decide +kernel)
theorem f_154_23 : fnd 154 23 = some (23, .ishl, 1, 0, 0, 0, 0) := ceB_eq (by decide +kernel)
theorem f_154_24 : fnd 154 24 = some (24, .ior, 1, 0, 0, 0, 0) := ceB_eq (by decide +kernel)
theorem f_154_25 : fnd 154 25 = some (25, .istore_n 1, 1, 0, 0, 0, 0) := ceB_eq (by decide +kernel)
theorem f_154_26 : fnd 154 26 = some (26, .iinc 2 1, 3, 0, 0, 0, 0) := ceB_eq (by decide +kernel)
theorem f_154_29 : fnd 154 29 = some (29, .goto (-25), 3, 0, 0, 0, 0) := ceB_eq (by decide +kernel)
theorem f_154_32 : fnd 154 32 = some (32, .iload_n 1, 1, 0, 0, 0, 0) := ceB_eq (by decide +kernel)
theorem f_154_33 : fnd 154 33 = some (33, .ireturn, 1, 0, 0, 0, 0) := ceB_eq (by decide +kernel)
theorem rk_154 : rkm 154 = 0 := by decide +kernel
theorem ml_154 : (mth 154).2.1 = 3 := by decide +kernel
set_option maxRecDepth 100000 in
theorem T_World_coresInsideAny (k0 i0 : Int) (σ : ST) (Q : Option AV → ST → Prop) (h :
  wp m_World_coresInsideAny (4, [some (.inr (.inr (12, k0, i0))), some (.inl 0), some (.inl 0)], [], σ) Q) :
  wpM m_World_coresInsideAny [.inr (.inr (12, k0, i0))] σ Q :=
 wpM_of ml_154 (L := [some (.inr (.inr (12, k0, i0))), none, none]) rfl
 (w_iconst (p' := 1) f_154_0 rfl
 (w_istore_n (p' := 2) f_154_1 (L' := [some (.inr (.inr (12, k0, i0))), some (.inl 0), none]) rfl rfl
 (w_iconst (p' := 3) f_154_2 rfl
 (w_istore_n (p' := 4) f_154_3 (L' := [some (.inr (.inr (12, k0, i0))), some (.inl 0), some (.inl 0)]) rfl rfl
 (h)))))
set_option maxRecDepth 100000 in
theorem T_World_coresInsideAny_4 (k0 i0 x1 x2 : Int) (σ : ST) (Q : Option AV → ST → Prop) (h :
  ((((σ 12 k0 i0 1) ≤ x2 : Prop) →
    Q (some (.inl x1)) σ) ∧
  (¬ ((σ 12 k0 i0 1) ≤ x2) →
    wpM m_World_isInside [.inr (.inr (12, k0, i0)), .inl x2] σ (asI fun r101 s101 =>
    (((r101 = 0 : Prop) →
      wp m_World_coresInsideAny (4, [some (.inr (.inr (12, k0, i0))), some (.inl x1), some (.inl (wr (x2 + 1)))], [], s101) Q) ∧
    (¬ (r101 = 0) →
      wp m_World_coresInsideAny (4, [some (.inr (.inr (12, k0, i0))), some (.inl (i_or x1 (i_shl 1 x2))), some (.inl (wr (x2 + 1)))], [], s101) Q)))))) :
  wp m_World_coresInsideAny (4, [some (.inr (.inr (12, k0, i0))), some (.inl x1), some (.inl x2)], [], σ) Q :=
 w_iload_n (p' := 5) f_154_4 rfl rfl
 (w_aload_n (p' := 6) f_154_5 rfl rfl
 (w_getfield (p' := 9) f_154_6 rfl (x := .inl (σ 12 k0 i0 1)) rfl rfl
 (w_icmp (p' := 32) (q' := 12) f_154_9 rfl rfl
 (fun c103 => w_iload_n (p' := 33) f_154_32 rfl rfl
 (w_iret f_154_33 rk_154 (h.1 c103)))
 (fun c103 => w_aload_n (p' := 13) f_154_12 rfl rfl
 (w_iload_n (p' := 14) f_154_13 rfl rfl
 (w_callV (p' := 17) f_154_14 rfl rfl rfl rfl rfl (r := []) rfl rfl (kI (.inr rk_70) fun r101 s101 h101 =>
 w_if (p' := 26) (q' := 20) f_154_17 rfl rfl
 (fun c102 => w_iinc (p' := 29) f_154_26 rfl (L' := [some (.inr (.inr (12, k0, i0))), some (.inl x1), some (.inl (wr (x2 + 1)))]) rfl rfl
 (w_goto (p' := 4) f_154_29 rfl
 ((h101.1 c102))))
 (fun c102 => w_iload_n (p' := 21) f_154_20 rfl rfl
 (w_iconst (p' := 22) f_154_21 rfl
 (w_iload_n (p' := 23) f_154_22 rfl rfl
 (w_ishl (p' := 24) f_154_23 rfl
 (w_ior (p' := 25) f_154_24 rfl
 (w_istore_n (p' := 26) f_154_25 (L' := [some (.inr (.inr (12, k0, i0))), some (.inl (i_or x1 (i_shl 1 x2))), some (.inl x2)]) rfl rfl
 (w_iinc (p' := 29) f_154_26 rfl (L' := [some (.inr (.inr (12, k0, i0))), some (.inl (i_or x1 (i_shl 1 x2))), some (.inl (wr (x2 + 1)))]) rfl rfl
 (w_goto (p' := 4) f_154_29 rfl
 ((h101.2 c102))))))))))) (h.2 c103)))))))
/-! ClosedRooms$World.copiesThere()I -/
theorem f_155_0 : fnd 155 0 = some (0, .iconst 0, 1, 0, 0, 0, 0) := ceB_eq (by decide +kernel)
theorem f_155_1 : fnd 155 1 = some (1, .istore_n 1, 1, 0, 0, 0, 0) := ceB_eq (by decide +kernel)
theorem f_155_2 : fnd 155 2 = some (2, .iconst 0, 1, 0, 0, 0, 0) := ceB_eq (by decide +kernel)
theorem f_155_3 : fnd 155 3 = some (3, .istore_n 2, 1, 0, 0, 0, 0) := ceB_eq (by decide +kernel)
theorem f_155_4 : fnd 155 4 = some (4, .iload_n 2, 1, 0, 0, 0, 0) := ceB_eq (by decide +kernel)
theorem f_155_5 : fnd 155 5 = some (5, .bipush 12, 2, 0, 0, 0, 0) := ceB_eq (by decide +kernel)
theorem f_155_7 : fnd 155 7 = some (7, .if_icmp .ge 27, 3, 0, 0, 0, 0) := ceB_eq (by decide +kernel)
theorem f_155_10 : fnd 155 10 = some (10, .aload_n 0, 1, 0, 0, 0, 0) := ceB_eq (by decide +kernel)
theorem f_155_11 : fnd 155 11 = some (11, .getfield 47, 3, 4, 8, 8, 0) := ceB_eq (by decide +kernel)
theorem f_155_14 : fnd 155 14 = some (14, .iload_n 2, 1, 0, 0, 0, 0) := ceB_eq (by decide +kernel)
theorem f_155_15 : fnd 155 15 = some (15, .aaload, 1, 0, 0, 0, 0) := ceB_eq (by decide +kernel)
theorem f_155_16 : fnd 155 16 = some (16, .getfield 72, 3, 9, 0, 0, 0) := ceB_eq (by decide +kernel)
theorem f_155_19 : fnd 155 19 = some (19, .ifCond .eq 9, 3, 0, 0, 0, 0) := ceB_eq (by decide +kernel)
theorem f_155_22 : fnd 155 22 = some (22, .iload_n 1, 1, 0, 0, 0, 0) := ceB_eq (by decide +kernel)
theorem f_155_23 : fnd 155 23 = some (23, .iconst 1, 1, 0, 0, 0, 0) := ceB_eq (by decide +kernel)
theorem f_155_24 : fnd 155 24 = some (24, .iload_n 2, 1, 0, 0, 0, 0) := ceB_eq (by decide +kernel)
theorem f_155_25 : fnd 155 25 = some (25, .ishl, 1, 0, 0, 0, 0) := ceB_eq (by decide +kernel)
theorem f_155_26 : fnd 155 26 = some (26, .ior, 1, 0, 0, 0, 0) := ceB_eq (by decide +kernel)
theorem f_155_27 : fnd 155 27 = some (27, .istore_n 1, 1, 0, 0, 0, 0) := ceB_eq (by decide +kernel)
theorem f_155_28 : fnd 155 28 = some (28, .iinc 2 1, 3, 0, 0, 0, 0) := ceB_eq (by decide +kernel)
theorem f_155_31 : fnd 155 31 = some (31, .goto (-27), 3, 0, 0, 0, 0) := ceB_eq (by decide +kernel)
theorem f_155_34 : fnd 155 34 = some (34, .iload_n 1, 1, 0, 0, 0, 0) := ceB_eq (by decide +kernel)
theorem f_155_35 : fnd 155 35 = some (35, .ireturn, 1, 0, 0, 0, 0) := ceB_eq (by decide +kernel)
theorem rk_155 : rkm 155 = 0 := by decide +kernel
theorem ml_155 : (mth 155).2.1 = 3 := by decide +kernel
set_option maxRecDepth 100000 in
theorem T_World_copiesThere (k0 i0 : Int) (σ : ST) (Q : Option AV → ST → Prop) (h :
  wp m_World_copiesThere (4, [some (.inr (.inr (12, k0, i0))), some (.inl 0), some (.inl 0)], [], σ) Q) :
  wpM m_World_copiesThere [.inr (.inr (12, k0, i0))] σ Q :=
 wpM_of ml_155 (L := [some (.inr (.inr (12, k0, i0))), none, none]) rfl
 (w_iconst (p' := 1) f_155_0 rfl
 (w_istore_n (p' := 2) f_155_1 (L' := [some (.inr (.inr (12, k0, i0))), some (.inl 0), none]) rfl rfl
 (w_iconst (p' := 3) f_155_2 rfl
 (w_istore_n (p' := 4) f_155_3 (L' := [some (.inr (.inr (12, k0, i0))), some (.inl 0), some (.inl 0)]) rfl rfl
 (h)))))
set_option maxRecDepth 100000 in
theorem T_World_copiesThere_4 (k0 i0 x1 x2 : Int) (σ : ST) (Q : Option AV → ST → Prop) (h :
  (((12 ≤ x2 : Prop) →
    Q (some (.inl x1)) σ) ∧
  (¬ (12 ≤ x2) →
    ((0 : Int) ≤ x2 ∧ (x2 : Int) < 12) ∧
    ((((bz (σ 25 k0 x2 0)) = 0 : Prop) →
      wp m_World_copiesThere (4, [some (.inr (.inr (12, k0, i0))), some (.inl x1), some (.inl (wr (x2 + 1)))], [], σ) Q) ∧
    (¬ ((bz (σ 25 k0 x2 0)) = 0) →
      wp m_World_copiesThere (4, [some (.inr (.inr (12, k0, i0))), some (.inl (i_or x1 (i_shl 1 x2))), some (.inl (wr (x2 + 1)))], [], σ) Q))))) :
  wp m_World_copiesThere (4, [some (.inr (.inr (12, k0, i0))), some (.inl x1), some (.inl x2)], [], σ) Q :=
 w_iload_n (p' := 5) f_155_4 rfl rfl
 (w_bipush (p' := 7) f_155_5 rfl
 (w_icmp (p' := 34) (q' := 10) f_155_7 rfl rfl
 (fun c102 => w_iload_n (p' := 35) f_155_34 rfl rfl
 (w_iret f_155_35 rk_155 (h.1 c102)))
 (fun c102 => w_aload_n (p' := 11) f_155_10 rfl rfl
 (w_getfield (p' := 14) f_155_11 rfl (x := .inr (.inr (24, k0, 0))) rfl rfl
 (w_iload_n (p' := 15) f_155_14 rfl rfl
 (w_aaload (p' := 16) f_155_15 rfl (n := 12) rfl (x := (25, k0, x2)) rfl (h.2 c102).1 rfl
 (w_getfield (p' := 19) f_155_16 rfl (x := .inl (bz (σ 25 k0 x2 0))) rfl rfl
 (w_if (p' := 28) (q' := 22) f_155_19 rfl rfl
 (fun c101 => w_iinc (p' := 31) f_155_28 rfl (L' := [some (.inr (.inr (12, k0, i0))), some (.inl x1), some (.inl (wr (x2 + 1)))]) rfl rfl
 (w_goto (p' := 4) f_155_31 rfl
 (((h.2 c102).2.1 c101))))
 (fun c101 => w_iload_n (p' := 23) f_155_22 rfl rfl
 (w_iconst (p' := 24) f_155_23 rfl
 (w_iload_n (p' := 25) f_155_24 rfl rfl
 (w_ishl (p' := 26) f_155_25 rfl
 (w_ior (p' := 27) f_155_26 rfl
 (w_istore_n (p' := 28) f_155_27 (L' := [some (.inr (.inr (12, k0, i0))), some (.inl (i_or x1 (i_shl 1 x2))), some (.inl x2)]) rfl rfl
 (w_iinc (p' := 31) f_155_28 rfl (L' := [some (.inr (.inr (12, k0, i0))), some (.inl (i_or x1 (i_shl 1 x2))), some (.inl (wr (x2 + 1)))]) rfl rfl
 (w_goto (p' := 4) f_155_31 rfl
 (((h.2 c102).2.2 c101))))))))))))))))))
/-! ClosedRooms$World.emptySlots()I -/
theorem f_156_0 : fnd 156 0 = some (0, .iconst 0, 1, 0, 0, 0, 0) := ceB_eq (by decide +kernel)
theorem f_156_1 : fnd 156 1 = some (1, .istore_n 1, 1, 0, 0, 0, 0) := ceB_eq (by decide +kernel)
theorem f_156_2 : fnd 156 2 = some (2, .iconst 0, 1, 0, 0, 0, 0) := ceB_eq (by decide +kernel)
theorem f_156_3 : fnd 156 3 = some (3, .istore_n 2, 1, 0, 0, 0, 0) := ceB_eq (by decide +kernel)
theorem f_156_4 : fnd 156 4 = some (4, .iload_n 2, 1, 0, 0, 0, 0) := ceB_eq (by decide +kernel)
theorem f_156_5 : fnd 156 5 = some (5, .aload_n 0, 1, 0, 0, 0, 0) := ceB_eq (by decide +kernel)
theorem f_156_6 : fnd 156 6 = some (6, .getfield 9, 3, 4, 0, 0, 0) := ceB_eq (by decide +kernel)
theorem f_156_9 : fnd 156 9 = some (9, .if_icmp .ge 29, 3, 0, 0, 0, 0) := ceB_eq (by decide +kernel)
theorem f_156_12 : fnd 156 12 = some (12, .aload_n 0, 1, 0, 0, 0, 0) := ceB_eq (by decide +kernel)
theorem f_156_13 : fnd 156 13 = some (13, .iload_n 2, 1, 0, 0, 0, 0) := ceB_eq (by decide +kernel)
theorem f_156_14 : fnd 156 14 = some (14, .invokevirtual 150, 3, 35, 2, 4, 0) := ceB_eq (by decide +kernel)
theorem f_156_17 : fnd 156 17 = some (17, .ifCond .eq 15, 3, 0, 0, 0, 0) := ceB_eq (by decide +kernel)
theorem f_156_20 : fnd 156 20 = some (20, .iload_n 1, 1, 0, 0, 0, 0) := ceB_eq (by decide +kernel)
theorem f_156_21 : fnd 156 21 = some (21, .aload_n 0, 1, 0, 0, 0, 0) := ceB_eq (by decide +kernel)
theorem f_156_22 : fnd 156 22 = some (22, .getfield 29, 3, 4, 5, 5, 0) := ceB_eq (by decide +kernel)
theorem f_156_25 : fnd 156 25 = some (25, .iload_n 2, 1, 0, 0, 0, 0) := ceB_eq (by decide +kernel)
theorem f_156_26 : fnd 156 26 = some (26, .aaload, 1, 0, 0, 0, 0) := ceB_eq (by decide +kernel)
theorem f_156_27 : fnd 156 27 = some (27, .invokevirtual 169, 3, 91, 1, 6, 0) := ceB_eq (by decide +kernel)
theorem f_156_30 : fnd 156 30 = some (30, .iadd, 1, 0, 0, 0, 0) := ceB_eq (by decide +kernel)
theorem f_156_31 : fnd 156 31 = some (31, .istore_n 1, 1, 0, 0, 0, 0) := ceB_eq (by decide +kernel)
theorem f_156_32 : fnd 156 32 = some (32, .iinc 2 1, 3, 0, 0, 0, 0) := ceB_eq (by decide +kernel)
theorem f_156_35 : fnd 156 35 = some (35, .goto (-31), 3, 0, 0, 0, 0) := ceB_eq (by decide +kernel)
theorem f_156_38 : fnd 156 38 = some (38, .iload_n 1, 1, 0, 0, 0, 0) := ceB_eq (by decide +kernel)
theorem f_156_39 : fnd 156 39 = some (39, .ireturn, 1, 0, 0, 0, 0) := ceB_eq (by decide +kernel)
theorem rk_156 : rkm 156 = 0 := by decide +kernel
theorem ml_156 : (mth 156).2.1 = 3 := by decide +kernel
set_option maxRecDepth 100000 in
theorem T_World_emptySlots (k0 i0 : Int) (σ : ST) (Q : Option AV → ST → Prop) (h :
  wp m_World_emptySlots (4, [some (.inr (.inr (12, k0, i0))), some (.inl 0), some (.inl 0)], [], σ) Q) :
  wpM m_World_emptySlots [.inr (.inr (12, k0, i0))] σ Q :=
 wpM_of ml_156 (L := [some (.inr (.inr (12, k0, i0))), none, none]) rfl
 (w_iconst (p' := 1) f_156_0 rfl
 (w_istore_n (p' := 2) f_156_1 (L' := [some (.inr (.inr (12, k0, i0))), some (.inl 0), none]) rfl rfl
 (w_iconst (p' := 3) f_156_2 rfl
 (w_istore_n (p' := 4) f_156_3 (L' := [some (.inr (.inr (12, k0, i0))), some (.inl 0), some (.inl 0)]) rfl rfl
 (h)))))
set_option maxRecDepth 100000 in
theorem T_World_emptySlots_4 (k0 i0 x1 x2 : Int) (σ : ST) (Q : Option AV → ST → Prop) (h :
  ((((σ 12 k0 i0 0) ≤ x2 : Prop) →
    Q (some (.inl x1)) σ) ∧
  (¬ ((σ 12 k0 i0 0) ≤ x2) →
    wpM m_World_isSlots [.inr (.inr (12, k0, i0)), .inl x2] σ (asI fun r101 s101 =>
    (((r101 = 0 : Prop) →
      wp m_World_emptySlots (4, [some (.inr (.inr (12, k0, i0))), some (.inl x1), some (.inl (wr (x2 + 1)))], [], s101) Q) ∧
    (¬ (r101 = 0) →
      ((0 : Int) ≤ x2 ∧ (x2 : Int) < 10) ∧
      wpM m_Page_emptySlots [.inr (.inr (14, k0, x2))] s101 (asI fun r102 s102 =>
      wp m_World_emptySlots (4, [some (.inr (.inr (12, k0, i0))), some (.inl (wr (x1 + r102))), some (.inl (wr (x2 + 1)))], [], s102) Q))))))) :
  wp m_World_emptySlots (4, [some (.inr (.inr (12, k0, i0))), some (.inl x1), some (.inl x2)], [], σ) Q :=
 w_iload_n (p' := 5) f_156_4 rfl rfl
 (w_aload_n (p' := 6) f_156_5 rfl rfl
 (w_getfield (p' := 9) f_156_6 rfl (x := .inl (σ 12 k0 i0 0)) rfl rfl
 (w_icmp (p' := 38) (q' := 12) f_156_9 rfl rfl
 (fun c104 => w_iload_n (p' := 39) f_156_38 rfl rfl
 (w_iret f_156_39 rk_156 (h.1 c104)))
 (fun c104 => w_aload_n (p' := 13) f_156_12 rfl rfl
 (w_iload_n (p' := 14) f_156_13 rfl rfl
 (w_callV (p' := 17) f_156_14 rfl rfl rfl rfl rfl (r := []) rfl rfl (kI (.inr rk_35) fun r101 s101 h101 =>
 w_if (p' := 32) (q' := 20) f_156_17 rfl rfl
 (fun c103 => w_iinc (p' := 35) f_156_32 rfl (L' := [some (.inr (.inr (12, k0, i0))), some (.inl x1), some (.inl (wr (x2 + 1)))]) rfl rfl
 (w_goto (p' := 4) f_156_35 rfl
 ((h101.1 c103))))
 (fun c103 => w_iload_n (p' := 21) f_156_20 rfl rfl
 (w_aload_n (p' := 22) f_156_21 rfl rfl
 (w_getfield (p' := 25) f_156_22 rfl (x := .inr (.inr (13, k0, 0))) rfl rfl
 (w_iload_n (p' := 26) f_156_25 rfl rfl
 (w_aaload (p' := 27) f_156_26 rfl (n := 10) rfl (x := (14, k0, x2)) rfl (h101.2 c103).1 rfl
 (w_callV (p' := 30) f_156_27 rfl rfl rfl rfl rfl (r := [.inl x1]) rfl rfl (kI (.inl rk_91) fun r102 s102 h102 =>
 w_iadd (p' := 31) f_156_30 rfl
 (w_istore_n (p' := 32) f_156_31 (L' := [some (.inr (.inr (12, k0, i0))), some (.inl (wr (x1 + r102))), some (.inl x2)]) rfl rfl
 (w_iinc (p' := 35) f_156_32 rfl (L' := [some (.inr (.inr (12, k0, i0))), some (.inl (wr (x1 + r102))), some (.inl (wr (x2 + 1)))]) rfl rfl
 (w_goto (p' := 4) f_156_35 rfl
 (h102))))) (h101.2 c103).2))))))) (h.2 c104)))))))
/-! ClosedRooms$World.blockedPages()I -/
theorem f_157_0 : fnd 157 0 = some (0, .iconst 0, 1, 0, 0, 0, 0) := ceB_eq (by decide +kernel)
theorem f_157_1 : fnd 157 1 = some (1, .istore_n 1, 1, 0, 0, 0, 0) := ceB_eq (by decide +kernel)
theorem f_157_2 : fnd 157 2 = some (2, .iconst 0, 1, 0, 0, 0, 0) := ceB_eq (by decide +kernel)
theorem f_157_3 : fnd 157 3 = some (3, .istore_n 2, 1, 0, 0, 0, 0) := ceB_eq (by decide +kernel)
theorem f_157_4 : fnd 157 4 = some (4, .iload_n 2, 1, 0, 0, 0, 0) := ceB_eq (by decide +kernel)
theorem f_157_5 : fnd 157 5 = some (5, .aload_n 0, 1, 0, 0, 0, 0) := ceB_eq (by decide +kernel)
theorem f_157_6 : fnd 157 6 = some (6, .getfield 9, 3, 4, 0, 0, 0) := ceB_eq (by decide +kernel)
theorem f_157_9 : fnd 157 9 = some (9, .if_icmp .ge 35, 3, 0, 0, 0, 0) := ceB_eq (by decide +kernel)
theorem f_157_12 : fnd 157 12 = some (12, .aload_n 0, 1, 0, 0, 0, 0) := ceB_eq (by decide +kernel)
theorem f_157_13 : fnd 157 13 = some (13, .iload_n 2, 1, 0, 0, 0, 0) := ceB_eq (by decide +kernel)
theorem f_157_14 : fnd 157 14 = some (14, .invokevirtual 90, 3, 32, 2, 4, 0) := ceB_eq (by decide +kernel)
theorem f_157_17 : fnd 157 17 = some (17, .ifCond .eq 21, 3, 0, 0, 0, 0) := ceB_eq (by decide +kernel)
theorem f_157_20 : fnd 157 20 = some (20, .aload_n 0, 1, 0, 0, 0, 0) := ceB_eq (by decide +kernel)
theorem f_157_21 : fnd 157 21 = some (21, .getfield 29, 3, 4, 5, 5, 0) := ceB_eq (by decide +kernel)
theorem f_157_24 : fnd 157 24 = some (24, .iload_n 2, 1, 0, 0, 0, 0) := ceB_eq (by decide +kernel)
theorem f_157_25 : fnd 157 25 = some (25, .aaload, 1, 0, 0, 0, 0) := ceB_eq (by decide +kernel)
theorem f_157_26 : fnd 157 26 = some (26, .getfield 127, 3, 6, 5, 5, 0) := ceB_eq (by decide +kernel)
theorem f_157_29 : fnd 157 29 = some (29, .ifCond .eq 9, 3, 0, 0, 0, 0) := ceB_eq (by decide +kernel)
theorem f_157_32 : fnd 157 32 = some (32, .iload_n 1, 1, 0, 0, 0, 0) := ceB_eq (by decide +kernel)
theorem f_157_33 : fnd 157 33 = some (33, .iconst 1, 1, 0, 0, 0, 0) := ceB_eq (by decide +kernel)
theorem f_157_34 : fnd 157 34 = some (34, .iload_n 2, 1, 0, 0, 0, 0) := ceB_eq (by decide +kernel)
theorem f_157_35 : fnd 157 35 = some (35, .ishl, 1, 0, 0, 0, 0) := ceB_eq (by decide +kernel)
theorem f_157_36 : fnd 157 36 = some (36, .ior, 1, 0, 0, 0, 0) := ceB_eq (by decide +kernel)
theorem f_157_37 : fnd 157 37 = some (37, .istore_n 1, 1, 0, 0, 0, 0) := ceB_eq (by decide +kernel)
theorem f_157_38 : fnd 157 38 = some (38, .iinc 2 1, 3, 0, 0, 0, 0) := ceB_eq (by decide +kernel)
theorem f_157_41 : fnd 157 41 = some (41, .goto (-37), 3, 0, 0, 0, 0) := ceB_eq (by decide +kernel)
theorem f_157_44 : fnd 157 44 = some (44, .iload_n 1, 1, 0, 0, 0, 0) := ceB_eq (by decide +kernel)
theorem f_157_45 : fnd 157 45 = some (45, .ireturn, 1, 0, 0, 0, 0) := ceB_eq (by decide +kernel)
theorem rk_157 : rkm 157 = 0 := by decide +kernel
theorem ml_157 : (mth 157).2.1 = 3 := by decide +kernel
set_option maxRecDepth 100000 in
theorem T_World_blockedPages (k0 i0 : Int) (σ : ST) (Q : Option AV → ST → Prop) (h :
  wp m_World_blockedPages (4, [some (.inr (.inr (12, k0, i0))), some (.inl 0), some (.inl 0)], [], σ) Q) :
  wpM m_World_blockedPages [.inr (.inr (12, k0, i0))] σ Q :=
 wpM_of ml_157 (L := [some (.inr (.inr (12, k0, i0))), none, none]) rfl
 (w_iconst (p' := 1) f_157_0 rfl
 (w_istore_n (p' := 2) f_157_1 (L' := [some (.inr (.inr (12, k0, i0))), some (.inl 0), none]) rfl rfl
 (w_iconst (p' := 3) f_157_2 rfl
 (w_istore_n (p' := 4) f_157_3 (L' := [some (.inr (.inr (12, k0, i0))), some (.inl 0), some (.inl 0)]) rfl rfl
 (h)))))
set_option maxRecDepth 100000 in
theorem T_World_blockedPages_4 (k0 i0 x1 x2 : Int) (σ : ST) (Q : Option AV → ST → Prop) (h :
  ((((σ 12 k0 i0 0) ≤ x2 : Prop) →
    Q (some (.inl x1)) σ) ∧
  (¬ ((σ 12 k0 i0 0) ≤ x2) →
    wpM m_World_isPage [.inr (.inr (12, k0, i0)), .inl x2] σ (asI fun r101 s101 =>
    (((r101 = 0 : Prop) →
      wp m_World_blockedPages (4, [some (.inr (.inr (12, k0, i0))), some (.inl x1), some (.inl (wr (x2 + 1)))], [], s101) Q) ∧
    (¬ (r101 = 0) →
      ((0 : Int) ≤ x2 ∧ (x2 : Int) < 10) ∧
      ((((bz (s101 14 k0 x2 5)) = 0 : Prop) →
        wp m_World_blockedPages (4, [some (.inr (.inr (12, k0, i0))), some (.inl x1), some (.inl (wr (x2 + 1)))], [], s101) Q) ∧
      (¬ ((bz (s101 14 k0 x2 5)) = 0) →
        wp m_World_blockedPages (4, [some (.inr (.inr (12, k0, i0))), some (.inl (i_or x1 (i_shl 1 x2))), some (.inl (wr (x2 + 1)))], [], s101) Q)))))))) :
  wp m_World_blockedPages (4, [some (.inr (.inr (12, k0, i0))), some (.inl x1), some (.inl x2)], [], σ) Q :=
 w_iload_n (p' := 5) f_157_4 rfl rfl
 (w_aload_n (p' := 6) f_157_5 rfl rfl
 (w_getfield (p' := 9) f_157_6 rfl (x := .inl (σ 12 k0 i0 0)) rfl rfl
 (w_icmp (p' := 44) (q' := 12) f_157_9 rfl rfl
 (fun c104 => w_iload_n (p' := 45) f_157_44 rfl rfl
 (w_iret f_157_45 rk_157 (h.1 c104)))
 (fun c104 => w_aload_n (p' := 13) f_157_12 rfl rfl
 (w_iload_n (p' := 14) f_157_13 rfl rfl
 (w_callV (p' := 17) f_157_14 rfl rfl rfl rfl rfl (r := []) rfl rfl (kI (.inr rk_32) fun r101 s101 h101 =>
 w_if (p' := 38) (q' := 20) f_157_17 rfl rfl
 (fun c103 => w_iinc (p' := 41) f_157_38 rfl (L' := [some (.inr (.inr (12, k0, i0))), some (.inl x1), some (.inl (wr (x2 + 1)))]) rfl rfl
 (w_goto (p' := 4) f_157_41 rfl
 ((h101.1 c103))))
 (fun c103 => w_aload_n (p' := 21) f_157_20 rfl rfl
 (w_getfield (p' := 24) f_157_21 rfl (x := .inr (.inr (13, k0, 0))) rfl rfl
 (w_iload_n (p' := 25) f_157_24 rfl rfl
 (w_aaload (p' := 26) f_157_25 rfl (n := 10) rfl (x := (14, k0, x2)) rfl (h101.2 c103).1 rfl
 (w_getfield (p' := 29) f_157_26 rfl (x := .inl (bz (s101 14 k0 x2 5))) rfl rfl
 (w_if (p' := 38) (q' := 32) f_157_29 rfl rfl
 (fun c102 => w_iinc (p' := 41) f_157_38 rfl (L' := [some (.inr (.inr (12, k0, i0))), some (.inl x1), some (.inl (wr (x2 + 1)))]) rfl rfl
 (w_goto (p' := 4) f_157_41 rfl
 (((h101.2 c103).2.1 c102))))
 (fun c102 => w_iload_n (p' := 33) f_157_32 rfl rfl
 (w_iconst (p' := 34) f_157_33 rfl
 (w_iload_n (p' := 35) f_157_34 rfl rfl
 (w_ishl (p' := 36) f_157_35 rfl
 (w_ior (p' := 37) f_157_36 rfl
 (w_istore_n (p' := 38) f_157_37 (L' := [some (.inr (.inr (12, k0, i0))), some (.inl (i_or x1 (i_shl 1 x2))), some (.inl x2)]) rfl rfl
 (w_iinc (p' := 41) f_157_38 rfl (L' := [some (.inr (.inr (12, k0, i0))), some (.inl (i_or x1 (i_shl 1 x2))), some (.inl (wr (x2 + 1)))]) rfl rfl
 (w_goto (p' := 4) f_157_41 rfl
 (((h101.2 c103).2.2 c102))))))))))))))))) (h.2 c104)))))))
/-! ClosedRooms$World.fullestRoom()I -/
theorem f_158_0 : fnd 158 0 = some (0, .iconst (-1), 1, 0, 0, 0, 0) := ceB_eq (by decide +kernel)
theorem f_158_1 : fnd 158 1 = some (1, .istore_n 1, 1, 0, 0, 0, 0) := ceB_eq (by decide +kernel)
theorem f_158_2 : fnd 158 2 = some (2, .iconst (-1), 1, 0, 0, 0, 0) := ceB_eq (by decide +kernel)
theorem f_158_3 : fnd 158 3 = some (3, .istore_n 2, 1, 0, 0, 0, 0) := ceB_eq (by decide +kernel)
theorem f_158_4 : fnd 158 4 = some (4, .iconst 0, 1, 0, 0, 0, 0) := ceB_eq (by decide +kernel)
theorem f_158_5 : fnd 158 5 = some (5, .istore_n 3, 1, 0, 0, 0, 0) := ceB_eq (by decide +kernel)
theorem f_158_6 : fnd 158 6 = some (6, .iload_n 3, 1, 0, 0, 0, 0) := ceB_eq (by decide +kernel)
theorem f_158_7 : fnd 158 7 = some (7, .iconst 4, 1, 0, 0, 0, 0) := ceB_eq (by decide +kernel)
theorem f_158_8 : fnd 158 8 = some (8, .if_icmp .ge 34, 3, 0, 0, 0, 0) := ceB_eq (by decide +kernel)
theorem f_158_11 : fnd 158 11 = some (11, .aload_n 0, 1, 0, 0, 0, 0) := ceB_eq (by decide +kernel)
theorem f_158_12 : fnd 158 12 = some (12, .iload_n 3, 1, 0, 0, 0, 0) := ceB_eq (by decide +kernel)
theorem f_158_13 : fnd 158 13 = some (13, .invokevirtual 107, 3, 37, 2, 4, 0) := ceB_eq (by decide +kernel)
theorem f_158_16 : fnd 158 16 = some (16, .ifCond .eq 20, 3, 0, 0, 0, 0) := ceB_eq (by decide +kernel)
theorem f_158_19 : fnd 158 19 = some (19, .aload_n 0, 1, 0, 0, 0, 0) := ceB_eq (by decide +kernel)
theorem f_158_20 : fnd 158 20 = some (20, .iload_n 3, 1, 0, 0, 0, 0) := ceB_eq (by decide +kernel)
theorem f_158_21 : fnd 158 21 = some (21, .invokevirtual 119, 3, 82, 2, 4, 0) := ceB_eq (by decide +kernel)
theorem f_158_24 : fnd 158 24 = some (24, .iload_n 2, 1, 0, 0, 0, 0) := ceB_eq (by decide +kernel)
theorem f_158_25 : fnd 158 25 = some (25, .if_icmp .le 11, 3, 0, 0, 0, 0) := ceB_eq (by decide +kernel)
theorem f_158_28 : fnd 158 28 = some (28, .iload_n 3, 1, 0, 0, 0, 0) := ceB_eq (by decide +kernel)
theorem f_158_29 : fnd 158 29 = some (29, .istore_n 1, 1, 0, 0, 0, 0) := ceB_eq (by decide +kernel)
theorem f_158_30 : fnd 158 30 = some (30, .aload_n 0, 1, 0, 0, 0, 0) := ceB_eq (by decide +kernel)
theorem f_158_31 : fnd 158 31 = some (31, .iload_n 3, 1, 0, 0, 0, 0) := ceB_eq (by decide +kernel)
theorem f_158_32 : fnd 158 32 = some (32, .invokevirtual 119, 3, 82, 2, 4, 0) := ceB_eq (by decide +kernel)
theorem f_158_35 : fnd 158 35 = some (35, .istore_n 2, 1, 0, 0, 0, 0) := ceB_eq (by decide +kernel)
theorem f_158_36 : fnd 158 36 = some (36, .iinc 3 1, 3, 0, 0, 0, 0) := ceB_eq (by decide +kernel)
theorem f_158_39 : fnd 158 39 = some (39, .goto (-33), 3, 0, 0, 0, 0) := ceB_eq (by decide +kernel)
theorem f_158_42 : fnd 158 42 = some (42, .iload_n 1, 1, 0, 0, 0, 0) := ceB_eq (by decide +kernel)
theorem f_158_43 : fnd 158 43 = some (43, .ireturn, 1, 0, 0, 0, 0) := ceB_eq (by decide +kernel)
theorem rk_158 : rkm 158 = 0 := by decide +kernel
theorem ml_158 : (mth 158).2.1 = 4 := by decide +kernel
set_option maxRecDepth 100000 in
theorem T_World_fullestRoom (k0 i0 : Int) (σ : ST) (Q : Option AV → ST → Prop) (h :
  wp m_World_fullestRoom (6, [some (.inr (.inr (12, k0, i0))), some (.inl (-1)), some (.inl (-1)), some (.inl 0)], [], σ) Q) :
  wpM m_World_fullestRoom [.inr (.inr (12, k0, i0))] σ Q :=
 wpM_of ml_158 (L := [some (.inr (.inr (12, k0, i0))), none, none, none]) rfl
 (w_iconst (p' := 1) f_158_0 rfl
 (w_istore_n (p' := 2) f_158_1 (L' := [some (.inr (.inr (12, k0, i0))), some (.inl (-1)), none, none]) rfl rfl
 (w_iconst (p' := 3) f_158_2 rfl
 (w_istore_n (p' := 4) f_158_3 (L' := [some (.inr (.inr (12, k0, i0))), some (.inl (-1)), some (.inl (-1)), none]) rfl rfl
 (w_iconst (p' := 5) f_158_4 rfl
 (w_istore_n (p' := 6) f_158_5 (L' := [some (.inr (.inr (12, k0, i0))), some (.inl (-1)), some (.inl (-1)), some (.inl 0)]) rfl rfl
 (h)))))))
set_option maxRecDepth 100000 in
theorem T_World_fullestRoom_6 (k0 i0 x1 x2 x3 : Int) (σ : ST) (Q : Option AV → ST → Prop) (h :
  (((4 ≤ x3 : Prop) →
    Q (some (.inl x1)) σ) ∧
  (¬ (4 ≤ x3) →
    wpM m_World_isRoom [.inr (.inr (12, k0, i0)), .inl x3] σ (asI fun r101 s101 =>
    (((r101 = 0 : Prop) →
      wp m_World_fullestRoom (6, [some (.inr (.inr (12, k0, i0))), some (.inl x1), some (.inl x2), some (.inl (wr (x3 + 1)))], [], s101) Q) ∧
    (¬ (r101 = 0) →
      wpM m_World_pagesHere [.inr (.inr (12, k0, i0)), .inl x3] s101 (asI fun r102 s102 =>
      (((r102 ≤ x2 : Prop) →
        wp m_World_fullestRoom (6, [some (.inr (.inr (12, k0, i0))), some (.inl x1), some (.inl x2), some (.inl (wr (x3 + 1)))], [], s102) Q) ∧
      (¬ (r102 ≤ x2) →
        wpM m_World_pagesHere [.inr (.inr (12, k0, i0)), .inl x3] s102 (asI fun r103 s103 =>
        wp m_World_fullestRoom (6, [some (.inr (.inr (12, k0, i0))), some (.inl x3), some (.inl r103), some (.inl (wr (x3 + 1)))], [], s103) Q)))))))))) :
  wp m_World_fullestRoom (6, [some (.inr (.inr (12, k0, i0))), some (.inl x1), some (.inl x2), some (.inl x3)], [], σ) Q :=
 w_iload_n (p' := 7) f_158_6 rfl rfl
 (w_iconst (p' := 8) f_158_7 rfl
 (w_icmp (p' := 42) (q' := 11) f_158_8 rfl rfl
 (fun c106 => w_iload_n (p' := 43) f_158_42 rfl rfl
 (w_iret f_158_43 rk_158 (h.1 c106)))
 (fun c106 => w_aload_n (p' := 12) f_158_11 rfl rfl
 (w_iload_n (p' := 13) f_158_12 rfl rfl
 (w_callV (p' := 16) f_158_13 rfl rfl rfl rfl rfl (r := []) rfl rfl (kI (.inr rk_37) fun r101 s101 h101 =>
 w_if (p' := 36) (q' := 19) f_158_16 rfl rfl
 (fun c105 => w_iinc (p' := 39) f_158_36 rfl (L' := [some (.inr (.inr (12, k0, i0))), some (.inl x1), some (.inl x2), some (.inl (wr (x3 + 1)))]) rfl rfl
 (w_goto (p' := 6) f_158_39 rfl
 ((h101.1 c105))))
 (fun c105 => w_aload_n (p' := 20) f_158_19 rfl rfl
 (w_iload_n (p' := 21) f_158_20 rfl rfl
 (w_callV (p' := 24) f_158_21 rfl rfl rfl rfl rfl (r := []) rfl rfl (kI (.inl rk_82) fun r102 s102 h102 =>
 w_iload_n (p' := 25) f_158_24 rfl rfl
 (w_icmp (p' := 36) (q' := 28) f_158_25 rfl rfl
 (fun c104 => w_iinc (p' := 39) f_158_36 rfl (L' := [some (.inr (.inr (12, k0, i0))), some (.inl x1), some (.inl x2), some (.inl (wr (x3 + 1)))]) rfl rfl
 (w_goto (p' := 6) f_158_39 rfl
 ((h102.1 c104))))
 (fun c104 => w_iload_n (p' := 29) f_158_28 rfl rfl
 (w_istore_n (p' := 30) f_158_29 (L' := [some (.inr (.inr (12, k0, i0))), some (.inl x3), some (.inl x2), some (.inl x3)]) rfl rfl
 (w_aload_n (p' := 31) f_158_30 rfl rfl
 (w_iload_n (p' := 32) f_158_31 rfl rfl
 (w_callV (p' := 35) f_158_32 rfl rfl rfl rfl rfl (r := []) rfl rfl (kI (.inl rk_82) fun r103 s103 h103 =>
 w_istore_n (p' := 36) f_158_35 (L' := [some (.inr (.inr (12, k0, i0))), some (.inl x3), some (.inl r103), some (.inl x3)]) rfl rfl
 (w_iinc (p' := 39) f_158_36 rfl (L' := [some (.inr (.inr (12, k0, i0))), some (.inl x3), some (.inl r103), some (.inl (wr (x3 + 1)))]) rfl rfl
 (w_goto (p' := 6) f_158_39 rfl
 (h103)))) (h102.2 c104)))))))) (h101.2 c105))))) (h.2 c106))))))
/-! ClosedRooms.all(I)I -/
theorem f_159_0 : fnd 159 0 = some (0, .aload_n 0, 1, 0, 0, 0, 0) := ceB_eq (by decide +kernel)
theorem f_159_1 : fnd 159 1 = some (1, .getfield 20, 3, 0, 2, 2, 0) := ceB_eq (by decide +kernel)
theorem f_159_4 : fnd 159 4 = some (4, .ifCond .ne 6, 3, 0, 0, 0, 0) := ceB_eq (by decide +kernel)
theorem f_159_7 : fnd 159 7 = some (7, .ldc 116, 2, 0, 0, 0, (-1000000)) := ceB_eq (by decide +kernel)
theorem f_159_9 : fnd 159 9 = some (9, .ireturn, 1, 0, 0, 0, 0) := ceB_eq (by decide +kernel)
theorem f_159_10 : fnd 159 10 = some (10, .iload_n 1, 1, 0, 0, 0, 0) := ceB_eq (by decide +kernel)
theorem f_159_11 : fnd 159 11 = some (11, .tableswitch 121 0 8 #[49, 57, 65, 73, 81, 89, 97, 105, 113], 49, 0, 0, 0, 0) := ceB_eq (by decide +kernel)
theorem f_159_60 : fnd 159 60 = some (60, .aload_n 0, 1, 0, 0, 0, 0) := ceB_eq (by decide +kernel)
theorem f_159_61 : fnd 159 61 = some (61, .getfield 45, 3, 0, 6, 6, 0) := ceB_eq (by decide +kernel)
theorem f_159_64 : fnd 159 64 = some (64, .invokevirtual 364, 3, 152, 1, 4, 0) := ceB_eq (by decide +kernel)
theorem f_159_67 : fnd 159 67 = some (67, .ireturn, 1, 0, 0, 0, 0) := ceB_eq (by decide +kernel)
theorem f_159_68 : fnd 159 68 = some (68, .aload_n 0, 1, 0, 0, 0, 0) := ceB_eq (by decide +kernel)
theorem f_159_69 : fnd 159 69 = some (69, .getfield 45, 3, 0, 6, 6, 0) := ceB_eq (by decide +kernel)
theorem f_159_72 : fnd 159 72 = some (72, .invokevirtual 367, 3, 153, 1, 4, 0) := ceB_eq (by decide +kernel)
theorem f_159_75 : fnd 159 75 = some (75, .ireturn, 1, 0, 0, 0, 0) := ceB_eq (by decide +kernel)
theorem f_159_76 : fnd 159 76 = some (76, .aload_n 0, 1, 0, 0, 0, 0) := ceB_eq (by decide +kernel)
theorem f_159_77 : fnd 159 77 = some (77, .getfield 45, 3, 0, 6, 6, 0) := ceB_eq (by decide +kernel)
theorem f_159_80 : fnd 159 80 = some (80, .invokevirtual 370, 3, 154, 1, 4, 0) := ceB_eq (by decide +kernel)
theorem f_159_83 : fnd 159 83 = some (83, .ireturn, 1, 0, 0, 0, 0) := ceB_eq (by decide +kernel)
theorem f_159_84 : fnd 159 84 = some (84, .aload_n 0, 1, 0, 0, 0, 0) := ceB_eq (by decide +kernel)
theorem f_159_85 : fnd 159 85 = some (85, .getfield 45, 3, 0, 6, 6, 0) := ceB_eq (by decide +kernel)
theorem f_159_88 : fnd 159 88 = some (88, .invokevirtual 373, 3, 155, 1, 4, 0) := ceB_eq (by decide +kernel)
theorem f_159_91 : fnd 159 91 = some (91, .ireturn, 1, 0, 0, 0, 0) := ceB_eq (by decide +kernel)
theorem f_159_92 : fnd 159 92 = some (92, .aload_n 0, 1, 0, 0, 0, 0) := ceB_eq (by decide +kernel)
theorem f_159_93 : fnd 159 93 = some (93, .getfield 45, 3, 0, 6, 6, 0) := ceB_eq (by decide +kernel)
theorem f_159_96 : fnd 159 96 = some (96, .getfield 376, 3, 4, 3, 3, 0) := ceB_eq (by decide +kernel)
theorem f_159_99 : fnd 159 99 = some (99, .ireturn, 1, 0, 0, 0, 0) := ceB_eq (by decide +kernel)
theorem f_159_100 : fnd 159 100 = some (100, .aload_n 0, 1, 0, 0, 0, 0) := ceB_eq (by decide +kernel)
theorem f_159_101 : fnd 159 101 = some (101, .getfield 45, 3, 0, 6, 6, 0) := ceB_eq (by decide +kernel)
theorem f_159_104 : fnd 159 104 = some (104, .getfield 379, 3, 4, 4, 4, 0) := ceB_eq (by decide +kernel)
theorem f_159_107 : fnd 159 107 = some (107, .ireturn, 1, 0, 0, 0, 0) := ceB_eq (by decide +kernel)
theorem f_159_108 : fnd 159 108 = some (108, .aload_n 0, 1, 0, 0, 0, 0) := ceB_eq (by decide +kernel)
theorem f_159_109 : fnd 159 109 = some (109, .getfield 45, 3, 0, 6, 6, 0) := ceB_eq (by decide +kernel)
theorem f_159_112 : fnd 159 112 = some (112, .invokevirtual 382, 3, 156, 1, 4, 0) := ceB_eq (by decide +kernel)
theorem f_159_115 : fnd 159 115 = some (115, .ireturn, 1, 0, 0, 0, 0) := ceB_eq (by decide +kernel)
theorem f_159_116 : fnd 159 116 = some (116, .aload_n 0, 1, 0, 0, 0, 0) := ceB_eq (by decide +kernel)
theorem f_159_117 : fnd 159 117 = some (117, .getfield 45, 3, 0, 6, 6, 0) := ceB_eq (by decide +kernel)
theorem f_159_120 : fnd 159 120 = some (120, .invokevirtual 385, 3, 157, 1, 4, 0) := ceB_eq (by decide +kernel)
theorem f_159_123 : fnd 159 123 = some (123, .ireturn, 1, 0, 0, 0, 0) := ceB_eq (by decide +kernel)
theorem f_159_124 : fnd 159 124 = some (124, .aload_n 0, 1, 0, 0, 0, 0) := ceB_eq (by decide +kernel)
theorem f_159_125 : fnd 159 125 = some (125, .getfield 45, 3, 0, 6, 6, 0) := ceB_eq (by decide +kernel)
theorem f_159_128 : fnd 159 128 = some (128, .invokevirtual 388, 3, 158, 1, 4, 0) := ceB_eq (by decide +kernel)
theorem f_159_131 : fnd 159 131 = some (131, .ireturn, 1, 0, 0, 0, 0) := ceB_eq (by decide +kernel)
theorem f_159_132 : fnd 159 132 = some (132, .ldc 116, 2, 0, 0, 0, (-1000000)) := ceB_eq (by decide +kernel)
theorem f_159_134 : fnd 159 134 = some (134, .ireturn, 1, 0, 0, 0, 0) := ceB_eq (by decide +kernel)
theorem rk_159 : rkm 159 = 0 := by decide +kernel
theorem ml_159 : (mth 159).2.1 = 2 := by decide +kernel
set_option maxRecDepth 100000 in
theorem T_X_all (k0 i0 x1 : Int) (σ : ST) (Q : Option AV → ST → Prop) (h :
  ((((bz (σ 0 k0 i0 2)) ≠ 0 : Prop) →
    ((x1 = 0 →
      wpM m_World_freePages [.inr (.inr (12, 0, 0))] σ (asI fun r101 s101 =>
      Q (some (.inl r101)) s101)) ∧ (x1 ≠ 0 →
    ((x1 = 1 →
      wpM m_World_roomsThere [.inr (.inr (12, 0, 0))] σ (asI fun r102 s102 =>
      Q (some (.inl r102)) s102)) ∧ (x1 ≠ 1 →
    ((x1 = 2 →
      wpM m_World_coresInsideAny [.inr (.inr (12, 0, 0))] σ (asI fun r103 s103 =>
      Q (some (.inl r103)) s103)) ∧ (x1 ≠ 2 →
    ((x1 = 3 →
      wpM m_World_copiesThere [.inr (.inr (12, 0, 0))] σ (asI fun r104 s104 =>
      Q (some (.inl r104)) s104)) ∧ (x1 ≠ 3 →
    ((x1 = 4 →
      Q (some (.inl (σ 12 0 0 3))) σ) ∧ (x1 ≠ 4 →
    ((x1 = 5 →
      Q (some (.inl (σ 12 0 0 4))) σ) ∧ (x1 ≠ 5 →
    ((x1 = 6 →
      wpM m_World_emptySlots [.inr (.inr (12, 0, 0))] σ (asI fun r105 s105 =>
      Q (some (.inl r105)) s105)) ∧ (x1 ≠ 6 →
    ((x1 = 7 →
      wpM m_World_blockedPages [.inr (.inr (12, 0, 0))] σ (asI fun r106 s106 =>
      Q (some (.inl r106)) s106)) ∧ (x1 ≠ 7 →
    ((x1 = 8 →
      wpM m_World_fullestRoom [.inr (.inr (12, 0, 0))] σ (asI fun r107 s107 =>
      Q (some (.inl r107)) s107)) ∧ (x1 ≠ 8 →
      Q (some (.inl (-1000000))) σ))))))))))))))))))) ∧
  (¬ ((bz (σ 0 k0 i0 2)) ≠ 0) →
    Q (some (.inl (-1000000))) σ))) :
  wpM m_X_all [.inr (.inr (0, k0, i0)), .inl x1] σ Q :=
 wpM_of ml_159 (L := [some (.inr (.inr (0, k0, i0))), some (.inl x1)]) rfl
 (w_aload_n (p' := 1) f_159_0 rfl rfl
 (w_getfield (p' := 4) f_159_1 rfl (x := .inl (bz (σ 0 k0 i0 2))) rfl rfl
 (w_if (p' := 10) (q' := 7) f_159_4 rfl rfl
 (fun c109 => w_iload_n (p' := 11) f_159_10 rfl rfl
 (w_switch f_159_11 (cs := [(0, 60), (1, 68), (2, 76), (3, 84), (4, 92), (5, 100), (6, 108), (7, 116), (8, 124)]) rfl (d' := 132) rfl
 (⟨fun c108 => w_aload_n (p' := 61) f_159_60 rfl rfl
 (w_getfield (p' := 64) f_159_61 rfl (x := .inr (.inr (12, 0, 0))) rfl rfl
 (w_callV (p' := 67) f_159_64 rfl rfl rfl rfl rfl (r := []) rfl rfl (kI (.inl rk_152) fun r101 s101 h101 =>
 w_iret f_159_67 rk_159 h101) ((h.1 c109).1 c108))), fun c108_0 =>
 ⟨fun c108 => w_aload_n (p' := 69) f_159_68 rfl rfl
 (w_getfield (p' := 72) f_159_69 rfl (x := .inr (.inr (12, 0, 0))) rfl rfl
 (w_callV (p' := 75) f_159_72 rfl rfl rfl rfl rfl (r := []) rfl rfl (kI (.inl rk_153) fun r102 s102 h102 =>
 w_iret f_159_75 rk_159 h102) (((h.1 c109).2 c108_0).1 c108))), fun c108_1 =>
 ⟨fun c108 => w_aload_n (p' := 77) f_159_76 rfl rfl
 (w_getfield (p' := 80) f_159_77 rfl (x := .inr (.inr (12, 0, 0))) rfl rfl
 (w_callV (p' := 83) f_159_80 rfl rfl rfl rfl rfl (r := []) rfl rfl (kI (.inl rk_154) fun r103 s103 h103 =>
 w_iret f_159_83 rk_159 h103) ((((h.1 c109).2 c108_0).2 c108_1).1 c108))), fun c108_2 =>
 ⟨fun c108 => w_aload_n (p' := 85) f_159_84 rfl rfl
 (w_getfield (p' := 88) f_159_85 rfl (x := .inr (.inr (12, 0, 0))) rfl rfl
 (w_callV (p' := 91) f_159_88 rfl rfl rfl rfl rfl (r := []) rfl rfl (kI (.inl rk_155) fun r104 s104 h104 =>
 w_iret f_159_91 rk_159 h104) (((((h.1 c109).2 c108_0).2 c108_1).2 c108_2).1 c108))), fun c108_3 =>
 ⟨fun c108 => w_aload_n (p' := 93) f_159_92 rfl rfl
 (w_getfield (p' := 96) f_159_93 rfl (x := .inr (.inr (12, 0, 0))) rfl rfl
 (w_getfield (p' := 99) f_159_96 rfl (x := .inl (σ 12 0 0 3)) rfl rfl
 (w_iret f_159_99 rk_159 ((((((h.1 c109).2 c108_0).2 c108_1).2 c108_2).2 c108_3).1 c108)))), fun c108_4 =>
 ⟨fun c108 => w_aload_n (p' := 101) f_159_100 rfl rfl
 (w_getfield (p' := 104) f_159_101 rfl (x := .inr (.inr (12, 0, 0))) rfl rfl
 (w_getfield (p' := 107) f_159_104 rfl (x := .inl (σ 12 0 0 4)) rfl rfl
 (w_iret f_159_107 rk_159 (((((((h.1 c109).2 c108_0).2 c108_1).2 c108_2).2 c108_3).2 c108_4).1 c108)))), fun c108_5 =>
 ⟨fun c108 => w_aload_n (p' := 109) f_159_108 rfl rfl
 (w_getfield (p' := 112) f_159_109 rfl (x := .inr (.inr (12, 0, 0))) rfl rfl
 (w_callV (p' := 115) f_159_112 rfl rfl rfl rfl rfl (r := []) rfl rfl (kI (.inl rk_156) fun r105 s105 h105 =>
 w_iret f_159_115 rk_159 h105) ((((((((h.1 c109).2 c108_0).2 c108_1).2 c108_2).2 c108_3).2 c108_4).2 c108_5).1 c108))), fun c108_6 =>
 ⟨fun c108 => w_aload_n (p' := 117) f_159_116 rfl rfl
 (w_getfield (p' := 120) f_159_117 rfl (x := .inr (.inr (12, 0, 0))) rfl rfl
 (w_callV (p' := 123) f_159_120 rfl rfl rfl rfl rfl (r := []) rfl rfl (kI (.inl rk_157) fun r106 s106 h106 =>
 w_iret f_159_123 rk_159 h106) (((((((((h.1 c109).2 c108_0).2 c108_1).2 c108_2).2 c108_3).2 c108_4).2 c108_5).2 c108_6).1 c108))), fun c108_7 =>
 ⟨fun c108 => w_aload_n (p' := 125) f_159_124 rfl rfl
 (w_getfield (p' := 128) f_159_125 rfl (x := .inr (.inr (12, 0, 0))) rfl rfl
 (w_callV (p' := 131) f_159_128 rfl rfl rfl rfl rfl (r := []) rfl rfl (kI (.inl rk_158) fun r107 s107 h107 =>
 w_iret f_159_131 rk_159 h107) ((((((((((h.1 c109).2 c108_0).2 c108_1).2 c108_2).2 c108_3).2 c108_4).2 c108_5).2 c108_6).2 c108_7).1 c108))), fun c108_8 =>
 w_ldc (p' := 134) f_159_132 rfl
 (w_iret f_159_134 rk_159 ((((((((((h.1 c109).2 c108_0).2 c108_1).2 c108_2).2 c108_3).2 c108_4).2 c108_5).2 c108_6).2 c108_7).2 c108_8))⟩⟩⟩⟩⟩⟩⟩⟩⟩)))
 (fun c109 => w_ldc (p' := 9) f_159_7 rfl
 (w_iret f_159_9 rk_159 (h.2 c109))))))
/-! java/lang/Integer.bitCount(I)I -/
theorem f_160_0 : fnd 160 0 = some (0, .iload_n 0, 1, 0, 0, 0, 0) := ceB_eq (by decide +kernel)
theorem f_160_1 : fnd 160 1 = some (1, .iload_n 0, 1, 0, 0, 0, 0) := ceB_eq (by decide +kernel)
theorem f_160_2 : fnd 160 2 = some (2, .iconst 1, 1, 0, 0, 0, 0) := ceB_eq (by decide +kernel)
theorem f_160_3 : fnd 160 3 = some (3, .iushr, 1, 0, 0, 0, 0) := ceB_eq (by decide +kernel)
theorem f_160_4 : fnd 160 4 = some (4, .ldc_w 265, 3, 0, 0, 0, 1431655765) := ceB_eq (by decide +kernel)
theorem f_160_7 : fnd 160 7 = some (7, .iand, 1, 0, 0, 0, 0) := ceB_eq (by decide +kernel)
theorem f_160_8 : fnd 160 8 = some (8, .isub, 1, 0, 0, 0, 0) := ceB_eq (by decide +kernel)
theorem f_160_9 : fnd 160 9 = some (9, .istore_n 0, 1, 0, 0, 0, 0) := ceB_eq (by decide +kernel)
theorem f_160_10 : fnd 160 10 = some (10, .iload_n 0, 1, 0, 0, 0, 0) := ceB_eq (by decide +kernel)
theorem f_160_11 : fnd 160 11 = some (11, .ldc_w 266, 3, 0, 0, 0, 858993459) := ceB_eq (by decide +kernel)
theorem f_160_14 : fnd 160 14 = some (14, .iand, 1, 0, 0, 0, 0) := ceB_eq (by decide +kernel)
theorem f_160_15 : fnd 160 15 = some (15, .iload_n 0, 1, 0, 0, 0, 0) := ceB_eq (by decide +kernel)
theorem f_160_16 : fnd 160 16 = some (16, .iconst 2, 1, 0, 0, 0, 0) := ceB_eq (by decide +kernel)
theorem f_160_17 : fnd 160 17 = some (17, .iushr, 1, 0, 0, 0, 0) := ceB_eq (by decide +kernel)
theorem f_160_18 : fnd 160 18 = some (18, .ldc_w 266, 3, 0, 0, 0, 858993459) := ceB_eq (by decide +kernel)
theorem f_160_21 : fnd 160 21 = some (21, .iand, 1, 0, 0, 0, 0) := ceB_eq (by decide +kernel)
theorem f_160_22 : fnd 160 22 = some (22, .iadd, 1, 0, 0, 0, 0) := ceB_eq (by decide +kernel)
theorem f_160_23 : fnd 160 23 = some (23, .istore_n 0, 1, 0, 0, 0, 0) := ceB_eq (by decide +kernel)
theorem f_160_24 : fnd 160 24 = some (24, .iload_n 0, 1, 0, 0, 0, 0) := ceB_eq (by decide +kernel)
theorem f_160_25 : fnd 160 25 = some (25, .iload_n 0, 1, 0, 0, 0, 0) := ceB_eq (by decide +kernel)
theorem f_160_26 : fnd 160 26 = some (26, .iconst 4, 1, 0, 0, 0, 0) := ceB_eq (by decide +kernel)
theorem f_160_27 : fnd 160 27 = some (27, .iushr, 1, 0, 0, 0, 0) := ceB_eq (by decide +kernel)
theorem f_160_28 : fnd 160 28 = some (28, .iadd, 1, 0, 0, 0, 0) := ceB_eq (by decide +kernel)
theorem f_160_29 : fnd 160 29 = some (29, .ldc_w 267, 3, 0, 0, 0, 252645135) := ceB_eq (by decide +kernel)
theorem f_160_32 : fnd 160 32 = some (32, .iand, 1, 0, 0, 0, 0) := ceB_eq (by decide +kernel)
theorem f_160_33 : fnd 160 33 = some (33, .istore_n 0, 1, 0, 0, 0, 0) := ceB_eq (by decide +kernel)
theorem f_160_34 : fnd 160 34 = some (34, .iload_n 0, 1, 0, 0, 0, 0) := ceB_eq (by decide +kernel)
theorem f_160_35 : fnd 160 35 = some (35, .iload_n 0, 1, 0, 0, 0, 0) := ceB_eq (by decide +kernel)
theorem f_160_36 : fnd 160 36 = some (36, .bipush 8, 2, 0, 0, 0, 0) := ceB_eq (by decide +kernel)
theorem f_160_38 : fnd 160 38 = some (38, .iushr, 1, 0, 0, 0, 0) := ceB_eq (by decide +kernel)
theorem f_160_39 : fnd 160 39 = some (39, .iadd, 1, 0, 0, 0, 0) := ceB_eq (by decide +kernel)
theorem f_160_40 : fnd 160 40 = some (40, .istore_n 0, 1, 0, 0, 0, 0) := ceB_eq (by decide +kernel)
theorem f_160_41 : fnd 160 41 = some (41, .iload_n 0, 1, 0, 0, 0, 0) := ceB_eq (by decide +kernel)
theorem f_160_42 : fnd 160 42 = some (42, .iload_n 0, 1, 0, 0, 0, 0) := ceB_eq (by decide +kernel)
theorem f_160_43 : fnd 160 43 = some (43, .bipush 16, 2, 0, 0, 0, 0) := ceB_eq (by decide +kernel)
theorem f_160_45 : fnd 160 45 = some (45, .iushr, 1, 0, 0, 0, 0) := ceB_eq (by decide +kernel)
theorem f_160_46 : fnd 160 46 = some (46, .iadd, 1, 0, 0, 0, 0) := ceB_eq (by decide +kernel)
theorem f_160_47 : fnd 160 47 = some (47, .istore_n 0, 1, 0, 0, 0, 0) := ceB_eq (by decide +kernel)
theorem f_160_48 : fnd 160 48 = some (48, .iload_n 0, 1, 0, 0, 0, 0) := ceB_eq (by decide +kernel)
theorem f_160_49 : fnd 160 49 = some (49, .bipush 63, 2, 0, 0, 0, 0) := ceB_eq (by decide +kernel)
theorem f_160_51 : fnd 160 51 = some (51, .iand, 1, 0, 0, 0, 0) := ceB_eq (by decide +kernel)
theorem f_160_52 : fnd 160 52 = some (52, .ireturn, 1, 0, 0, 0, 0) := ceB_eq (by decide +kernel)
theorem rk_160 : rkm 160 = 0 := by decide +kernel
theorem ml_160 : (mth 160).2.1 = 1 := by decide +kernel
set_option maxRecDepth 100000 in
theorem T_JInteger_bitCount (x1 : Int) (σ : ST) (Q : Option AV → ST → Prop) (h :
  Q (some (.inl (i_and (wr ((wr ((i_and (wr ((wr ((i_and (wr (x1 - (i_and (i_ush x1 1) 1431655765))) 858993459) + (i_and (i_ush (wr (x1 - (i_and (i_ush x1 1) 1431655765))) 2) 858993459))) + (i_ush (wr ((i_and (wr (x1 - (i_and (i_ush x1 1) 1431655765))) 858993459) + (i_and (i_ush (wr (x1 - (i_and (i_ush x1 1) 1431655765))) 2) 858993459))) 4))) 252645135) + (i_ush (i_and (wr ((wr ((i_and (wr (x1 - (i_and (i_ush x1 1) 1431655765))) 858993459) + (i_and (i_ush (wr (x1 - (i_and (i_ush x1 1) 1431655765))) 2) 858993459))) + (i_ush (wr ((i_and (wr (x1 - (i_and (i_ush x1 1) 1431655765))) 858993459) + (i_and (i_ush (wr (x1 - (i_and (i_ush x1 1) 1431655765))) 2) 858993459))) 4))) 252645135) 8))) + (i_ush (wr ((i_and (wr ((wr ((i_and (wr (x1 - (i_and (i_ush x1 1) 1431655765))) 858993459) + (i_and (i_ush (wr (x1 - (i_and (i_ush x1 1) 1431655765))) 2) 858993459))) + (i_ush (wr ((i_and (wr (x1 - (i_and (i_ush x1 1) 1431655765))) 858993459) + (i_and (i_ush (wr (x1 - (i_and (i_ush x1 1) 1431655765))) 2) 858993459))) 4))) 252645135) + (i_ush (i_and (wr ((wr ((i_and (wr (x1 - (i_and (i_ush x1 1) 1431655765))) 858993459) + (i_and (i_ush (wr (x1 - (i_and (i_ush x1 1) 1431655765))) 2) 858993459))) + (i_ush (wr ((i_and (wr (x1 - (i_and (i_ush x1 1) 1431655765))) 858993459) + (i_and (i_ush (wr (x1 - (i_and (i_ush x1 1) 1431655765))) 2) 858993459))) 4))) 252645135) 8))) 16))) 63))) σ) :
  wpM m_JInteger_bitCount [.inl x1] σ Q :=
 wpM_of ml_160 (L := [some (.inl x1)]) rfl
 (w_iload_n (p' := 1) f_160_0 rfl rfl
 (w_iload_n (p' := 2) f_160_1 rfl rfl
 (w_iconst (p' := 3) f_160_2 rfl
 (w_iushr (p' := 4) f_160_3 rfl
 (w_ldc_w (p' := 7) f_160_4 rfl
 (w_iand (p' := 8) f_160_7 rfl
 (w_isub (p' := 9) f_160_8 rfl
 (w_istore_n (p' := 10) f_160_9 (L' := [some (.inl (wr (x1 - (i_and (i_ush x1 1) 1431655765))))]) rfl rfl
 (w_iload_n (p' := 11) f_160_10 rfl rfl
 (w_ldc_w (p' := 14) f_160_11 rfl
 (w_iand (p' := 15) f_160_14 rfl
 (w_iload_n (p' := 16) f_160_15 rfl rfl
 (w_iconst (p' := 17) f_160_16 rfl
 (w_iushr (p' := 18) f_160_17 rfl
 (w_ldc_w (p' := 21) f_160_18 rfl
 (w_iand (p' := 22) f_160_21 rfl
 (w_iadd (p' := 23) f_160_22 rfl
 (w_istore_n (p' := 24) f_160_23 (L' := [some (.inl (wr ((i_and (wr (x1 - (i_and (i_ush x1 1) 1431655765))) 858993459) + (i_and (i_ush (wr (x1 - (i_and (i_ush x1 1) 1431655765))) 2) 858993459))))]) rfl rfl
 (w_iload_n (p' := 25) f_160_24 rfl rfl
 (w_iload_n (p' := 26) f_160_25 rfl rfl
 (w_iconst (p' := 27) f_160_26 rfl
 (w_iushr (p' := 28) f_160_27 rfl
 (w_iadd (p' := 29) f_160_28 rfl
 (w_ldc_w (p' := 32) f_160_29 rfl
 (w_iand (p' := 33) f_160_32 rfl
 (w_istore_n (p' := 34) f_160_33 (L' := [some (.inl (i_and (wr ((wr ((i_and (wr (x1 - (i_and (i_ush x1 1) 1431655765))) 858993459) + (i_and (i_ush (wr (x1 - (i_and (i_ush x1 1) 1431655765))) 2) 858993459))) + (i_ush (wr ((i_and (wr (x1 - (i_and (i_ush x1 1) 1431655765))) 858993459) + (i_and (i_ush (wr (x1 - (i_and (i_ush x1 1) 1431655765))) 2) 858993459))) 4))) 252645135))]) rfl rfl
 (w_iload_n (p' := 35) f_160_34 rfl rfl
 (w_iload_n (p' := 36) f_160_35 rfl rfl
 (w_bipush (p' := 38) f_160_36 rfl
 (w_iushr (p' := 39) f_160_38 rfl
 (w_iadd (p' := 40) f_160_39 rfl
 (w_istore_n (p' := 41) f_160_40 (L' := [some (.inl (wr ((i_and (wr ((wr ((i_and (wr (x1 - (i_and (i_ush x1 1) 1431655765))) 858993459) + (i_and (i_ush (wr (x1 - (i_and (i_ush x1 1) 1431655765))) 2) 858993459))) + (i_ush (wr ((i_and (wr (x1 - (i_and (i_ush x1 1) 1431655765))) 858993459) + (i_and (i_ush (wr (x1 - (i_and (i_ush x1 1) 1431655765))) 2) 858993459))) 4))) 252645135) + (i_ush (i_and (wr ((wr ((i_and (wr (x1 - (i_and (i_ush x1 1) 1431655765))) 858993459) + (i_and (i_ush (wr (x1 - (i_and (i_ush x1 1) 1431655765))) 2) 858993459))) + (i_ush (wr ((i_and (wr (x1 - (i_and (i_ush x1 1) 1431655765))) 858993459) + (i_and (i_ush (wr (x1 - (i_and (i_ush x1 1) 1431655765))) 2) 858993459))) 4))) 252645135) 8))))]) rfl rfl
 (w_iload_n (p' := 42) f_160_41 rfl rfl
 (w_iload_n (p' := 43) f_160_42 rfl rfl
 (w_bipush (p' := 45) f_160_43 rfl
 (w_iushr (p' := 46) f_160_45 rfl
 (w_iadd (p' := 47) f_160_46 rfl
 (w_istore_n (p' := 48) f_160_47 (L' := [some (.inl (wr ((wr ((i_and (wr ((wr ((i_and (wr (x1 - (i_and (i_ush x1 1) 1431655765))) 858993459) + (i_and (i_ush (wr (x1 - (i_and (i_ush x1 1) 1431655765))) 2) 858993459))) + (i_ush (wr ((i_and (wr (x1 - (i_and (i_ush x1 1) 1431655765))) 858993459) + (i_and (i_ush (wr (x1 - (i_and (i_ush x1 1) 1431655765))) 2) 858993459))) 4))) 252645135) + (i_ush (i_and (wr ((wr ((i_and (wr (x1 - (i_and (i_ush x1 1) 1431655765))) 858993459) + (i_and (i_ush (wr (x1 - (i_and (i_ush x1 1) 1431655765))) 2) 858993459))) + (i_ush (wr ((i_and (wr (x1 - (i_and (i_ush x1 1) 1431655765))) 858993459) + (i_and (i_ush (wr (x1 - (i_and (i_ush x1 1) 1431655765))) 2) 858993459))) 4))) 252645135) 8))) + (i_ush (wr ((i_and (wr ((wr ((i_and (wr (x1 - (i_and (i_ush x1 1) 1431655765))) 858993459) + (i_and (i_ush (wr (x1 - (i_and (i_ush x1 1) 1431655765))) 2) 858993459))) + (i_ush (wr ((i_and (wr (x1 - (i_and (i_ush x1 1) 1431655765))) 858993459) + (i_and (i_ush (wr (x1 - (i_and (i_ush x1 1) 1431655765))) 2) 858993459))) 4))) 252645135) + (i_ush (i_and (wr ((wr ((i_and (wr (x1 - (i_and (i_ush x1 1) 1431655765))) 858993459) + (i_and (i_ush (wr (x1 - (i_and (i_ush x1 1) 1431655765))) 2) 858993459))) + (i_ush (wr ((i_and (wr (x1 - (i_and (i_ush x1 1) 1431655765))) 858993459) + (i_and (i_ush (wr (x1 - (i_and (i_ush x1 1) 1431655765))) 2) 858993459))) 4))) 252645135) 8))) 16))))]) rfl rfl
 (w_iload_n (p' := 49) f_160_48 rfl rfl
 (w_bipush (p' := 51) f_160_49 rfl
 (w_iand (p' := 52) f_160_51 rfl
 (w_iret f_160_52 rk_160 h))))))))))))))))))))))))))))))))))))))))))
/-! ClosedRooms.image()I -/
theorem f_161_0 : fnd 161 0 = some (0, .aload_n 0, 1, 0, 0, 0, 0) := ceB_eq (by decide +kernel)
theorem f_161_1 : fnd 161 1 = some (1, .getfield 20, 3, 0, 2, 2, 0) := ceB_eq (by decide +kernel)
theorem f_161_4 : fnd 161 4 = some (4, .ifCond .ne 5, 3, 0, 0, 0, 0) := ceB_eq (by decide +kernel)
theorem f_161_7 : fnd 161 7 = some (7, .iconst (-1), 1, 0, 0, 0, 0) := ceB_eq (by decide +kernel)
theorem f_161_8 : fnd 161 8 = some (8, .ireturn, 1, 0, 0, 0, 0) := ceB_eq (by decide +kernel)
theorem f_161_9 : fnd 161 9 = some (9, .aload_n 0, 1, 0, 0, 0, 0) := ceB_eq (by decide +kernel)
theorem f_161_10 : fnd 161 10 = some (10, .getfield 52, 3, 0, 8, 8, 0) := ceB_eq (by decide +kernel)
theorem f_161_13 : fnd 161 13 = some (13, .aload_n 0, 1, 0, 0, 0, 0) := ceB_eq (by decide +kernel)
theorem f_161_14 : fnd 161 14 = some (14, .getfield 45, 3, 0, 6, 6, 0) := ceB_eq (by decide +kernel)
theorem f_161_17 : fnd 161 17 = some (17, .invokevirtual 252, 3, 52, 2, 4, 0) := ceB_eq (by decide +kernel)
theorem f_161_20 : fnd 161 20 = some (20, .aload_n 0, 1, 0, 0, 0, 0) := ceB_eq (by decide +kernel)
theorem f_161_21 : fnd 161 21 = some (21, .iconst 1, 1, 0, 0, 0, 0) := ceB_eq (by decide +kernel)
theorem f_161_22 : fnd 161 22 = some (22, .putfield 55, 3, 0, 9, 9, 0) := ceB_eq (by decide +kernel)
theorem f_161_25 : fnd 161 25 = some (25, .aload_n 0, 1, 0, 0, 0, 0) := ceB_eq (by decide +kernel)
theorem f_161_26 : fnd 161 26 = some (26, .getfield 45, 3, 0, 6, 6, 0) := ceB_eq (by decide +kernel)
theorem f_161_29 : fnd 161 29 = some (29, .invokevirtual 364, 3, 152, 1, 4, 0) := ceB_eq (by decide +kernel)
theorem f_161_32 : fnd 161 32 = some (32, .invokestatic 391, 3, 160, 1, 12, 0) := ceB_eq (by decide +kernel)
theorem f_161_35 : fnd 161 35 = some (35, .ireturn, 1, 0, 0, 0, 0) := ceB_eq (by decide +kernel)
theorem rk_161 : rkm 161 = 0 := by decide +kernel
theorem ml_161 : (mth 161).2.1 = 1 := by decide +kernel
set_option maxRecDepth 100000 in
theorem T_X_image (k0 i0 : Int) (σ : ST) (Q : Option AV → ST → Prop) (h :
  ((((bz (σ 0 k0 i0 2)) ≠ 0 : Prop) →
    wpM m_World_take [.inr (.inr (12, 2, 0)), .inr (.inr (12, 0, 0))] σ (asV fun s101 =>
    ((1 : Int) = 0 ∨ (1 : Int) = 1) ∧
    wpM m_World_freePages [.inr (.inr (12, 0, 0))] (up s101 0 k0 i0 9 1) (asI fun r102 s102 =>
    wpM m_JInteger_bitCount [.inl r102] s102 (asI fun r103 s103 =>
    Q (some (.inl r103)) s103)))) ∧
  (¬ ((bz (σ 0 k0 i0 2)) ≠ 0) →
    Q (some (.inl (-1))) σ))) :
  wpM m_X_image [.inr (.inr (0, k0, i0))] σ Q :=
 wpM_of ml_161 (L := [some (.inr (.inr (0, k0, i0)))]) rfl
 (w_aload_n (p' := 1) f_161_0 rfl rfl
 (w_getfield (p' := 4) f_161_1 rfl (x := .inl (bz (σ 0 k0 i0 2))) rfl rfl
 (w_if (p' := 9) (q' := 7) f_161_4 rfl rfl
 (fun c104 => w_aload_n (p' := 10) f_161_9 rfl rfl
 (w_getfield (p' := 13) f_161_10 rfl (x := .inr (.inr (12, 2, 0))) rfl rfl
 (w_aload_n (p' := 14) f_161_13 rfl rfl
 (w_getfield (p' := 17) f_161_14 rfl (x := .inr (.inr (12, 0, 0))) rfl rfl
 (w_callV (p' := 20) f_161_17 rfl rfl rfl rfl rfl (r := []) rfl rfl (kV rk_52 fun s101 h101 =>
 w_aload_n (p' := 21) f_161_20 rfl rfl
 (w_iconst (p' := 22) f_161_21 rfl
 (w_putZ (p' := 25) f_161_22 rfl rfl (c' := 9) rfl h101.1 rfl
 (w_aload_n (p' := 26) f_161_25 rfl rfl
 (w_getfield (p' := 29) f_161_26 rfl (x := .inr (.inr (12, 0, 0))) rfl rfl
 (w_callV (p' := 32) f_161_29 rfl rfl rfl rfl rfl (r := []) rfl rfl (kI (.inl rk_152) fun r102 s102 h102 =>
 w_callS (p' := 35) f_161_32 rfl rfl rfl (r := []) rfl rfl (kI (.inl rk_160) fun r103 s103 h103 =>
 w_iret f_161_35 rk_161 h103) h102) h101.2)))))) (h.1 c104))))))
 (fun c104 => w_iconst (p' := 8) f_161_7 rfl
 (w_iret f_161_8 rk_161 (h.2 c104))))))
/-! ClosedRooms.back()I -/
theorem f_162_0 : fnd 162 0 = some (0, .aload_n 0, 1, 0, 0, 0, 0) := ceB_eq (by decide +kernel)
theorem f_162_1 : fnd 162 1 = some (1, .getfield 55, 3, 0, 9, 9, 0) := ceB_eq (by decide +kernel)
theorem f_162_4 : fnd 162 4 = some (4, .ifCond .ne 5, 3, 0, 0, 0, 0) := ceB_eq (by decide +kernel)
theorem f_162_7 : fnd 162 7 = some (7, .iconst (-1), 1, 0, 0, 0, 0) := ceB_eq (by decide +kernel)
theorem f_162_8 : fnd 162 8 = some (8, .ireturn, 1, 0, 0, 0, 0) := ceB_eq (by decide +kernel)
theorem f_162_9 : fnd 162 9 = some (9, .aload_n 0, 1, 0, 0, 0, 0) := ceB_eq (by decide +kernel)
theorem f_162_10 : fnd 162 10 = some (10, .getfield 45, 3, 0, 6, 6, 0) := ceB_eq (by decide +kernel)
theorem f_162_13 : fnd 162 13 = some (13, .aload_n 0, 1, 0, 0, 0, 0) := ceB_eq (by decide +kernel)
theorem f_162_14 : fnd 162 14 = some (14, .getfield 52, 3, 0, 8, 8, 0) := ceB_eq (by decide +kernel)
theorem f_162_17 : fnd 162 17 = some (17, .invokevirtual 252, 3, 52, 2, 4, 0) := ceB_eq (by decide +kernel)
theorem f_162_20 : fnd 162 20 = some (20, .aload_n 0, 1, 0, 0, 0, 0) := ceB_eq (by decide +kernel)
theorem f_162_21 : fnd 162 21 = some (21, .iconst 0, 1, 0, 0, 0, 0) := ceB_eq (by decide +kernel)
theorem f_162_22 : fnd 162 22 = some (22, .putfield 65, 3, 0, 12, 12, 0) := ceB_eq (by decide +kernel)
theorem f_162_25 : fnd 162 25 = some (25, .aload_n 0, 1, 0, 0, 0, 0) := ceB_eq (by decide +kernel)
theorem f_162_26 : fnd 162 26 = some (26, .getfield 45, 3, 0, 6, 6, 0) := ceB_eq (by decide +kernel)
theorem f_162_29 : fnd 162 29 = some (29, .invokevirtual 364, 3, 152, 1, 4, 0) := ceB_eq (by decide +kernel)
theorem f_162_32 : fnd 162 32 = some (32, .invokestatic 391, 3, 160, 1, 12, 0) := ceB_eq (by decide +kernel)
theorem f_162_35 : fnd 162 35 = some (35, .ireturn, 1, 0, 0, 0, 0) := ceB_eq (by decide +kernel)
theorem rk_162 : rkm 162 = 0 := by decide +kernel
theorem ml_162 : (mth 162).2.1 = 1 := by decide +kernel
set_option maxRecDepth 100000 in
theorem T_X_back (k0 i0 : Int) (σ : ST) (Q : Option AV → ST → Prop) (h :
  ((((bz (σ 0 k0 i0 9)) ≠ 0 : Prop) →
    wpM m_World_take [.inr (.inr (12, 0, 0)), .inr (.inr (12, 2, 0))] σ (asV fun s101 =>
    wpM m_World_freePages [.inr (.inr (12, 0, 0))] (up s101 0 k0 i0 12 0) (asI fun r102 s102 =>
    wpM m_JInteger_bitCount [.inl r102] s102 (asI fun r103 s103 =>
    Q (some (.inl r103)) s103)))) ∧
  (¬ ((bz (σ 0 k0 i0 9)) ≠ 0) →
    Q (some (.inl (-1))) σ))) :
  wpM m_X_back [.inr (.inr (0, k0, i0))] σ Q :=
 wpM_of ml_162 (L := [some (.inr (.inr (0, k0, i0)))]) rfl
 (w_aload_n (p' := 1) f_162_0 rfl rfl
 (w_getfield (p' := 4) f_162_1 rfl (x := .inl (bz (σ 0 k0 i0 9))) rfl rfl
 (w_if (p' := 9) (q' := 7) f_162_4 rfl rfl
 (fun c104 => w_aload_n (p' := 10) f_162_9 rfl rfl
 (w_getfield (p' := 13) f_162_10 rfl (x := .inr (.inr (12, 0, 0))) rfl rfl
 (w_aload_n (p' := 14) f_162_13 rfl rfl
 (w_getfield (p' := 17) f_162_14 rfl (x := .inr (.inr (12, 2, 0))) rfl rfl
 (w_callV (p' := 20) f_162_17 rfl rfl rfl rfl rfl (r := []) rfl rfl (kV rk_52 fun s101 h101 =>
 w_aload_n (p' := 21) f_162_20 rfl rfl
 (w_iconst (p' := 22) f_162_21 rfl
 (w_putI (p' := 25) f_162_22 rfl rfl (c' := 12) rfl rfl
 (w_aload_n (p' := 26) f_162_25 rfl rfl
 (w_getfield (p' := 29) f_162_26 rfl (x := .inr (.inr (12, 0, 0))) rfl rfl
 (w_callV (p' := 32) f_162_29 rfl rfl rfl rfl rfl (r := []) rfl rfl (kI (.inl rk_152) fun r102 s102 h102 =>
 w_callS (p' := 35) f_162_32 rfl rfl rfl (r := []) rfl rfl (kI (.inl rk_160) fun r103 s103 h103 =>
 w_iret f_162_35 rk_162 h103) h102) h101)))))) (h.1 c104))))))
 (fun c104 => w_iconst (p' := 8) f_162_7 rfl
 (w_iret f_162_8 rk_162 (h.2 c104))))))
/-! ClosedRooms.count(I)I -/
theorem f_163_0 : fnd 163 0 = some (0, .iload_n 1, 1, 0, 0, 0, 0) := ceB_eq (by decide +kernel)
theorem f_163_1 : fnd 163 1 = some (1, .tableswitch 72 0 4 #[35, 43, 48, 56, 67], 35, 0, 0, 0, 0) := ceB_eq (by decide +kernel)
theorem f_163_36 : fnd 163 36 = some (36, .aload_n 0, 1, 0, 0, 0, 0) := ceB_eq (by decide +kernel)
theorem f_163_37 : fnd 163 37 = some (37, .getfield 45, 3, 0, 6, 6, 0) := ceB_eq (by decide +kernel)
theorem f_163_40 : fnd 163 40 = some (40, .getfield 316, 3, 4, 0, 0, 0) := ceB_eq (by decide +kernel)
theorem f_163_43 : fnd 163 43 = some (43, .ireturn, 1, 0, 0, 0, 0) := ceB_eq (by decide +kernel)
theorem f_163_44 : fnd 163 44 = some (44, .aload_n 0, 1, 0, 0, 0, 0) := ceB_eq (by decide +kernel)
theorem f_163_45 : fnd 163 45 = some (45, .getfield 30, 3, 0, 4, 4, 0) := ceB_eq (by decide +kernel)
theorem f_163_48 : fnd 163 48 = some (48, .ireturn, 1, 0, 0, 0, 0) := ceB_eq (by decide +kernel)
theorem f_163_49 : fnd 163 49 = some (49, .aload_n 0, 1, 0, 0, 0, 0) := ceB_eq (by decide +kernel)
theorem f_163_50 : fnd 163 50 = some (50, .getfield 10, 3, 0, 0, 0, 0) := ceB_eq (by decide +kernel)
theorem f_163_53 : fnd 163 53 = some (53, .getfield 76, 3, 1, 0, 0, 0) := ceB_eq (by decide +kernel)
theorem f_163_56 : fnd 163 56 = some (56, .ireturn, 1, 0, 0, 0, 0) := ceB_eq (by decide +kernel)
theorem f_163_57 : fnd 163 57 = some (57, .aload_n 0, 1, 0, 0, 0, 0) := ceB_eq (by decide +kernel)
theorem f_163_58 : fnd 163 58 = some (58, .getfield 45, 3, 0, 6, 6, 0) := ceB_eq (by decide +kernel)
theorem f_163_61 : fnd 163 61 = some (61, .getfield 271, 3, 4, 9, 9, 0) := ceB_eq (by decide +kernel)
theorem f_163_64 : fnd 163 64 = some (64, .getfield 290, 3, 5, 0, 0, 0) := ceB_eq (by decide +kernel)
theorem f_163_67 : fnd 163 67 = some (67, .ireturn, 1, 0, 0, 0, 0) := ceB_eq (by decide +kernel)
theorem f_163_68 : fnd 163 68 = some (68, .aload_n 0, 1, 0, 0, 0, 0) := ceB_eq (by decide +kernel)
theorem f_163_69 : fnd 163 69 = some (69, .getfield 65, 3, 0, 12, 12, 0) := ceB_eq (by decide +kernel)
theorem f_163_72 : fnd 163 72 = some (72, .ireturn, 1, 0, 0, 0, 0) := ceB_eq (by decide +kernel)
theorem f_163_73 : fnd 163 73 = some (73, .ldc 116, 2, 0, 0, 0, (-1000000)) := ceB_eq (by decide +kernel)
theorem f_163_75 : fnd 163 75 = some (75, .ireturn, 1, 0, 0, 0, 0) := ceB_eq (by decide +kernel)
theorem rk_163 : rkm 163 = 0 := by decide +kernel
theorem ml_163 : (mth 163).2.1 = 2 := by decide +kernel
set_option maxRecDepth 100000 in
theorem T_X_count (k0 i0 x1 : Int) (σ : ST) (Q : Option AV → ST → Prop) (h :
  ((x1 = 0 →
    Q (some (.inl (σ 12 0 0 0))) σ) ∧ (x1 ≠ 0 →
  ((x1 = 1 →
    Q (some (.inl (σ 0 k0 i0 4))) σ) ∧ (x1 ≠ 1 →
  ((x1 = 2 →
    Q (some (.inl (σ 1 0 0 0))) σ) ∧ (x1 ≠ 2 →
  ((x1 = 3 →
    Q (some (.inl (σ 26 0 0 0))) σ) ∧ (x1 ≠ 3 →
  ((x1 = 4 →
    Q (some (.inl (σ 0 k0 i0 12))) σ) ∧ (x1 ≠ 4 →
    Q (some (.inl (-1000000))) σ))))))))))) :
  wpM m_X_count [.inr (.inr (0, k0, i0)), .inl x1] σ Q :=
 wpM_of ml_163 (L := [some (.inr (.inr (0, k0, i0))), some (.inl x1)]) rfl
 (w_iload_n (p' := 1) f_163_0 rfl rfl
 (w_switch f_163_1 (cs := [(0, 36), (1, 44), (2, 49), (3, 57), (4, 68)]) rfl (d' := 73) rfl
 (⟨fun c101 => w_aload_n (p' := 37) f_163_36 rfl rfl
 (w_getfield (p' := 40) f_163_37 rfl (x := .inr (.inr (12, 0, 0))) rfl rfl
 (w_getfield (p' := 43) f_163_40 rfl (x := .inl (σ 12 0 0 0)) rfl rfl
 (w_iret f_163_43 rk_163 (h.1 c101)))), fun c101_0 =>
 ⟨fun c101 => w_aload_n (p' := 45) f_163_44 rfl rfl
 (w_getfield (p' := 48) f_163_45 rfl (x := .inl (σ 0 k0 i0 4)) rfl rfl
 (w_iret f_163_48 rk_163 ((h.2 c101_0).1 c101))), fun c101_1 =>
 ⟨fun c101 => w_aload_n (p' := 50) f_163_49 rfl rfl
 (w_getfield (p' := 53) f_163_50 rfl (x := .inr (.inr (1, 0, 0))) rfl rfl
 (w_getfield (p' := 56) f_163_53 rfl (x := .inl (σ 1 0 0 0)) rfl rfl
 (w_iret f_163_56 rk_163 (((h.2 c101_0).2 c101_1).1 c101)))), fun c101_2 =>
 ⟨fun c101 => w_aload_n (p' := 58) f_163_57 rfl rfl
 (w_getfield (p' := 61) f_163_58 rfl (x := .inr (.inr (12, 0, 0))) rfl rfl
 (w_getfield (p' := 64) f_163_61 rfl (x := .inr (.inr (26, 0, 0))) rfl rfl
 (w_getfield (p' := 67) f_163_64 rfl (x := .inl (σ 26 0 0 0)) rfl rfl
 (w_iret f_163_67 rk_163 ((((h.2 c101_0).2 c101_1).2 c101_2).1 c101))))), fun c101_3 =>
 ⟨fun c101 => w_aload_n (p' := 69) f_163_68 rfl rfl
 (w_getfield (p' := 72) f_163_69 rfl (x := .inl (σ 0 k0 i0 12)) rfl rfl
 (w_iret f_163_72 rk_163 (((((h.2 c101_0).2 c101_1).2 c101_2).2 c101_3).1 c101))), fun c101_4 =>
 w_ldc (p' := 75) f_163_73 rfl
 (w_iret f_163_75 rk_163 (((((h.2 c101_0).2 c101_1).2 c101_2).2 c101_3).2 c101_4))⟩⟩⟩⟩⟩)))
/-! ClosedRooms$Room.addressesThatAre(I)I -/
theorem f_164_0 : fnd 164 0 = some (0, .iconst 0, 1, 0, 0, 0, 0) := ceB_eq (by decide +kernel)
theorem f_164_1 : fnd 164 1 = some (1, .istore_n 2, 1, 0, 0, 0, 0) := ceB_eq (by decide +kernel)
theorem f_164_2 : fnd 164 2 = some (2, .iconst 0, 1, 0, 0, 0, 0) := ceB_eq (by decide +kernel)
theorem f_164_3 : fnd 164 3 = some (3, .istore_n 3, 1, 0, 0, 0, 0) := ceB_eq (by decide +kernel)
theorem f_164_4 : fnd 164 4 = some (4, .iload_n 3, 1, 0, 0, 0, 0) := ceB_eq (by decide +kernel)
theorem f_164_5 : fnd 164 5 = some (5, .bipush 8, 2, 0, 0, 0, 0) := ceB_eq (by decide +kernel)
theorem f_164_7 : fnd 164 7 = some (7, .if_icmp .ge 33, 3, 0, 0, 0, 0) := ceB_eq (by decide +kernel)
theorem f_164_10 : fnd 164 10 = some (10, .aload_n 0, 1, 0, 0, 0, 0) := ceB_eq (by decide +kernel)
theorem f_164_11 : fnd 164 11 = some (11, .iload_n 3, 1, 0, 0, 0, 0) := ceB_eq (by decide +kernel)
theorem f_164_12 : fnd 164 12 = some (12, .invokevirtual 47, 3, 38, 2, 7, 0) := ceB_eq (by decide +kernel)
theorem f_164_15 : fnd 164 15 = some (15, .ifCond .eq 19, 3, 0, 0, 0, 0) := ceB_eq (by decide +kernel)
theorem f_164_18 : fnd 164 18 = some (18, .aload_n 0, 1, 0, 0, 0, 0) := ceB_eq (by decide +kernel)
theorem f_164_19 : fnd 164 19 = some (19, .getfield 34, 3, 7, 7, 7, 0) := ceB_eq (by decide +kernel)
theorem f_164_22 : fnd 164 22 = some (22, .iload_n 3, 1, 0, 0, 0, 0) := ceB_eq (by decide +kernel)
theorem f_164_23 : fnd 164 23 = some (23, .iaload, 1, 0, 0, 0, 0) := ceB_eq (by decide +kernel)
theorem f_164_24 : fnd 164 24 = some (24, .iload_n 1, 1, 0, 0, 0, 0) := ceB_eq (by decide +kernel)
theorem f_164_25 : fnd 164 25 = some (25, .if_icmp .ne 9, 3, 0, 0, 0, 0) := ceB_eq (by decide +kernel)
theorem f_164_28 : fnd 164 28 = some (28, .iload_n 2, 1, 0, 0, 0, 0) := ceB_eq (by decide +kernel)
theorem f_164_29 : fnd 164 29 = some (29, .iconst 1, 1, 0, 0, 0, 0) := ceB_eq (by decide +kernel)
theorem f_164_30 : fnd 164 30 = some (30, .iload_n 3, 1, 0, 0, 0, 0) := ceB_eq (by decide +kernel)
theorem f_164_31 : fnd 164 31 = some (31, .ishl, 1, 0, 0, 0, 0) := ceB_eq (by decide +kernel)
theorem f_164_32 : fnd 164 32 = some (32, .ior, 1, 0, 0, 0, 0) := ceB_eq (by decide +kernel)
theorem f_164_33 : fnd 164 33 = some (33, .istore_n 2, 1, 0, 0, 0, 0) := ceB_eq (by decide +kernel)
theorem f_164_34 : fnd 164 34 = some (34, .iinc 3 1, 3, 0, 0, 0, 0) := ceB_eq (by decide +kernel)
theorem f_164_37 : fnd 164 37 = some (37, .goto (-33), 3, 0, 0, 0, 0) := ceB_eq (by decide +kernel)
theorem f_164_40 : fnd 164 40 = some (40, .iload_n 2, 1, 0, 0, 0, 0) := ceB_eq (by decide +kernel)
theorem f_164_41 : fnd 164 41 = some (41, .ireturn, 1, 0, 0, 0, 0) := ceB_eq (by decide +kernel)
theorem rk_164 : rkm 164 = 0 := by decide +kernel
theorem ml_164 : (mth 164).2.1 = 4 := by decide +kernel
set_option maxRecDepth 100000 in
theorem T_Room_addressesThatAre (k0 i0 x1 : Int) (σ : ST) (Q : Option AV → ST → Prop) (h :
  wp m_Room_addressesThatAre (4, [some (.inr (.inr (17, k0, i0))), some (.inl x1), some (.inl 0), some (.inl 0)], [], σ) Q) :
  wpM m_Room_addressesThatAre [.inr (.inr (17, k0, i0)), .inl x1] σ Q :=
 wpM_of ml_164 (L := [some (.inr (.inr (17, k0, i0))), some (.inl x1), none, none]) rfl
 (w_iconst (p' := 1) f_164_0 rfl
 (w_istore_n (p' := 2) f_164_1 (L' := [some (.inr (.inr (17, k0, i0))), some (.inl x1), some (.inl 0), none]) rfl rfl
 (w_iconst (p' := 3) f_164_2 rfl
 (w_istore_n (p' := 4) f_164_3 (L' := [some (.inr (.inr (17, k0, i0))), some (.inl x1), some (.inl 0), some (.inl 0)]) rfl rfl
 (h)))))
set_option maxRecDepth 100000 in
theorem T_Room_addressesThatAre_4 (k0 i0 x1 x2 x3 : Int) (σ : ST) (Q : Option AV → ST → Prop) (h :
  (((8 ≤ x3 : Prop) →
    Q (some (.inl x2)) σ) ∧
  (¬ (8 ≤ x3) →
    wpM m_Room_hasAddress [.inr (.inr (17, k0, i0)), .inl x3] σ (asI fun r101 s101 =>
    (((r101 = 0 : Prop) →
      wp m_Room_addressesThatAre (4, [some (.inr (.inr (17, k0, i0))), some (.inl x1), some (.inl x2), some (.inl (wr (x3 + 1)))], [], s101) Q) ∧
    (¬ (r101 = 0) →
      ((0 : Int) ≤ x3 ∧ (x3 : Int) < 8) ∧
      ((((s101 18 k0 i0 x3) ≠ x1 : Prop) →
        wp m_Room_addressesThatAre (4, [some (.inr (.inr (17, k0, i0))), some (.inl x1), some (.inl x2), some (.inl (wr (x3 + 1)))], [], s101) Q) ∧
      (¬ ((s101 18 k0 i0 x3) ≠ x1) →
        wp m_Room_addressesThatAre (4, [some (.inr (.inr (17, k0, i0))), some (.inl x1), some (.inl (i_or x2 (i_shl 1 x3))), some (.inl (wr (x3 + 1)))], [], s101) Q)))))))) :
  wp m_Room_addressesThatAre (4, [some (.inr (.inr (17, k0, i0))), some (.inl x1), some (.inl x2), some (.inl x3)], [], σ) Q :=
 w_iload_n (p' := 5) f_164_4 rfl rfl
 (w_bipush (p' := 7) f_164_5 rfl
 (w_icmp (p' := 40) (q' := 10) f_164_7 rfl rfl
 (fun c104 => w_iload_n (p' := 41) f_164_40 rfl rfl
 (w_iret f_164_41 rk_164 (h.1 c104)))
 (fun c104 => w_aload_n (p' := 11) f_164_10 rfl rfl
 (w_iload_n (p' := 12) f_164_11 rfl rfl
 (w_callV (p' := 15) f_164_12 rfl rfl rfl rfl rfl (r := []) rfl rfl (kI (.inr rk_38) fun r101 s101 h101 =>
 w_if (p' := 34) (q' := 18) f_164_15 rfl rfl
 (fun c103 => w_iinc (p' := 37) f_164_34 rfl (L' := [some (.inr (.inr (17, k0, i0))), some (.inl x1), some (.inl x2), some (.inl (wr (x3 + 1)))]) rfl rfl
 (w_goto (p' := 4) f_164_37 rfl
 ((h101.1 c103))))
 (fun c103 => w_aload_n (p' := 19) f_164_18 rfl rfl
 (w_getfield (p' := 22) f_164_19 rfl (x := .inr (.inr (18, k0, i0))) rfl rfl
 (w_iload_n (p' := 23) f_164_22 rfl rfl
 (w_iaload (p' := 24) f_164_23 rfl (n := 8) rfl (h101.2 c103).1 rfl
 (w_iload_n (p' := 25) f_164_24 rfl rfl
 (w_icmp (p' := 34) (q' := 28) f_164_25 rfl rfl
 (fun c102 => w_iinc (p' := 37) f_164_34 rfl (L' := [some (.inr (.inr (17, k0, i0))), some (.inl x1), some (.inl x2), some (.inl (wr (x3 + 1)))]) rfl rfl
 (w_goto (p' := 4) f_164_37 rfl
 (((h101.2 c103).2.1 c102))))
 (fun c102 => w_iload_n (p' := 29) f_164_28 rfl rfl
 (w_iconst (p' := 30) f_164_29 rfl
 (w_iload_n (p' := 31) f_164_30 rfl rfl
 (w_ishl (p' := 32) f_164_31 rfl
 (w_ior (p' := 33) f_164_32 rfl
 (w_istore_n (p' := 34) f_164_33 (L' := [some (.inr (.inr (17, k0, i0))), some (.inl x1), some (.inl (i_or x2 (i_shl 1 x3))), some (.inl x3)]) rfl rfl
 (w_iinc (p' := 37) f_164_34 rfl (L' := [some (.inr (.inr (17, k0, i0))), some (.inl x1), some (.inl (i_or x2 (i_shl 1 x3))), some (.inl (wr (x3 + 1)))]) rfl rfl
 (w_goto (p' := 4) f_164_37 rfl
 (((h101.2 c103).2.2 c102))))))))))))))))) (h.2 c104))))))
/-! ClosedRoomsModel.thrown()I -/
theorem f_165_0 : fnd 165 0 = some (0, .aload_n 0, 1, 0, 0, 0, 0) := ceB_eq (by decide +kernel)
theorem f_165_1 : fnd 165 1 = some (1, .getfield 43, 3, 10, 0, 0, 0) := ceB_eq (by decide +kernel)
theorem f_165_4 : fnd 165 4 = some (4, .ireturn, 1, 0, 0, 0, 0) := ceB_eq (by decide +kernel)
theorem rk_165 : rkm 165 = 0 := by decide +kernel
theorem ml_165 : (mth 165).2.1 = 1 := by decide +kernel
set_option maxRecDepth 100000 in
theorem T_Z_thrown (k0 i0 : Int) (σ : ST) (Q : Option AV → ST → Prop) (h :
  Q (some (.inl (σ 40 k0 i0 0))) σ) :
  wpM m_Z_thrown [.inr (.inr (40, k0, i0))] σ Q :=
 wpM_of ml_165 (L := [some (.inr (.inr (40, k0, i0)))]) rfl
 (w_aload_n (p' := 1) f_165_0 rfl rfl
 (w_getfield (p' := 4) f_165_1 rfl (x := .inl (σ 40 k0 i0 0)) rfl rfl
 (w_iret f_165_4 rk_165 h)))
/-! ClosedRoomsModel.byteOf(IIIIII)I -/
theorem f_166_0 : fnd 166 0 = some (0, .iload 5, 2, 0, 0, 0, 0) := ceB_eq (by decide +kernel)
theorem f_166_2 : fnd 166 2 = some (2, .iconst 4, 1, 0, 0, 0, 0) := ceB_eq (by decide +kernel)
theorem f_166_3 : fnd 166 3 = some (3, .if_icmp .ge 7, 3, 0, 0, 0, 0) := ceB_eq (by decide +kernel)
theorem f_166_6 : fnd 166 6 = some (6, .iload_n 0, 1, 0, 0, 0, 0) := ceB_eq (by decide +kernel)
theorem f_166_7 : fnd 166 7 = some (7, .goto 38, 3, 0, 0, 0, 0) := ceB_eq (by decide +kernel)
theorem f_166_10 : fnd 166 10 = some (10, .iload 5, 2, 0, 0, 0, 0) := ceB_eq (by decide +kernel)
theorem f_166_12 : fnd 166 12 = some (12, .bipush 8, 2, 0, 0, 0, 0) := ceB_eq (by decide +kernel)
theorem f_166_14 : fnd 166 14 = some (14, .if_icmp .ge 7, 3, 0, 0, 0, 0) := ceB_eq (by decide +kernel)
theorem f_166_17 : fnd 166 17 = some (17, .iload_n 1, 1, 0, 0, 0, 0) := ceB_eq (by decide +kernel)
theorem f_166_18 : fnd 166 18 = some (18, .goto 27, 3, 0, 0, 0, 0) := ceB_eq (by decide +kernel)
theorem f_166_21 : fnd 166 21 = some (21, .iload 5, 2, 0, 0, 0, 0) := ceB_eq (by decide +kernel)
theorem f_166_23 : fnd 166 23 = some (23, .bipush 12, 2, 0, 0, 0, 0) := ceB_eq (by decide +kernel)
theorem f_166_25 : fnd 166 25 = some (25, .if_icmp .ge 7, 3, 0, 0, 0, 0) := ceB_eq (by decide +kernel)
theorem f_166_28 : fnd 166 28 = some (28, .iload_n 2, 1, 0, 0, 0, 0) := ceB_eq (by decide +kernel)
theorem f_166_29 : fnd 166 29 = some (29, .goto 16, 3, 0, 0, 0, 0) := ceB_eq (by decide +kernel)
theorem f_166_32 : fnd 166 32 = some (32, .iload 5, 2, 0, 0, 0, 0) := ceB_eq (by decide +kernel)
theorem f_166_34 : fnd 166 34 = some (34, .bipush 16, 2, 0, 0, 0, 0) := ceB_eq (by decide +kernel)
theorem f_166_36 : fnd 166 36 = some (36, .if_icmp .ge 7, 3, 0, 0, 0, 0) := ceB_eq (by decide +kernel)
theorem f_166_39 : fnd 166 39 = some (39, .iload_n 3, 1, 0, 0, 0, 0) := ceB_eq (by decide +kernel)
theorem f_166_40 : fnd 166 40 = some (40, .goto 5, 3, 0, 0, 0, 0) := ceB_eq (by decide +kernel)
theorem f_166_43 : fnd 166 43 = some (43, .iload 4, 2, 0, 0, 0, 0) := ceB_eq (by decide +kernel)
theorem f_166_45 : fnd 166 45 = some (45, .istore 6, 2, 0, 0, 0, 0) := ceB_eq (by decide +kernel)
theorem f_166_47 : fnd 166 47 = some (47, .iload 6, 2, 0, 0, 0, 0) := ceB_eq (by decide +kernel)
theorem f_166_49 : fnd 166 49 = some (49, .bipush 24, 2, 0, 0, 0, 0) := ceB_eq (by decide +kernel)
theorem f_166_51 : fnd 166 51 = some (51, .bipush 8, 2, 0, 0, 0, 0) := ceB_eq (by decide +kernel)
theorem f_166_53 : fnd 166 53 = some (53, .iload 5, 2, 0, 0, 0, 0) := ceB_eq (by decide +kernel)
theorem f_166_55 : fnd 166 55 = some (55, .iconst 4, 1, 0, 0, 0, 0) := ceB_eq (by decide +kernel)
theorem f_166_56 : fnd 166 56 = some (56, .irem, 1, 0, 0, 0, 0) := ceB_eq (by decide +kernel)
theorem f_166_57 : fnd 166 57 = some (57, .imul, 1, 0, 0, 0, 0) := ceB_eq (by decide +kernel)
theorem f_166_58 : fnd 166 58 = some (58, .isub, 1, 0, 0, 0, 0) := ceB_eq (by decide +kernel)
theorem f_166_59 : fnd 166 59 = some (59, .ishr, 1, 0, 0, 0, 0) := ceB_eq (by decide +kernel)
theorem f_166_60 : fnd 166 60 = some (60, .sipush 255, 3, 0, 0, 0, 0) := ceB_eq (by decide +kernel)
theorem f_166_63 : fnd 166 63 = some (63, .iand, 1, 0, 0, 0, 0) := ceB_eq (by decide +kernel)
theorem f_166_64 : fnd 166 64 = some (64, .ireturn, 1, 0, 0, 0, 0) := ceB_eq (by decide +kernel)
theorem rk_166 : rkm 166 = 0 := by decide +kernel
theorem ml_166 : (mth 166).2.1 = 7 := by decide +kernel
set_option maxRecDepth 100000 in
theorem T_Z_byteOf (x1 x2 x3 x4 x5 x6 : Int) (σ : ST) (Q : Option AV → ST → Prop) (h :
  (((4 ≤ x6 : Prop) →
    (((8 ≤ x6 : Prop) →
      (((12 ≤ x6 : Prop) →
        (((16 ≤ x6 : Prop) →
          wp m_Z_byteOf (45, [some (.inl x1), some (.inl x2), some (.inl x3), some (.inl x4), some (.inl x5), some (.inl x6), none], [.inl x5], σ) Q) ∧
        (¬ (16 ≤ x6) →
          wp m_Z_byteOf (45, [some (.inl x1), some (.inl x2), some (.inl x3), some (.inl x4), some (.inl x5), some (.inl x6), none], [.inl x4], σ) Q))) ∧
      (¬ (12 ≤ x6) →
        wp m_Z_byteOf (45, [some (.inl x1), some (.inl x2), some (.inl x3), some (.inl x4), some (.inl x5), some (.inl x6), none], [.inl x3], σ) Q))) ∧
    (¬ (8 ≤ x6) →
      wp m_Z_byteOf (45, [some (.inl x1), some (.inl x2), some (.inl x3), some (.inl x4), some (.inl x5), some (.inl x6), none], [.inl x2], σ) Q))) ∧
  (¬ (4 ≤ x6) →
    wp m_Z_byteOf (45, [some (.inl x1), some (.inl x2), some (.inl x3), some (.inl x4), some (.inl x5), some (.inl x6), none], [.inl x1], σ) Q))) :
  wpM m_Z_byteOf [.inl x1, .inl x2, .inl x3, .inl x4, .inl x5, .inl x6] σ Q :=
 wpM_of ml_166 (L := [some (.inl x1), some (.inl x2), some (.inl x3), some (.inl x4), some (.inl x5), some (.inl x6), none]) rfl
 (w_iload (p' := 2) f_166_0 rfl rfl
 (w_iconst (p' := 3) f_166_2 rfl
 (w_icmp (p' := 10) (q' := 6) f_166_3 rfl rfl
 (fun c104 => w_iload (p' := 12) f_166_10 rfl rfl
 (w_bipush (p' := 14) f_166_12 rfl
 (w_icmp (p' := 21) (q' := 17) f_166_14 rfl rfl
 (fun c103 => w_iload (p' := 23) f_166_21 rfl rfl
 (w_bipush (p' := 25) f_166_23 rfl
 (w_icmp (p' := 32) (q' := 28) f_166_25 rfl rfl
 (fun c102 => w_iload (p' := 34) f_166_32 rfl rfl
 (w_bipush (p' := 36) f_166_34 rfl
 (w_icmp (p' := 43) (q' := 39) f_166_36 rfl rfl
 (fun c101 => w_iload (p' := 45) f_166_43 rfl rfl
 (((((h.1 c104).1 c103).1 c102).1 c101)))
 (fun c101 => w_iload_n (p' := 40) f_166_39 rfl rfl
 (w_goto (p' := 45) f_166_40 rfl
 (((((h.1 c104).1 c103).1 c102).2 c101)))))))
 (fun c102 => w_iload_n (p' := 29) f_166_28 rfl rfl
 (w_goto (p' := 45) f_166_29 rfl
 ((((h.1 c104).1 c103).2 c102)))))))
 (fun c103 => w_iload_n (p' := 18) f_166_17 rfl rfl
 (w_goto (p' := 45) f_166_18 rfl
 (((h.1 c104).2 c103)))))))
 (fun c104 => w_iload_n (p' := 7) f_166_6 rfl rfl
 (w_goto (p' := 45) f_166_7 rfl
 ((h.2 c104)))))))
set_option maxRecDepth 100000 in
theorem T_Z_byteOf_45 (x5 t0 : Int) (o0 o1 o2 o3 o4 o6 : Option AV) (σ : ST) (Q : Option AV → ST → Prop) (h :
  (4 : Int) ≠ 0 ∧
  Q (some (.inl (i_and (i_shr t0 (wr (24 - (wr (8 * (i_rem x5 4)))))) 255))) σ) :
  wp m_Z_byteOf (45, [o0, o1, o2, o3, o4, some (.inl x5), o6], [.inl t0], σ) Q :=
 w_istore (p' := 47) f_166_45 (L' := [o0, o1, o2, o3, o4, some (.inl x5), some (.inl t0)]) rfl rfl
 (w_iload (p' := 49) f_166_47 rfl rfl
 (w_bipush (p' := 51) f_166_49 rfl
 (w_bipush (p' := 53) f_166_51 rfl
 (w_iload (p' := 55) f_166_53 rfl rfl
 (w_iconst (p' := 56) f_166_55 rfl
 (w_irem (p' := 57) f_166_56 h.1 rfl
 (w_imul (p' := 58) f_166_57 rfl
 (w_isub (p' := 59) f_166_58 rfl
 (w_ishr (p' := 60) f_166_59 rfl
 (w_sipush (p' := 63) f_166_60 rfl
 (w_iand (p' := 64) f_166_63 rfl
 (w_iret f_166_64 rk_166 h.2))))))))))))
/-! ClosedRoomsModel.feed(IIIII)I -/
theorem f_167_0 : fnd 167 0 = some (0, .iconst 0, 1, 0, 0, 0, 0) := ceB_eq (by decide +kernel)
theorem f_167_1 : fnd 167 1 = some (1, .istore 6, 2, 0, 0, 0, 0) := ceB_eq (by decide +kernel)
theorem f_167_3 : fnd 167 3 = some (3, .iconst 0, 1, 0, 0, 0, 0) := ceB_eq (by decide +kernel)
theorem f_167_4 : fnd 167 4 = some (4, .istore 7, 2, 0, 0, 0, 0) := ceB_eq (by decide +kernel)
theorem f_167_6 : fnd 167 6 = some (6, .iload 7, 2, 0, 0, 0, 0) := ceB_eq (by decide +kernel)
theorem f_167_8 : fnd 167 8 = some (8, .bipush 20, 2, 0, 0, 0, 0) := ceB_eq (by decide +kernel)
theorem f_167_10 : fnd 167 10 = some (10, .if_icmp .ge 34, 3, 0, 0, 0, 0) := ceB_eq (by decide +kernel)
theorem f_167_13 : fnd 167 13 = some (13, .iload 6, 2, 0, 0, 0, 0) := ceB_eq (by decide +kernel)
theorem f_167_15 : fnd 167 15 = some (15, .iload_n 1, 1, 0, 0, 0, 0) := ceB_eq (by decide +kernel)
theorem f_167_16 : fnd 167 16 = some (16, .iload_n 2, 1, 0, 0, 0, 0) := ceB_eq (by decide +kernel)
theorem f_167_17 : fnd 167 17 = some (17, .iload_n 3, 1, 0, 0, 0, 0) := ceB_eq (by decide +kernel)
theorem f_167_18 : fnd 167 18 = some (18, .iload 4, 2, 0, 0, 0, 0) := ceB_eq (by decide +kernel)
theorem f_167_20 : fnd 167 20 = some (20, .iload 5, 2, 0, 0, 0, 0) := ceB_eq (by decide +kernel)
theorem f_167_22 : fnd 167 22 = some (22, .iload 7, 2, 0, 0, 0, 0) := ceB_eq (by decide +kernel)
theorem f_167_24 : fnd 167 24 = some (24, .invokestatic 47, 3, 166, 6, 10, 0) := ceB_eq (by decide +kernel)
theorem f_167_27 : fnd 167 27 = some (27, .ifCond .eq 7, 3, 0, 0, 0, 0) := ceB_eq (by decide +kernel)
theorem f_167_30 : fnd 167 30 = some (30, .iconst 1, 1, 0, 0, 0, 0) := ceB_eq (by decide +kernel)
theorem f_167_31 : fnd 167 31 = some (31, .goto 4, 3, 0, 0, 0, 0) := ceB_eq (by decide +kernel)
theorem f_167_34 : fnd 167 34 = some (34, .iconst 0, 1, 0, 0, 0, 0) := ceB_eq (by decide +kernel)
theorem f_167_35 : fnd 167 35 = some (35, .iadd, 1, 0, 0, 0, 0) := ceB_eq (by decide +kernel)
theorem f_167_36 : fnd 167 36 = some (36, .istore 6, 2, 0, 0, 0, 0) := ceB_eq (by decide +kernel)
theorem f_167_38 : fnd 167 38 = some (38, .iinc 7 1, 3, 0, 0, 0, 0) := ceB_eq (by decide +kernel)
theorem f_167_41 : fnd 167 41 = some (41, .goto (-35), 3, 0, 0, 0, 0) := ceB_eq (by decide +kernel)
theorem f_167_44 : fnd 167 44 = some (44, .aload_n 0, 1, 0, 0, 0, 0) := ceB_eq (by decide +kernel)
theorem f_167_45 : fnd 167 45 = some (45, .getfield 51, 3, 10, 2, 2, 0) := ceB_eq (by decide +kernel)
theorem f_167_48 : fnd 167 48 = some (48, .iload 6, 2, 0, 0, 0, 0) := ceB_eq (by decide +kernel)
theorem f_167_50 : fnd 167 50 = some (50, .iadd, 1, 0, 0, 0, 0) := ceB_eq (by decide +kernel)
theorem f_167_51 : fnd 167 51 = some (51, .sipush 320, 3, 0, 0, 0, 0) := ceB_eq (by decide +kernel)
theorem f_167_54 : fnd 167 54 = some (54, .if_icmp .le 5, 3, 0, 0, 0, 0) := ceB_eq (by decide +kernel)
theorem f_167_57 : fnd 167 57 = some (57, .iconst (-1), 1, 0, 0, 0, 0) := ceB_eq (by decide +kernel)
theorem f_167_58 : fnd 167 58 = some (58, .ireturn, 1, 0, 0, 0, 0) := ceB_eq (by decide +kernel)
theorem f_167_59 : fnd 167 59 = some (59, .iconst 0, 1, 0, 0, 0, 0) := ceB_eq (by decide +kernel)
theorem f_167_60 : fnd 167 60 = some (60, .istore 7, 2, 0, 0, 0, 0) := ceB_eq (by decide +kernel)
theorem f_167_62 : fnd 167 62 = some (62, .iload 7, 2, 0, 0, 0, 0) := ceB_eq (by decide +kernel)
theorem f_167_64 : fnd 167 64 = some (64, .bipush 20, 2, 0, 0, 0, 0) := ceB_eq (by decide +kernel)
theorem f_167_66 : fnd 167 66 = some (66, .if_icmp .ge 49, 3, 0, 0, 0, 0) := ceB_eq (by decide +kernel)
theorem f_167_69 : fnd 167 69 = some (69, .iload_n 1, 1, 0, 0, 0, 0) := ceB_eq (by decide +kernel)
theorem f_167_70 : fnd 167 70 = some (70, .iload_n 2, 1, 0, 0, 0, 0) := ceB_eq (by decide +kernel)
theorem f_167_71 : fnd 167 71 = some (71, .iload_n 3, 1, 0, 0, 0, 0) := ceB_eq (by decide +kernel)
theorem f_167_72 : fnd 167 72 = some (72, .iload 4, 2, 0, 0, 0, 0) := ceB_eq (by decide +kernel)
theorem f_167_74 : fnd 167 74 = some (74, .iload 5, 2, 0, 0, 0, 0) := ceB_eq (by decide +kernel)
theorem f_167_76 : fnd 167 76 = some (76, .iload 7, 2, 0, 0, 0, 0) := ceB_eq (by decide +kernel)
theorem f_167_78 : fnd 167 78 = some (78, .invokestatic 47, 3, 166, 6, 10, 0) := ceB_eq (by decide +kernel)
theorem f_167_81 : fnd 167 81 = some (81, .istore 8, 2, 0, 0, 0, 0) := ceB_eq (by decide +kernel)
theorem f_167_83 : fnd 167 83 = some (83, .iload 8, 2, 0, 0, 0, 0) := ceB_eq (by decide +kernel)
theorem f_167_85 : fnd 167 85 = some (85, .ifCond .eq 24, 3, 0, 0, 0, 0) := ceB_eq (by decide +kernel)
theorem f_167_88 : fnd 167 88 = some (88, .aload_n 0, 1, 0, 0, 0, 0) := ceB_eq (by decide +kernel)
theorem f_167_89 : fnd 167 89 = some (89, .getfield 9, 3, 10, 1, 1, 0) := ceB_eq (by decide +kernel)
theorem f_167_92 : fnd 167 92 = some (92, .aload_n 0, 1, 0, 0, 0, 0) := ceB_eq (by decide +kernel)
theorem f_167_93 : fnd 167 93 = some (93, .getfield 51, 3, 10, 2, 2, 0) := ceB_eq (by decide +kernel)
theorem f_167_96 : fnd 167 96 = some (96, .iload 8, 2, 0, 0, 0, 0) := ceB_eq (by decide +kernel)
theorem f_167_98 : fnd 167 98 = some (98, .iastore, 1, 0, 0, 0, 0) := ceB_eq (by decide +kernel)
theorem f_167_99 : fnd 167 99 = some (99, .aload_n 0, 1, 0, 0, 0, 0) := ceB_eq (by decide +kernel)
theorem f_167_100 : fnd 167 100 = some (100, .dup, 1, 0, 0, 0, 0) := ceB_eq (by decide +kernel)
theorem f_167_101 : fnd 167 101 = some (101, .getfield 51, 3, 10, 2, 2, 0) := ceB_eq (by decide +kernel)
theorem f_167_104 : fnd 167 104 = some (104, .iconst 1, 1, 0, 0, 0, 0) := ceB_eq (by decide +kernel)
theorem f_167_105 : fnd 167 105 = some (105, .iadd, 1, 0, 0, 0, 0) := ceB_eq (by decide +kernel)
theorem f_167_106 : fnd 167 106 = some (106, .putfield 51, 3, 10, 2, 2, 0) := ceB_eq (by decide +kernel)
theorem f_167_109 : fnd 167 109 = some (109, .iinc 7 1, 3, 0, 0, 0, 0) := ceB_eq (by decide +kernel)
theorem f_167_112 : fnd 167 112 = some (112, .goto (-50), 3, 0, 0, 0, 0) := ceB_eq (by decide +kernel)
theorem f_167_115 : fnd 167 115 = some (115, .aload_n 0, 1, 0, 0, 0, 0) := ceB_eq (by decide +kernel)
theorem f_167_116 : fnd 167 116 = some (116, .getfield 51, 3, 10, 2, 2, 0) := ceB_eq (by decide +kernel)
theorem f_167_119 : fnd 167 119 = some (119, .ireturn, 1, 0, 0, 0, 0) := ceB_eq (by decide +kernel)
theorem rk_167 : rkm 167 = 0 := by decide +kernel
theorem ml_167 : (mth 167).2.1 = 9 := by decide +kernel
set_option maxRecDepth 100000 in
theorem T_Z_feed (k0 i0 x1 x2 x3 x4 x5 : Int) (σ : ST) (Q : Option AV → ST → Prop) (h :
  wp m_Z_feed (6, [some (.inr (.inr (40, k0, i0))), some (.inl x1), some (.inl x2), some (.inl x3), some (.inl x4), some (.inl x5), some (.inl 0), some (.inl 0), none], [], σ) Q) :
  wpM m_Z_feed [.inr (.inr (40, k0, i0)), .inl x1, .inl x2, .inl x3, .inl x4, .inl x5] σ Q :=
 wpM_of ml_167 (L := [some (.inr (.inr (40, k0, i0))), some (.inl x1), some (.inl x2), some (.inl x3), some (.inl x4), some (.inl x5), none, none, none]) rfl
 (w_iconst (p' := 1) f_167_0 rfl
 (w_istore (p' := 3) f_167_1 (L' := [some (.inr (.inr (40, k0, i0))), some (.inl x1), some (.inl x2), some (.inl x3), some (.inl x4), some (.inl x5), some (.inl 0), none, none]) rfl rfl
 (w_iconst (p' := 4) f_167_3 rfl
 (w_istore (p' := 6) f_167_4 (L' := [some (.inr (.inr (40, k0, i0))), some (.inl x1), some (.inl x2), some (.inl x3), some (.inl x4), some (.inl x5), some (.inl 0), some (.inl 0), none]) rfl rfl
 (h)))))
set_option maxRecDepth 100000 in
theorem T_Z_feed_6 (k0 i0 x1 x2 x3 x4 x5 x6 x7 : Int) (o8 : Option AV) (σ : ST) (Q : Option AV → ST → Prop) (h :
  (((20 ≤ x7 : Prop) →
    ((((wr ((σ 40 k0 i0 2) + x6)) ≤ 320 : Prop) →
      wp m_Z_feed (62, [some (.inr (.inr (40, k0, i0))), some (.inl x1), some (.inl x2), some (.inl x3), some (.inl x4), some (.inl x5), some (.inl x6), some (.inl 0), o8], [], σ) Q) ∧
    (¬ ((wr ((σ 40 k0 i0 2) + x6)) ≤ 320) →
      Q (some (.inl (-1))) σ))) ∧
  (¬ (20 ≤ x7) →
    wpM m_Z_byteOf [.inl x1, .inl x2, .inl x3, .inl x4, .inl x5, .inl x7] σ (asI fun r102 s102 =>
    (((r102 = 0 : Prop) →
      wp m_Z_feed (6, [some (.inr (.inr (40, k0, i0))), some (.inl x1), some (.inl x2), some (.inl x3), some (.inl x4), some (.inl x5), some (.inl (wr (x6 + 0))), some (.inl (wr (x7 + 1))), o8], [], s102) Q) ∧
    (¬ (r102 = 0) →
      wp m_Z_feed (6, [some (.inr (.inr (40, k0, i0))), some (.inl x1), some (.inl x2), some (.inl x3), some (.inl x4), some (.inl x5), some (.inl (wr (x6 + 1))), some (.inl (wr (x7 + 1))), o8], [], s102) Q)))))) :
  wp m_Z_feed (6, [some (.inr (.inr (40, k0, i0))), some (.inl x1), some (.inl x2), some (.inl x3), some (.inl x4), some (.inl x5), some (.inl x6), some (.inl x7), o8], [], σ) Q :=
 w_iload (p' := 8) f_167_6 rfl rfl
 (w_bipush (p' := 10) f_167_8 rfl
 (w_icmp (p' := 44) (q' := 13) f_167_10 rfl rfl
 (fun c104 => w_aload_n (p' := 45) f_167_44 rfl rfl
 (w_getfield (p' := 48) f_167_45 rfl (x := .inl (σ 40 k0 i0 2)) rfl rfl
 (w_iload (p' := 50) f_167_48 rfl rfl
 (w_iadd (p' := 51) f_167_50 rfl
 (w_sipush (p' := 54) f_167_51 rfl
 (w_icmp (p' := 59) (q' := 57) f_167_54 rfl rfl
 (fun c101 => w_iconst (p' := 60) f_167_59 rfl
 (w_istore (p' := 62) f_167_60 (L' := [some (.inr (.inr (40, k0, i0))), some (.inl x1), some (.inl x2), some (.inl x3), some (.inl x4), some (.inl x5), some (.inl x6), some (.inl 0), o8]) rfl rfl
 (((h.1 c104).1 c101))))
 (fun c101 => w_iconst (p' := 58) f_167_57 rfl
 (w_iret f_167_58 rk_167 ((h.1 c104).2 c101)))))))))
 (fun c104 => w_iload (p' := 15) f_167_13 rfl rfl
 (w_iload_n (p' := 16) f_167_15 rfl rfl
 (w_iload_n (p' := 17) f_167_16 rfl rfl
 (w_iload_n (p' := 18) f_167_17 rfl rfl
 (w_iload (p' := 20) f_167_18 rfl rfl
 (w_iload (p' := 22) f_167_20 rfl rfl
 (w_iload (p' := 24) f_167_22 rfl rfl
 (w_callS (p' := 27) f_167_24 rfl rfl rfl (r := [.inl x6]) rfl rfl (kI (.inl rk_166) fun r102 s102 h102 =>
 w_if (p' := 34) (q' := 30) f_167_27 rfl rfl
 (fun c103 => w_iconst (p' := 35) f_167_34 rfl
 (w_iadd (p' := 36) f_167_35 rfl
 (w_istore (p' := 38) f_167_36 (L' := [some (.inr (.inr (40, k0, i0))), some (.inl x1), some (.inl x2), some (.inl x3), some (.inl x4), some (.inl x5), some (.inl (wr (x6 + 0))), some (.inl x7), o8]) rfl rfl
 (w_iinc (p' := 41) f_167_38 rfl (L' := [some (.inr (.inr (40, k0, i0))), some (.inl x1), some (.inl x2), some (.inl x3), some (.inl x4), some (.inl x5), some (.inl (wr (x6 + 0))), some (.inl (wr (x7 + 1))), o8]) rfl rfl
 (w_goto (p' := 6) f_167_41 rfl
 ((h102.1 c103)))))))
 (fun c103 => w_iconst (p' := 31) f_167_30 rfl
 (w_goto (p' := 35) f_167_31 rfl
 (w_iadd (p' := 36) f_167_35 rfl
 (w_istore (p' := 38) f_167_36 (L' := [some (.inr (.inr (40, k0, i0))), some (.inl x1), some (.inl x2), some (.inl x3), some (.inl x4), some (.inl x5), some (.inl (wr (x6 + 1))), some (.inl x7), o8]) rfl rfl
 (w_iinc (p' := 41) f_167_38 rfl (L' := [some (.inr (.inr (40, k0, i0))), some (.inl x1), some (.inl x2), some (.inl x3), some (.inl x4), some (.inl x5), some (.inl (wr (x6 + 1))), some (.inl (wr (x7 + 1))), o8]) rfl rfl
 (w_goto (p' := 6) f_167_41 rfl
 ((h102.2 c103))))))))) (h.2 c104)))))))))))
set_option maxRecDepth 100000 in
theorem T_Z_feed_62 (k0 i0 x1 x2 x3 x4 x5 x7 : Int) (o6 o8 : Option AV) (σ : ST) (Q : Option AV → ST → Prop) (h :
  (((20 ≤ x7 : Prop) →
    Q (some (.inl (σ 40 k0 i0 2))) σ) ∧
  (¬ (20 ≤ x7) →
    wpM m_Z_byteOf [.inl x1, .inl x2, .inl x3, .inl x4, .inl x5, .inl x7] σ (asI fun r101 s101 =>
    (((r101 = 0 : Prop) →
      wp m_Z_feed (62, [some (.inr (.inr (40, k0, i0))), some (.inl x1), some (.inl x2), some (.inl x3), some (.inl x4), some (.inl x5), o6, some (.inl (wr (x7 + 1))), some (.inl r101)], [], s101) Q) ∧
    (¬ (r101 = 0) →
      ((0 : Int) ≤ (s101 40 k0 i0 2) ∧ ((s101 40 k0 i0 2) : Int) < 320) ∧
      wp m_Z_feed (62, [some (.inr (.inr (40, k0, i0))), some (.inl x1), some (.inl x2), some (.inl x3), some (.inl x4), some (.inl x5), o6, some (.inl (wr (x7 + 1))), some (.inl r101)], [], (up (up s101 41 0 0 (s101 40 k0 i0 2) r101) 40 k0 i0 2 (wr (((up s101 41 0 0 (s101 40 k0 i0 2) r101) 40 k0 i0 2) + 1)))) Q)))))) :
  wp m_Z_feed (62, [some (.inr (.inr (40, k0, i0))), some (.inl x1), some (.inl x2), some (.inl x3), some (.inl x4), some (.inl x5), o6, some (.inl x7), o8], [], σ) Q :=
 w_iload (p' := 64) f_167_62 rfl rfl
 (w_bipush (p' := 66) f_167_64 rfl
 (w_icmp (p' := 115) (q' := 69) f_167_66 rfl rfl
 (fun c103 => w_aload_n (p' := 116) f_167_115 rfl rfl
 (w_getfield (p' := 119) f_167_116 rfl (x := .inl (σ 40 k0 i0 2)) rfl rfl
 (w_iret f_167_119 rk_167 (h.1 c103))))
 (fun c103 => w_iload_n (p' := 70) f_167_69 rfl rfl
 (w_iload_n (p' := 71) f_167_70 rfl rfl
 (w_iload_n (p' := 72) f_167_71 rfl rfl
 (w_iload (p' := 74) f_167_72 rfl rfl
 (w_iload (p' := 76) f_167_74 rfl rfl
 (w_iload (p' := 78) f_167_76 rfl rfl
 (w_callS (p' := 81) f_167_78 rfl rfl rfl (r := []) rfl rfl (kI (.inl rk_166) fun r101 s101 h101 =>
 w_istore (p' := 83) f_167_81 (L' := [some (.inr (.inr (40, k0, i0))), some (.inl x1), some (.inl x2), some (.inl x3), some (.inl x4), some (.inl x5), o6, some (.inl x7), some (.inl r101)]) rfl rfl
 (w_iload (p' := 85) f_167_83 rfl rfl
 (w_if (p' := 109) (q' := 88) f_167_85 rfl rfl
 (fun c102 => w_iinc (p' := 112) f_167_109 rfl (L' := [some (.inr (.inr (40, k0, i0))), some (.inl x1), some (.inl x2), some (.inl x3), some (.inl x4), some (.inl x5), o6, some (.inl (wr (x7 + 1))), some (.inl r101)]) rfl rfl
 (w_goto (p' := 62) f_167_112 rfl
 ((h101.1 c102))))
 (fun c102 => w_aload_n (p' := 89) f_167_88 rfl rfl
 (w_getfield (p' := 92) f_167_89 rfl (x := .inr (.inr (41, 0, 0))) rfl rfl
 (w_aload_n (p' := 93) f_167_92 rfl rfl
 (w_getfield (p' := 96) f_167_93 rfl (x := .inl (s101 40 k0 i0 2)) rfl rfl
 (w_iload (p' := 98) f_167_96 rfl rfl
 (w_iastore (p' := 99) f_167_98 rfl (n := 320) rfl (h101.2 c102).1 rfl
 (w_aload_n (p' := 100) f_167_99 rfl rfl
 (w_dupR (p' := 101) f_167_100 rfl
 (w_getfield (p' := 104) f_167_101 rfl (x := .inl ((up s101 41 0 0 (s101 40 k0 i0 2) r101) 40 k0 i0 2)) rfl rfl
 (w_iconst (p' := 105) f_167_104 rfl
 (w_iadd (p' := 106) f_167_105 rfl
 (w_putI (p' := 109) f_167_106 rfl rfl (c' := 2) rfl rfl
 (w_iinc (p' := 112) f_167_109 rfl (L' := [some (.inr (.inr (40, k0, i0))), some (.inl x1), some (.inl x2), some (.inl x3), some (.inl x4), some (.inl x5), o6, some (.inl (wr (x7 + 1))), some (.inl r101)]) rfl rfl
 (w_goto (p' := 62) f_167_112 rfl
 ((h101.2 c102).2)))))))))))))))))) (h.2 c103))))))))))
/-! ClosedRoomsModel.in(III)Z -/
theorem f_168_0 : fnd 168 0 = some (0, .iload_n 0, 1, 0, 0, 0, 0) := ceB_eq (by decide +kernel)
theorem f_168_1 : fnd 168 1 = some (1, .iload_n 1, 1, 0, 0, 0, 0) := ceB_eq (by decide +kernel)
theorem f_168_2 : fnd 168 2 = some (2, .if_icmp .lt 12, 3, 0, 0, 0, 0) := ceB_eq (by decide +kernel)
theorem f_168_5 : fnd 168 5 = some (5, .iload_n 0, 1, 0, 0, 0, 0) := ceB_eq (by decide +kernel)
theorem f_168_6 : fnd 168 6 = some (6, .iload_n 2, 1, 0, 0, 0, 0) := ceB_eq (by decide +kernel)
theorem f_168_7 : fnd 168 7 = some (7, .if_icmp .gt 7, 3, 0, 0, 0, 0) := ceB_eq (by decide +kernel)
theorem f_168_10 : fnd 168 10 = some (10, .iconst 1, 1, 0, 0, 0, 0) := ceB_eq (by decide +kernel)
theorem f_168_11 : fnd 168 11 = some (11, .goto 4, 3, 0, 0, 0, 0) := ceB_eq (by decide +kernel)
theorem f_168_14 : fnd 168 14 = some (14, .iconst 0, 1, 0, 0, 0, 0) := ceB_eq (by decide +kernel)
theorem f_168_15 : fnd 168 15 = some (15, .ireturn, 1, 0, 0, 0, 0) := ceB_eq (by decide +kernel)
theorem rk_168 : rkm 168 = 1 := by decide +kernel
theorem ml_168 : (mth 168).2.1 = 3 := by decide +kernel
set_option maxRecDepth 100000 in
theorem T_Z_in (x1 x2 x3 : Int) (σ : ST) (Q : Option AV → ST → Prop) (h :
  (((x1 < x2 : Prop) →
    ((0 : Int) = 0 ∨ (0 : Int) = 1) ∧ Q (some (.inl 0)) σ) ∧
  (¬ (x1 < x2) →
    (((x3 < x1 : Prop) →
      ((0 : Int) = 0 ∨ (0 : Int) = 1) ∧ Q (some (.inl 0)) σ) ∧
    (¬ (x3 < x1) →
      ((1 : Int) = 0 ∨ (1 : Int) = 1) ∧ Q (some (.inl 1)) σ))))) :
  wpM m_Z_in [.inl x1, .inl x2, .inl x3] σ Q :=
 wpM_of ml_168 (L := [some (.inl x1), some (.inl x2), some (.inl x3)]) rfl
 (w_iload_n (p' := 1) f_168_0 rfl rfl
 (w_iload_n (p' := 2) f_168_1 rfl rfl
 (w_icmp (p' := 14) (q' := 5) f_168_2 rfl rfl
 (fun c102 => w_iconst (p' := 15) f_168_14 rfl
 (w_zret f_168_15 rk_168 (h.1 c102).1 (h.1 c102).2))
 (fun c102 => w_iload_n (p' := 6) f_168_5 rfl rfl
 (w_iload_n (p' := 7) f_168_6 rfl rfl
 (w_icmp (p' := 14) (q' := 10) f_168_7 rfl rfl
 (fun c101 => w_iconst (p' := 15) f_168_14 rfl
 (w_zret f_168_15 rk_168 ((h.2 c102).1 c101).1 ((h.2 c102).1 c101).2))
 (fun c101 => w_iconst (p' := 11) f_168_10 rfl
 (w_goto (p' := 15) f_168_11 rfl
 (w_zret f_168_15 rk_168 ((h.2 c102).2 c101).1 ((h.2 c102).2 c101).2)))))))))
/-! ClosedRoomsModel.end(I)Z -/
theorem f_169_0 : fnd 169 0 = some (0, .iload_n 1, 1, 0, 0, 0, 0) := ceB_eq (by decide +kernel)
theorem f_169_1 : fnd 169 1 = some (1, .iconst 0, 1, 0, 0, 0, 0) := ceB_eq (by decide +kernel)
theorem f_169_2 : fnd 169 2 = some (2, .aload_n 0, 1, 0, 0, 0, 0) := ceB_eq (by decide +kernel)
theorem f_169_3 : fnd 169 3 = some (3, .getfield 51, 3, 10, 2, 2, 0) := ceB_eq (by decide +kernel)
theorem f_169_6 : fnd 169 6 = some (6, .invokestatic 54, 3, 168, 3, 10, 0) := ceB_eq (by decide +kernel)
theorem f_169_9 : fnd 169 9 = some (9, .ifCond .ne 5, 3, 0, 0, 0, 0) := ceB_eq (by decide +kernel)
theorem f_169_12 : fnd 169 12 = some (12, .iconst 0, 1, 0, 0, 0, 0) := ceB_eq (by decide +kernel)
theorem f_169_13 : fnd 169 13 = some (13, .ireturn, 1, 0, 0, 0, 0) := ceB_eq (by decide +kernel)
theorem f_169_14 : fnd 169 14 = some (14, .aload_n 0, 1, 0, 0, 0, 0) := ceB_eq (by decide +kernel)
theorem f_169_15 : fnd 169 15 = some (15, .iload_n 1, 1, 0, 0, 0, 0) := ceB_eq (by decide +kernel)
theorem f_169_16 : fnd 169 16 = some (16, .putfield 51, 3, 10, 2, 2, 0) := ceB_eq (by decide +kernel)
theorem f_169_19 : fnd 169 19 = some (19, .iconst 1, 1, 0, 0, 0, 0) := ceB_eq (by decide +kernel)
theorem f_169_20 : fnd 169 20 = some (20, .ireturn, 1, 0, 0, 0, 0) := ceB_eq (by decide +kernel)
theorem rk_169 : rkm 169 = 1 := by decide +kernel
theorem ml_169 : (mth 169).2.1 = 2 := by decide +kernel
set_option maxRecDepth 100000 in
theorem T_Z_end (k0 i0 x1 : Int) (σ : ST) (Q : Option AV → ST → Prop) (h :
  wpM m_Z_in [.inl x1, .inl 0, .inl (σ 40 k0 i0 2)] σ (asI fun r101 s101 =>
  (((r101 ≠ 0 : Prop) →
    ((1 : Int) = 0 ∨ (1 : Int) = 1) ∧ Q (some (.inl 1)) (up s101 40 k0 i0 2 x1)) ∧
  (¬ (r101 ≠ 0) →
    ((0 : Int) = 0 ∨ (0 : Int) = 1) ∧ Q (some (.inl 0)) s101)))) :
  wpM m_Z_end [.inr (.inr (40, k0, i0)), .inl x1] σ Q :=
 wpM_of ml_169 (L := [some (.inr (.inr (40, k0, i0))), some (.inl x1)]) rfl
 (w_iload_n (p' := 1) f_169_0 rfl rfl
 (w_iconst (p' := 2) f_169_1 rfl
 (w_aload_n (p' := 3) f_169_2 rfl rfl
 (w_getfield (p' := 6) f_169_3 rfl (x := .inl (σ 40 k0 i0 2)) rfl rfl
 (w_callS (p' := 9) f_169_6 rfl rfl rfl (r := []) rfl rfl (kI (.inr rk_168) fun r101 s101 h101 =>
 w_if (p' := 14) (q' := 12) f_169_9 rfl rfl
 (fun c102 => w_aload_n (p' := 15) f_169_14 rfl rfl
 (w_iload_n (p' := 16) f_169_15 rfl rfl
 (w_putI (p' := 19) f_169_16 rfl rfl (c' := 2) rfl rfl
 (w_iconst (p' := 20) f_169_19 rfl
 (w_zret f_169_20 rk_169 (h101.1 c102).1 (h101.1 c102).2)))))
 (fun c102 => w_iconst (p' := 13) f_169_12 rfl
 (w_zret f_169_13 rk_169 (h101.2 c102).1 (h101.2 c102).2))) h)))))
/-! ClosedRoomsModel.usual(I)I -/
theorem f_170_0 : fnd 170 0 = some (0, .iload_n 0, 1, 0, 0, 0, 0) := ceB_eq (by decide +kernel)
theorem f_170_1 : fnd 170 1 = some (1, .ifCond .ne 8, 3, 0, 0, 0, 0) := ceB_eq (by decide +kernel)
theorem f_170_4 : fnd 170 4 = some (4, .bipush 8, 2, 0, 0, 0, 0) := ceB_eq (by decide +kernel)
theorem f_170_6 : fnd 170 6 = some (6, .goto 14, 3, 0, 0, 0, 0) := ceB_eq (by decide +kernel)
theorem f_170_9 : fnd 170 9 = some (9, .iload_n 0, 1, 0, 0, 0, 0) := ceB_eq (by decide +kernel)
theorem f_170_10 : fnd 170 10 = some (10, .iconst 3, 1, 0, 0, 0, 0) := ceB_eq (by decide +kernel)
theorem f_170_11 : fnd 170 11 = some (11, .if_icmp .ne 8, 3, 0, 0, 0, 0) := ceB_eq (by decide +kernel)
theorem f_170_14 : fnd 170 14 = some (14, .bipush 7, 2, 0, 0, 0, 0) := ceB_eq (by decide +kernel)
theorem f_170_16 : fnd 170 16 = some (16, .goto 4, 3, 0, 0, 0, 0) := ceB_eq (by decide +kernel)
theorem f_170_19 : fnd 170 19 = some (19, .iconst 2, 1, 0, 0, 0, 0) := ceB_eq (by decide +kernel)
theorem f_170_20 : fnd 170 20 = some (20, .ireturn, 1, 0, 0, 0, 0) := ceB_eq (by decide +kernel)
theorem rk_170 : rkm 170 = 0 := by decide +kernel
theorem ml_170 : (mth 170).2.1 = 1 := by decide +kernel
set_option maxRecDepth 100000 in
theorem T_Z_usual (x1 : Int) (σ : ST) (Q : Option AV → ST → Prop) (h :
  (((x1 ≠ 0 : Prop) →
    (((x1 ≠ 3 : Prop) →
      Q (some (.inl 2)) σ) ∧
    (¬ (x1 ≠ 3) →
      Q (some (.inl 7)) σ))) ∧
  (¬ (x1 ≠ 0) →
    Q (some (.inl 8)) σ))) :
  wpM m_Z_usual [.inl x1] σ Q :=
 wpM_of ml_170 (L := [some (.inl x1)]) rfl
 (w_iload_n (p' := 1) f_170_0 rfl rfl
 (w_if (p' := 9) (q' := 4) f_170_1 rfl rfl
 (fun c102 => w_iload_n (p' := 10) f_170_9 rfl rfl
 (w_iconst (p' := 11) f_170_10 rfl
 (w_icmp (p' := 19) (q' := 14) f_170_11 rfl rfl
 (fun c101 => w_iconst (p' := 20) f_170_19 rfl
 (w_iret f_170_20 rk_170 ((h.1 c102).1 c101)))
 (fun c101 => w_bipush (p' := 16) f_170_14 rfl
 (w_goto (p' := 20) f_170_16 rfl
 (w_iret f_170_20 rk_170 ((h.1 c102).2 c101)))))))
 (fun c102 => w_bipush (p' := 6) f_170_4 rfl
 (w_goto (p' := 20) f_170_6 rfl
 (w_iret f_170_20 rk_170 (h.2 c102))))))
/-! ClosedRoomsModel.here()I -/
theorem f_171_0 : fnd 171 0 = some (0, .aload_n 0, 1, 0, 0, 0, 0) := ceB_eq (by decide +kernel)
theorem f_171_1 : fnd 171 1 = some (1, .getfield 58, 3, 10, 3, 3, 0) := ceB_eq (by decide +kernel)
theorem f_171_4 : fnd 171 4 = some (4, .aload_n 0, 1, 0, 0, 0, 0) := ceB_eq (by decide +kernel)
theorem f_171_5 : fnd 171 5 = some (5, .getfield 51, 3, 10, 2, 2, 0) := ceB_eq (by decide +kernel)
theorem f_171_8 : fnd 171 8 = some (8, .if_icmp .ge 15, 3, 0, 0, 0, 0) := ceB_eq (by decide +kernel)
theorem f_171_11 : fnd 171 11 = some (11, .aload_n 0, 1, 0, 0, 0, 0) := ceB_eq (by decide +kernel)
theorem f_171_12 : fnd 171 12 = some (12, .getfield 9, 3, 10, 1, 1, 0) := ceB_eq (by decide +kernel)
theorem f_171_15 : fnd 171 15 = some (15, .aload_n 0, 1, 0, 0, 0, 0) := ceB_eq (by decide +kernel)
theorem f_171_16 : fnd 171 16 = some (16, .getfield 58, 3, 10, 3, 3, 0) := ceB_eq (by decide +kernel)
theorem f_171_19 : fnd 171 19 = some (19, .iaload, 1, 0, 0, 0, 0) := ceB_eq (by decide +kernel)
theorem f_171_20 : fnd 171 20 = some (20, .goto 4, 3, 0, 0, 0, 0) := ceB_eq (by decide +kernel)
theorem f_171_23 : fnd 171 23 = some (23, .iconst (-1), 1, 0, 0, 0, 0) := ceB_eq (by decide +kernel)
theorem f_171_24 : fnd 171 24 = some (24, .ireturn, 1, 0, 0, 0, 0) := ceB_eq (by decide +kernel)
theorem rk_171 : rkm 171 = 0 := by decide +kernel
theorem ml_171 : (mth 171).2.1 = 1 := by decide +kernel
set_option maxRecDepth 100000 in
theorem T_Z_here (k0 i0 : Int) (σ : ST) (Q : Option AV → ST → Prop) (h :
  ((((σ 40 k0 i0 2) ≤ (σ 40 k0 i0 3) : Prop) →
    Q (some (.inl (-1))) σ) ∧
  (¬ ((σ 40 k0 i0 2) ≤ (σ 40 k0 i0 3)) →
    ((0 : Int) ≤ (σ 40 k0 i0 3) ∧ ((σ 40 k0 i0 3) : Int) < 320) ∧
    Q (some (.inl (σ 41 0 0 (σ 40 k0 i0 3)))) σ))) :
  wpM m_Z_here [.inr (.inr (40, k0, i0))] σ Q :=
 wpM_of ml_171 (L := [some (.inr (.inr (40, k0, i0)))]) rfl
 (w_aload_n (p' := 1) f_171_0 rfl rfl
 (w_getfield (p' := 4) f_171_1 rfl (x := .inl (σ 40 k0 i0 3)) rfl rfl
 (w_aload_n (p' := 5) f_171_4 rfl rfl
 (w_getfield (p' := 8) f_171_5 rfl (x := .inl (σ 40 k0 i0 2)) rfl rfl
 (w_icmp (p' := 23) (q' := 11) f_171_8 rfl rfl
 (fun c101 => w_iconst (p' := 24) f_171_23 rfl
 (w_iret f_171_24 rk_171 (h.1 c101)))
 (fun c101 => w_aload_n (p' := 12) f_171_11 rfl rfl
 (w_getfield (p' := 15) f_171_12 rfl (x := .inr (.inr (41, 0, 0))) rfl rfl
 (w_aload_n (p' := 16) f_171_15 rfl rfl
 (w_getfield (p' := 19) f_171_16 rfl (x := .inl (σ 40 k0 i0 3)) rfl rfl
 (w_iaload (p' := 20) f_171_19 rfl (n := 320) rfl (h.2 c101).1 rfl
 (w_goto (p' := 24) f_171_20 rfl
 (w_iret f_171_24 rk_171 (h.2 c101).2))))))))))))
