/-! X.room: it answers or throws; written by gen/rmx.py -/
def yX_room : MethodName := ⟨"ClosedRooms", "room", "(II)I"⟩
def QRM (D : va_G) (dA : Nat → ClassId) (b0 : Nat) (adK adT : Nat → Nat) (σ : ST) (P : MP) (g : Int → Int) (r w : Int) : Array Value → State → Outcome → State → Prop := fun _ st o t => o = .returned (some (.int (Int32.ofInt (v_room r w P g)))) ∧ okRm g r w ∧ Rel D dA (adr b0 adK adT) VW0 σ t.heap ∧ FR b0 st.heap t.heap
def XRM (D : va_G) (dA : Nat → ClassId) (b0 : Nat) (adK adT : Nat → Nat) (σ : ST) (g : Int → Int) (r w : Int) : String → State → State → Prop := fun E st t => E = nsN ∧ ¬ okRm g r w ∧ Rel D dA (adr b0 adK adT) VW0 σ t.heap ∧ FR b0 st.heap t.heap
def nsL : List Cond := (nsA "ClosedRooms" 158).filter vx_no
def nsBad : List Cond := [.castable nsN nsN, .declares (Bundle.initS nsR), .declares (Bundle.initS "java/lang/Exception"), .declares (Bundle.initS Bundle.tN)]
def tats : List Cond → List Nat → Bool
  | [], _ => true
  | w :: l, h :: k => tat h w && tats l k
  | _ :: _, [] => false
theorem tats_in : ∀ {l : List Cond} {k : List Nat}, tats l k = true → ∀ w ∈ l, w ∈ TB
  | [], _, _, w, hw => by cases hw
  | x :: l, h :: k, ht, w, hw => by
    simp only [tats, Bool.and_eq_true] at ht
    rcases List.mem_cons.mp hw with rfl | hw
    · exact tb_at ht.1
    · exact tats_in ht.2 w hw
  | x :: l, [], ht, w, hw => by cases ht
theorem nsL_good : tats (nsL.filter goodWord) [1018, 6220, 6229, 6231, 6234, 6236, 6221, 6222, 1034, 1035, 6223, 6228, 6232, 7012, 6210, 7013, 6212, 7014, 6214, 6224, 6226, 6216, 7008, 7009, 7011, 6216, 6239, 7000, 7001, 7002, 7002, 7003, 7004, 7005, 7005, 7006, 7007, 7008, 6238, 6199, 6207, 6208, 6209, 6211, 6213, 6215, 6219, 6218, 6217] = true := by decide +kernel
theorem nsL_bad' : (nsL.filter (fun w => !goodWord w)).all (fun w => decide (w ∈ nsBad)) = true := by decide +kernel
theorem nsL_bad : ∀ w ∈ nsL.filter (fun w => !goodWord w), w ∈ nsBad := fun w hw => of_decide_eq_true (List.all_eq_true.mp nsL_bad' w hw)
theorem nsL_ot' : (Cond.classLink "ClosedRooms" 154 nsN :: Cond.initialized nsN :: nsL).all vx_ot = true := by decide +kernel
theorem nsL_hat {DB : va_G} {dB : ClassId} {adK : Nat → Nat} {args : Array Value} {s : State} (hts : ∀ w ∈ TB, w.before args s = true) (hK : KD DB dB adK s) : ∀ w ∈ nsL, w.before args s = true := by
  refine vx_hat (fun w hw => hts w (tats_in nsL_good w hw)) nsL_bad ?_
  refine vx_c (va_tabs rfl rfl hK.2.2.1) (vx_c (va_tabs rfl rfl (hK.2.2.2 ⟨"java/lang/RuntimeException", "<init>", "(Ljava/lang/String;)V"⟩ (by simp [xDC]))) (vx_c (va_tabs rfl rfl (hK.2.2.2 ⟨"java/lang/Exception", "<init>", "(Ljava/lang/String;)V"⟩ (by simp [xDC]))) (vx_c (va_tabs rfl rfl (hK.2.2.2 ⟨"java/lang/Throwable", "<init>", "(Ljava/lang/String;)V"⟩ (by simp [xDC]))) vx_n)))
theorem xr_sw : decode prog_1_method_12_code 42 = .ok (.tableswitch 109 0 7 #[46, 51, 56, 69, 74, 79, 92, 103], 46) := by decide +kernel
section XRM
variable {D : va_G} {dA : Nat → ClassId} {DB : va_G} {dB : ClassId} {b0 : Nat} {adK adV adT : Nat → Nat} {adD z : Nat} {σ : ST}
theorem m_X_room (l : Launch) (hlt : l.stackTraces = false) {P : MP} {g : Int → Int} {nn r w : Int} (hI : IVg σ P g nn) (hr32 : in32 r) (hw32 : in32 w) (hz0 : b0 + 2762 ≤ z) : vx_Met l yX_room (Cond.code yX_room prog_1_method_12_code 4 (some .int) :: TB) (rmB 11 440 1 6) (PR0 D dA DB dB b0 adK adV adT adD z σ [.ref (adr b0 adK adT (0, 0, 0)), .int (Int32.ofInt r), .int (Int32.ofInt w)]) (QRM D dA b0 adK adT σ P g r w) (XRM D dA b0 adK adT σ g r w) 1 6 (fun q => A0 b0 q ∨ z ≤ q) := by
  refine vx_ofW (cc := prog_1_method_12_code) (maxL := 4) (ret := (some .int)) (by decide) rfl ?_
  intro p' e s m args below meth c s₁ B hml hnoEx hv0
  obtain ⟨rfl, hS, hK, hR, hWD, hC, hsz⟩ := hv0
  subst hsz
  have hz2 : b0 + 2762 ≤ s.heap.size := hz0
  have hx := B.exec
  have hb := B.bytes
  have hr := B.returns
  have hlocks := B.notSynchronized
  have hts0 := atoms_spec (ws := Cond.code yX_room prog_1_method_12_code 4 (some .int) :: TB) B.pre
  have hts : ∀ x ∈ TB, x.before [.ref (adr b0 adK adT (0, 0, 0)), .int (Int32.ofInt r), .int (Int32.ofInt w)].toArray s = true := fun x hw => hts0 x (List.mem_cons_of_mem _ hw)
  have hown : s.vm.findClass "ClosedRooms" = some m.cls := findClass_of_methodNamed B.named
  have hl := lv_entry [.ref (adr b0 adK adT (0, 0, 0)), .int (Int32.ofInt r), .int (Int32.ofInt w)] (n := 4) (Nat.le_of_ble_eq_true rfl)
  rw [lg_entry_eq]
  generalize (lg_sl [.ref (adr b0 adK adT (0, 0, 0)), .int (Int32.ofInt r), .int (Int32.ofInt w)] ++ List.replicate (4 - (lg_sl [.ref (adr b0 adK adT (0, 0, 0)), .int (Int32.ofInt r), .int (Int32.ofInt w)]).length) Slot.unset).toArray = ls at hl ⊢
  have hl : lv_has ls 4 [(0, .ref (adr b0 adK adT (0, 0, 0))), (1, .int (Int32.ofInt r)), (2, .int (Int32.ofInt w))] := hl
  show W p' l e (rmB 11 440 1 6) s m [.ref (adr b0 adK adT (0, 0, 0)), .int (Int32.ofInt r), .int (Int32.ofInt w)].toArray below meth c s.heap [] 0 0 (vx_MQ below (QRM D dA b0 adK adT σ P g r w) (XRM D dA b0 adK adT σ g r w) [.ref (adr b0 adK adT (0, 0, 0)), .int (Int32.ofInt r), .int (Int32.ofInt w)].toArray s 1 6 (fun q => A0 b0 q ∨ s.heap.size ≤ q)) (F0 m 0 ls [])
  have hno : ∀ (H1 : Heap) (locs1 : List Loc), ¬ okRm g r w → Rel D dA (adr b0 adK adT) VW0 σ H1 → FR b0 s.heap H1 → (∀ q ∈ locs1, A0 b0 q.base) → W p' l e (rmB 11 440 1 6) s m [.ref (adr b0 adK adT (0, 0, 0)), .int (Int32.ofInt r), .int (Int32.ofInt w)].toArray below meth c H1 locs1 0 0 (vx_MQ below (QRM D dA b0 adK adT σ P g r w) (XRM D dA b0 adK adT σ g r w) [.ref (adr b0 adK adT (0, 0, 0)), .int (Int32.ofInt r), .int (Int32.ofInt w)].toArray s 1 6 (fun q => A0 b0 q ∨ s.heap.size ≤ q)) (F0 m 21 ls []) := by
    intro H1 locs1 hnk h1 h2 h3
    have hw1 := h2.WD hWD
    have hge := h2.ge hz2
    refine ns_make hx hb hlt (own := "ClosedRooms") (text := "no such room or what") (ik := 154) (is := 156) (ic := 158) (sa := adK 24) (A := AG b0) hown (hts _ (tb_at (h := 6198) (by decide +kernel))) (hts _ (tb_at (h := 1021) (by decide +kernel))) (hK.2.1 (156, "no such room or what", 24) (by decide)) (nsL_hat hts hK) (fun w hw => List.all_eq_true.mp nsL_ot' w hw) hw1.2.1 hw1.2.2 (hl.1.trans hml.symm) (by decide +kernel : decode prog_1_method_12_code 21 = .ok (.new 154, 3)) (by decide +kernel : decode prog_1_method_12_code 24 = .ok (.dup, 1)) (by decide +kernel : decode prog_1_method_12_code 25 = .ok (.ldc 156, 2)) (by decide +kernel : decode prog_1_method_12_code 27 = .ok (.invokespecial 158, 3)) (by decide) (by decide) (by decide) (by decide) fun q H2 ce c1 c2 c3 c4 c5 => ?_
    refine vx_athrow hx hb (by decide +kernel : decode prog_1_method_12_code 30 = .ok (.athrow, 1)) ?_
    exact vx_out (E := nsN) (ce := ce) (fun x h => (hnoEx x h).elim) hlocks c1 c2 c3 (fun t ht _ => ⟨rfl, hnk, by rw [ht]; exact Rel_new h1 (fun q hq => c5 q (by omega)), by rw [ht]; exact h2.trans (fun q c hq _ => (c5 q (Array.getElem?_eq_some_iff.mp hq).1).trans hq)⟩) (fun q hq => Or.inl (h3 q hq)) (by decide) (by decide)
  have hfin : ∀ (pc : Nat) (ls : Array Slot) (H1 : Heap) (locs1 : List Loc) (x : Int), x = v_room r w P g → decode prog_1_method_12_code pc = .ok (.ireturn, 1) → okRm g r w → Rel D dA (adr b0 adK adT) VW0 σ H1 → FR b0 s.heap H1 → (∀ q ∈ locs1, A0 b0 q.base) → W p' l e (rmB 11 440 1 6) s m [.ref (adr b0 adK adT (0, 0, 0)), .int (Int32.ofInt r), .int (Int32.ofInt w)].toArray below meth c H1 locs1 0 0 (vx_MQ below (QRM D dA b0 adK adT σ P g r w) (XRM D dA b0 adK adT σ g r w) [.ref (adr b0 adK adT (0, 0, 0)), .int (Int32.ofInt r), .int (Int32.ofInt w)].toArray s 1 6 (fun q => A0 b0 q ∨ s.heap.size ≤ q)) (F0 m pc ls [.int (Int32.ofInt x)]) := by
    intro pc ls H1 locs1 x he hd hok h1 h2 h3
    subst he
    refine W.widen (k := 1) (n := 6) (by decide) (by decide) (vx_ret ?_)
    exact W.iret hx hb hr (fun t ht _ => ⟨rfl, hok, by rw [ht]; exact h1, by rw [ht]; exact h2⟩) (fun q hq => Or.inl (h3 q hq)) hd
  refine lv_aload_n hx hb (by decide +kernel : decode prog_1_method_12_code 0 = .ok (.aload_n 0, 1)) rfl (lv_at hl 0 rfl) ?_
  refine x_getR (ix := 45) (t := 0) (b := 6) (k := 0) (i := 0) (h' := (12, 0, 0)) hx hb hts hown hS hR vw_X (by decide) (by decide) (by decide) rfl (hts _ (tb_at (h := 2161) (by decide +kernel))) (by decide +kernel : decode prog_1_method_12_code 1 = .ok (.getfield 45, 3)) ?_
  refine lv_iload_n hx hb (by decide +kernel : decode prog_1_method_12_code 4 = .ok (.iload_n 1, 1)) rfl (lv_at hl 1 rfl) ?_
  have hO := RB_RO hWD.1
  refine x_call (own := "ClosedRooms") (F := 11) (Lo := 440) (a := m_World_isRoom) (ix := 151) (h := 3188) (n := 1) (cl := 4) (t := 12) (k := 0) (i := 0) (ar := [.inl r]) (rest := []) (adV := adV) hx hb hml hown hts hS hR hO hC (by exact ⟨by decide, by decide⟩ : VW0 (12, 0, 0)) rfl (by decide) (by decide +kernel) rfl rfl (fun w hw => by rw [List.mem_singleton.mp hw]; exact hr32) (P_W_isRoom hI.x.1 r (fun r' s' => r' = some (.inl (b2 (isRm g r))) ∧ s' = σ) ⟨rfl, rfl⟩) ⟨Nat.le_refl _, Nat.le_refl _⟩ (Nat.le_of_ble_eq_true rfl) hl.1 ⟨by decide, by decide⟩ (by decide +kernel : decode prog_1_method_12_code 5 = .ok (.invokevirtual 151, 3)) fun r1 σ' H1 L hq hR1 hO1 hC1 ho hfr hL1 => ?_
  obtain ⟨rfl, hσ⟩ := hq
  obtain rfl := hσ.symm
  have hfr1 : FR b0 s.heap H1 := hfr
  show W p' l e (rmB 11 440 1 6) s m [.ref (adr b0 adK adT (0, 0, 0)), .int (Int32.ofInt r), .int (Int32.ofInt w)].toArray below meth c H1 L 0 0 _ (F0 m 8 ls [.int (Int32.ofInt (b2 (isRm g r)))])
  by_cases hrm : isRm g r
  rotate_left
  · refine lv_if_eq (tgt := 21) hx hb (by decide +kernel : decode prog_1_method_12_code 8 = .ok (.ifCond .eq 13, 3)) (by decide) (fun h => ?_) (fun h => ?_)
    · exact hno H1 L (fun q => hrm q.1) hR1 hfr1 hL1
    · exact absurd (by rw [← b2_l hrm]; rfl) h
  refine lv_if_eq (tgt := 21) hx hb (by decide +kernel : decode prog_1_method_12_code 8 = .ok (.ifCond .eq 13, 3)) (by decide) (fun h => absurd h (by rw [← b2_h hrm]; decide)) (fun h => ?_)
  refine lv_iload_n hx hb (by decide +kernel : decode prog_1_method_12_code 11 = .ok (.iload_n 2, 1)) rfl (lv_at hl 2 rfl) ?_
  refine lv_if_lt (tgt := 21) hx hb (by decide +kernel : decode prog_1_method_12_code 12 = .ok (.ifCond .lt 9, 3)) (by decide) (fun h => ?_) (fun h => ?_)
  · have h2 : Int32.ofInt w < Int32.ofInt 0 := h
    rw [n_lt hw32 ⟨by decide, by decide⟩] at h2
    exact hno H1 L (fun q => by have := q.2.1; omega) hR1 hfr1 hL1
  have hw0 : 0 ≤ w := by
    have h2 : ¬ Int32.ofInt w < Int32.ofInt 0 := h
    rw [n_lt hw32 ⟨by decide, by decide⟩] at h2
    omega
  refine lv_iload_n hx hb (by decide +kernel : decode prog_1_method_12_code 15 = .ok (.iload_n 2, 1)) rfl (lv_at hl 2 rfl) ?_
  refine lv_bipush (v := 8) hx hb (by decide +kernel : decode prog_1_method_12_code 16 = .ok (.bipush 8, 2)) (by decide) ?_
  refine lv_icmp_le (tgt := 31) hx hb (by decide +kernel : decode prog_1_method_12_code 18 = .ok (.if_icmp .le 13, 3)) (by decide) (fun h => ?_) (fun h => ?_)
  rotate_left
  · have h2 : ¬ Int32.ofInt w ≤ Int32.ofInt 8 := h
    rw [n_le hw32 ⟨by decide, by decide⟩] at h2
    exact hno H1 L (fun q => h2 q.2.2) hR1 hfr1 hL1
  have hw8 : w ≤ 8 := by
    have h2 : Int32.ofInt w ≤ Int32.ofInt 8 := h
    rwa [n_le hw32 ⟨by decide, by decide⟩] at h2
  have hok : okRm g r w := ⟨hrm, hw0, hw8⟩
  have hr0 := hrm.1.1
  have hr4 : r < 4 := hrm.1.2
  refine lv_aload_n hx hb (by decide +kernel : decode prog_1_method_12_code 31 = .ok (.aload_n 0, 1)) rfl (lv_at hl 0 rfl) ?_
  refine x_getR (ix := 45) (t := 0) (b := 6) (k := 0) (i := 0) (h' := (12, 0, 0)) hx hb hts hown hS hR1 vw_X (by decide) (by decide) (by decide) rfl (hts _ (tb_at (h := 2161) (by decide +kernel))) (by decide +kernel : decode prog_1_method_12_code 32 = .ok (.getfield 45, 3)) ?_
  refine x_getR (ix := 161) (t := 12) (b := 6) (k := 0) (i := 0) (h' := (16, 0, 0)) hx hb hts hown hS hR1 (by exact ⟨by decide, by decide⟩ : VW0 (12, 0, 0)) (by decide) (by decide) (by decide) rfl (hts _ (tb_at (h := 2112) (by decide +kernel))) (by decide +kernel : decode prog_1_method_12_code 35 = .ok (.getfield 161, 3)) ?_
  refine lv_iload_n hx hb (by decide +kernel : decode prog_1_method_12_code 38 = .ok (.iload_n 1, 1)) rfl (lv_at hl 1 rfl) ?_
  refine r_aald (t := 16) (k := 0) (i := 0) (j := r) hx hb hS hR1 (by exact ⟨by decide, by decide⟩) rfl hr0 hr4 (by decide +kernel : decode prog_1_method_12_code 39 = .ok (.aaload, 1)) ?_
  refine lv_astore_n hx hb (by decide +kernel : decode prog_1_method_12_code 40 = .ok (.astore_n 3, 1)) rfl hl (by omega) rfl fun ls hl => ?_
  replace hl : lv_has ls 4 [(3, .ref (adr b0 adK adT (17, 0, r))), (0, .ref (adr b0 adK adT (0, 0, 0))), (1, .int (Int32.ofInt r)), (2, .int (Int32.ofInt w))] := hl
  have hVr : VW0 (17, 0, r) := (EV0 b0 adK adT).2.2.2.1 16 0 0 r ⟨by decide, by decide⟩ rfl hr0 hr4
  have hy := (hI.x.1.rm r hrm.1.1 hrm.1.2).y hrm.2
  have hs8 := (hI.w.n.1 r hr0 hr4).2
  refine lv_iload_n hx hb (by decide +kernel : decode prog_1_method_12_code 41 = .ok (.iload_n 2, 1)) rfl (lv_at hl 3 rfl) ?_
  show W p' l e (rmB 11 440 1 6) s m _ below meth c H1 L 0 0 _ (F0 m 42 ls [.int (Int32.ofInt w)])
  rcases (by omega : w = 0 ∨ w = 1 ∨ w = 2 ∨ w = 3 ∨ w = 4 ∨ w = 5 ∨ w = 6 ∨ w = 7 ∨ w = 8) with rfl | rfl | rfl | rfl | rfl | rfl | rfl | rfl | rfl
  · refine lv_tableIn (off := 46) (tgt := 88) hx hb xr_sw (by decide) (by decide) rfl (by decide) ?_
    refine lv_aload_n hx hb (by decide +kernel : decode prog_1_method_12_code 88 = .ok (.aload_n 3, 1)) rfl (lv_at hl 0 rfl) ?_
    refine x_getI (ix := 165) (t := 17) (b := 1) (k := 0) (i := r) hx hb hts hown hS hR1 hVr (by decide) (by decide) (by decide) (hts _ (tb_at (h := 1200) (by decide +kernel))) (by decide +kernel : decode prog_1_method_12_code 89 = .ok (.getfield 165, 3)) ?_
    exact hfin 92 ls H1 L _ (X_rm1 hI hrm).1 (by decide +kernel : decode prog_1_method_12_code 92 = .ok (.ireturn, 1)) hok hR1 hfr1 hL1
  · refine lv_tableIn (off := 51) (tgt := 93) hx hb xr_sw (by decide) (by decide) rfl (by decide) ?_
    refine lv_aload_n hx hb (by decide +kernel : decode prog_1_method_12_code 93 = .ok (.aload_n 3, 1)) rfl (lv_at hl 0 rfl) ?_
    refine x_getI (ix := 170) (t := 17) (b := 2) (k := 0) (i := r) hx hb hts hown hS hR1 hVr (by decide) (by decide) (by decide) (hts _ (tb_at (h := 1203) (by decide +kernel))) (by decide +kernel : decode prog_1_method_12_code 94 = .ok (.getfield 170, 3)) ?_
    exact hfin 97 ls H1 L _ (X_rm1 hI hrm).2.1 (by decide +kernel : decode prog_1_method_12_code 97 = .ok (.ireturn, 1)) hok hR1 hfr1 hL1
  · refine lv_tableIn (off := 56) (tgt := 98) hx hb xr_sw (by decide) (by decide) rfl (by decide) ?_
    refine lv_aload_n hx hb (by decide +kernel : decode prog_1_method_12_code 98 = .ok (.aload_n 3, 1)) rfl (lv_at hl 0 rfl) ?_
    refine x_getZ (ix := 173) (t := 17) (b := 3) (k := 0) (i := r) hx hb hts hown hS hR1 hVr (by decide) (by decide) (by decide) (hts _ (tb_at (h := 1206) (by decide +kernel))) (by decide +kernel : decode prog_1_method_12_code 99 = .ok (.getfield 173, 3)) ?_
    have hv := X_rm2 hI hrm
    rcases bz_r (σ 17 0 r 3) with hz | hz
    · rw [show bz (σ 17 0 r ((3 : Nat) : Int)) = 0 from hz]
      rw [hz, if_neg (by decide)] at hv
      refine lv_if_eq (tgt := 109) hx hb (by decide +kernel : decode prog_1_method_12_code 102 = .ok (.ifCond .eq 7, 3)) (by decide) (fun _ => ?_) (fun q => absurd rfl q)
      refine lv_iconst (v := 1) hx hb (by decide +kernel : decode prog_1_method_12_code 109 = .ok (.iconst 1, 1)) (by decide) ?_
      exact hfin 110 ls H1 L _ hv (by decide +kernel : decode prog_1_method_12_code 110 = .ok (.ireturn, 1)) hok hR1 hfr1 hL1
    · rw [show bz (σ 17 0 r ((3 : Nat) : Int)) = 1 from hz]
      rw [hz, if_pos (by decide)] at hv
      refine lv_if_eq (tgt := 109) hx hb (by decide +kernel : decode prog_1_method_12_code 102 = .ok (.ifCond .eq 7, 3)) (by decide) (fun q => absurd q (by decide)) (fun _ => ?_)
      refine lv_iconst (v := 2) hx hb (by decide +kernel : decode prog_1_method_12_code 105 = .ok (.iconst 2, 1)) (by decide) ?_
      refine lv_goto (tgt := 110) hx hb (by decide +kernel : decode prog_1_method_12_code 106 = .ok (.goto 4, 3)) (by decide) ?_
      exact hfin 110 ls H1 L _ hv (by decide +kernel : decode prog_1_method_12_code 110 = .ok (.ireturn, 1)) hok hR1 hfr1 hL1
  · refine lv_tableIn (off := 69) (tgt := 111) hx hb xr_sw (by decide) (by decide) rfl (by decide) ?_
    refine lv_aload_n hx hb (by decide +kernel : decode prog_1_method_12_code 111 = .ok (.aload_n 3, 1)) rfl (lv_at hl 0 rfl) ?_
    refine x_getI (ix := 176) (t := 17) (b := 4) (k := 0) (i := r) hx hb hts hown hS hR1 hVr (by decide) (by decide) (by decide) (hts _ (tb_at (h := 1209) (by decide +kernel))) (by decide +kernel : decode prog_1_method_12_code 112 = .ok (.getfield 176, 3)) ?_
    exact hfin 115 ls H1 L _ (X_rm1 hI hrm).2.2.1 (by decide +kernel : decode prog_1_method_12_code 115 = .ok (.ireturn, 1)) hok hR1 hfr1 hL1
  · refine lv_tableIn (off := 74) (tgt := 116) hx hb xr_sw (by decide) (by decide) rfl (by decide) ?_
    refine lv_aload_n hx hb (by decide +kernel : decode prog_1_method_12_code 116 = .ok (.aload_n 3, 1)) rfl (lv_at hl 0 rfl) ?_
    refine x_getI (ix := 179) (t := 17) (b := 5) (k := 0) (i := r) hx hb hts hown hS hR1 hVr (by decide) (by decide) (by decide) (hts _ (tb_at (h := 1213) (by decide +kernel))) (by decide +kernel : decode prog_1_method_12_code 117 = .ok (.getfield 179, 3)) ?_
    exact hfin 120 ls H1 L _ (X_rm1 hI hrm).2.2.2 (by decide +kernel : decode prog_1_method_12_code 120 = .ok (.ireturn, 1)) hok hR1 hfr1 hL1
  · refine lv_tableIn (off := 79) (tgt := 121) hx hb xr_sw (by decide) (by decide) rfl (by decide) ?_
    refine lv_aload_n hx hb (by decide +kernel : decode prog_1_method_12_code 121 = .ok (.aload_n 3, 1)) rfl (lv_at hl 0 rfl) ?_
    refine x_getZ (ix := 182) (t := 17) (b := 6) (k := 0) (i := r) hx hb hts hown hS hR1 hVr (by decide) (by decide) (by decide) (hts _ (tb_at (h := 1217) (by decide +kernel))) (by decide +kernel : decode prog_1_method_12_code 122 = .ok (.getfield 182, 3)) ?_
    have hv := X_rm5 hI hrm
    rcases bz_r (σ 17 0 r 6) with hz | hz
    · rw [show bz (σ 17 0 r ((6 : Nat) : Int)) = 0 from hz]
      rw [hz, if_neg (by decide)] at hv
      refine lv_if_eq (tgt := 132) hx hb (by decide +kernel : decode prog_1_method_12_code 125 = .ok (.ifCond .eq 7, 3)) (by decide) (fun _ => ?_) (fun q => absurd rfl q)
      refine lv_iconst (v := 0) hx hb (by decide +kernel : decode prog_1_method_12_code 132 = .ok (.iconst 0, 1)) (by decide) ?_
      exact hfin 133 ls H1 L _ hv (by decide +kernel : decode prog_1_method_12_code 133 = .ok (.ireturn, 1)) hok hR1 hfr1 hL1
    · rw [show bz (σ 17 0 r ((6 : Nat) : Int)) = 1 from hz]
      rw [hz, if_pos (by decide)] at hv
      refine lv_if_eq (tgt := 132) hx hb (by decide +kernel : decode prog_1_method_12_code 125 = .ok (.ifCond .eq 7, 3)) (by decide) (fun q => absurd q (by decide)) (fun _ => ?_)
      refine lv_iconst (v := 1) hx hb (by decide +kernel : decode prog_1_method_12_code 128 = .ok (.iconst 1, 1)) (by decide) ?_
      refine lv_goto (tgt := 133) hx hb (by decide +kernel : decode prog_1_method_12_code 129 = .ok (.goto 4, 3)) (by decide) ?_
      exact hfin 133 ls H1 L _ hv (by decide +kernel : decode prog_1_method_12_code 133 = .ok (.ireturn, 1)) hok hR1 hfr1 hL1
  · refine lv_tableIn (off := 92) (tgt := 134) hx hb xr_sw (by decide) (by decide) rfl (by decide) ?_
    refine lv_aload_n hx hb (by decide +kernel : decode prog_1_method_12_code 134 = .ok (.aload_n 0, 1)) rfl (lv_at hl 1 rfl) ?_
    refine x_getR (ix := 45) (t := 0) (b := 6) (k := 0) (i := 0) (h' := (12, 0, 0)) hx hb hts hown hS hR1 vw_X (by decide) (by decide) (by decide) rfl (hts _ (tb_at (h := 2161) (by decide +kernel))) (by decide +kernel : decode prog_1_method_12_code 135 = .ok (.getfield 45, 3)) ?_
    refine lv_iload_n hx hb (by decide +kernel : decode prog_1_method_12_code 138 = .ok (.iload_n 1, 1)) rfl (lv_at hl 2 rfl) ?_
    refine lv_ldc (v := 2147483647) hx hb (own := "ClosedRooms") hown (hts _ (tb_at (h := 7023) (by decide +kernel))) (by decide +kernel : decode prog_1_method_12_code 139 = .ok (.ldc 185, 2)) ?_
    refine x_call (own := "ClosedRooms") (F := 11) (Lo := 440) (a := m_World_coresInside) (ix := 186) (h := 5121) (n := 2) (cl := 4) (t := 12) (k := 0) (i := 0) (ar := [.inl r, .inl 2147483647]) (rest := []) (adV := adV) hx hb hml hown hts hS hR1 hO1 hC (by exact ⟨by decide, by decide⟩ : VW0 (12, 0, 0)) rfl (by decide) (by decide +kernel) rfl rfl (fun w hw => by
          rcases List.mem_cons.mp hw with rfl | hw
          · exact hr32
          · rw [List.mem_singleton.mp hw]; exact ⟨by decide, by decide⟩) (P_W_coresInside hI.x.1 r 2147483647 (fun r' s' => r' = some (.inl (inSince P g r 2147483647)) ∧ s' = σ) ⟨rfl, rfl⟩) ⟨Nat.le_refl _, Nat.le_refl _⟩ (Nat.le_of_ble_eq_true rfl) hl.1 ⟨by decide, by decide⟩ (by decide +kernel : decode prog_1_method_12_code 141 = .ok (.invokevirtual 186, 3)) fun r2 σ2 H2 L2 hq hR2 hO2 hC2 ho2 hfr2 hL2 => ?_
    obtain ⟨rfl, hσ⟩ := hq
    obtain rfl := hσ.symm
    exact hfin 144 ls H2 (L ++ L2) _ (X_rm6 hI hrm) (by decide +kernel : decode prog_1_method_12_code 144 = .ok (.ireturn, 1)) hok hR2 (hfr1.trans hfr2) (fun q hq => (List.mem_append.mp hq).elim (hL1 q) (hL2 q))
  · refine lv_tableIn (off := 103) (tgt := 145) hx hb xr_sw (by decide) (by decide) rfl (by decide) ?_
    refine lv_aload_n hx hb (by decide +kernel : decode prog_1_method_12_code 145 = .ok (.aload_n 3, 1)) rfl (lv_at hl 0 rfl) ?_
    refine lv_iconst (v := 1) hx hb (by decide +kernel : decode prog_1_method_12_code 146 = .ok (.iconst 1, 1)) (by decide) ?_
    refine x_call (own := "ClosedRooms") (F := 11) (Lo := 440) (a := m_Room_addressesThatAre) (ix := 190) (h := 7024) (n := 1) (cl := 7) (t := 17) (k := 0) (i := r) (ar := [.inl 1]) (rest := []) (adV := adV) hx hb hml hown hts hS hR1 hO1 hC hVr rfl (by decide) (by decide +kernel) rfl rfl (fun w hw => by rw [List.mem_singleton.mp hw]; exact ⟨by decide, by decide⟩) (P_R_that hy hs8 1 (fun r' s' => r' = some (.inl (bf (fun a => a < rm g r 2 ∧ rm g r (7 + a) = 1) 8 0 0)) ∧ s' = σ) ⟨rfl, rfl⟩) ⟨Nat.le_refl _, Nat.le_refl _⟩ (Nat.le_of_ble_eq_true rfl) hl.1 ⟨by decide, by decide⟩ (by decide +kernel : decode prog_1_method_12_code 147 = .ok (.invokevirtual 190, 3)) fun r2 σ2 H2 L2 hq hR2 hO2 hC2 ho2 hfr2 hL2 => ?_
    obtain ⟨rfl, hσ⟩ := hq
    obtain rfl := hσ.symm
    exact hfin 150 ls H2 (L ++ L2) _ (X_rm78 hI hrm 1 (by decide)) (by decide +kernel : decode prog_1_method_12_code 150 = .ok (.ireturn, 1)) hok hR2 (hfr1.trans hfr2) (fun q hq => (List.mem_append.mp hq).elim (hL1 q) (hL2 q))
  · refine lv_tableOut (tgt := 151) hx hb xr_sw (by decide) (by decide) ?_
    refine lv_aload_n hx hb (by decide +kernel : decode prog_1_method_12_code 151 = .ok (.aload_n 3, 1)) rfl (lv_at hl 0 rfl) ?_
    refine lv_iconst (v := 2) hx hb (by decide +kernel : decode prog_1_method_12_code 152 = .ok (.iconst 2, 1)) (by decide) ?_
    refine x_call (own := "ClosedRooms") (F := 11) (Lo := 440) (a := m_Room_addressesThatAre) (ix := 190) (h := 7024) (n := 1) (cl := 7) (t := 17) (k := 0) (i := r) (ar := [.inl 2]) (rest := []) (adV := adV) hx hb hml hown hts hS hR1 hO1 hC hVr rfl (by decide) (by decide +kernel) rfl rfl (fun w hw => by rw [List.mem_singleton.mp hw]; exact ⟨by decide, by decide⟩) (P_R_that hy hs8 2 (fun r' s' => r' = some (.inl (bf (fun a => a < rm g r 2 ∧ rm g r (7 + a) = 2) 8 0 0)) ∧ s' = σ) ⟨rfl, rfl⟩) ⟨Nat.le_refl _, Nat.le_refl _⟩ (Nat.le_of_ble_eq_true rfl) hl.1 ⟨by decide, by decide⟩ (by decide +kernel : decode prog_1_method_12_code 153 = .ok (.invokevirtual 190, 3)) fun r2 σ2 H2 L2 hq hR2 hO2 hC2 ho2 hfr2 hL2 => ?_
    obtain ⟨rfl, hσ⟩ := hq
    obtain rfl := hσ.symm
    exact hfin 156 ls H2 (L ++ L2) _ (X_rm78 hI hrm 2 (by decide)) (by decide +kernel : decode prog_1_method_12_code 156 = .ok (.ireturn, 1)) hok hR2 (hfr1.trans hfr2) (fun q hq => (List.mem_append.mp hq).elim (hL1 q) (hL2 q))
end XRM
