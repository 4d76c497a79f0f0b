/-! the cases of the law's switch; written by gen/law2.py -/
def lwT : List (Nat × Nat × Nat × Nat × Nat × Nat × Nat × Nat) := [
  (268, 5, 19, m_X_feed, 2198, 23, m_Z_feed, 7111),
  (341, 1, 24, m_X_end, 2209, 28, m_Z_end, 7118),
  (366, 1, 29, m_X_fault, 2213, 33, m_Z_fault, 7125),
  (391, 1, 34, m_X_text, 3121, 37, m_Z_text, 7217),
  (416, 1, 38, m_X_rule, 3158, 41, m_Z_rule, 9146),
  (441, 2, 42, m_X_page, 3162, 45, m_Z_page, 9150),
  (478, 2, 46, m_X_version, 3175, 49, m_Z_version, 9154),
  (515, 0, 0, 0, 0, 0, 0, 0),
  (583, 2, 60, m_X_mapped, 3184, 63, m_Z_mapped, 9166),
  (620, 2, 64, m_X_core, 3196, 67, m_Z_core, 9170),
  (657, 3, 68, m_X_seen, 3204, 72, m_Z_seen, 9174),
  (706, 2, 73, m_X_copyOf, 3208, 76, m_Z_copyOf, 9178),
  (743, 1, 77, m_X_create, 3216, 80, m_Z_create, 8001),
  (768, 0, 81, m_X_slots, 4229, 84, m_Z_slots, 9057),
  (781, 5, 85, m_X_add, 4233, 88, m_Z_add, 9061),
  (854, 2, 89, m_X_extend, 4237, 92, m_Z_extend, 9065),
  (891, 2, 93, m_X_seal, 5001, 96, m_Z_seal, 9070),
  (928, 3, 97, m_X_enter, 5005, 100, m_Z_enter, 9074),
  (977, 1, 101, m_X_leave, 5009, 104, m_Z_leave, 9078),
  (1002, 1, 105, m_X_trap, 5013, 108, m_Z_trap, 9082),
  (1027, 3, 109, m_X_resume, 5017, 112, m_Z_resume, 9086),
  (1076, 3, 113, m_X_touch, 5021, 116, m_Z_touch, 9090),
  (1125, 1, 117, m_X_block, 5025, 120, m_Z_block, 9094),
  (1150, 1, 121, m_X_track, 5029, 124, m_Z_track, 9098),
  (1175, 3, 125, m_X_evict, 5033, 128, m_Z_evict, 9102),
  (1224, 3, 129, m_X_load, 5037, 132, m_Z_load, 9106),
  (1273, 1, 133, m_X_remove, 5041, 136, m_Z_remove, 9110),
  (1298, 3, 137, m_X_map, 5045, 140, m_Z_map, 9114),
  (1347, 1, 141, m_X_twice, 5049, 144, m_Z_twice, 9118),
  (1372, 2, 145, m_X_change, 5053, 148, m_Z_change, 9122),
  (1409, 1, 149, m_X_drop, 5057, 152, m_Z_drop, 9126),
  (1434, 2, 153, m_X_tell, 5061, 156, m_Z_tell, 9130),
  (1471, 2, 157, m_X_report, 5065, 160, m_Z_report, 9182),
  (1508, 4, 161, m_X_proves, 5078, 165, m_Z_proves, 9190),
  (1569, 1, 166, m_X_status, 5082, 169, m_Z_status, 9134),
  (1594, 0, 170, m_X_undo, 5086, 173, m_Z_undo, 9138),
  (1607, 2, 174, m_X_log, 5090, 177, m_Z_log, 9142),
  (1644, 0, 178, m_X_old, 5098, 181, m_Z_old, 9194),
  (1657, 1, 182, m_X_twins, 5112, 185, m_Z_twins, 9202),
  (1682, 1, 186, m_X_waits, 5116, 189, m_Z_waits, 9206),
  (1707, 1, 190, m_X_leaks, 5122, 193, m_Z_leaks, 9210),
  (1732, 1, 194, m_X_lies, 5130, 197, m_Z_lies, 9214),
  (1757, 0, 198, m_X_victim, 5135, 201, m_Z_victim, 9218),
  (1770, 1, 202, m_X_paper, 5144, 205, m_Z_paper, 9225),
  (1795, 2, 206, m_X_alike, 5171, 210, m_Z_alike, 9237),
  (1832, 0, 0, 0, 0, 0, 0, 0),
  (1869, 3, 215, m_X_step, 6113, 218, m_Z_step, 10011),
  (1918, 2, 219, m_X_run, 6119, 222, m_Z_run, 10015),
  (1955, 1, 223, m_X_perform, 6130, 226, m_Z_perform, 10023),
  (1980, 1, 227, m_X_all, 6138, 230, m_Z_all, 10027),
  (2005, 0, 231, m_X_image, 6172, 234, m_Z_image, 10059),
  (2018, 0, 235, m_X_back, 6182, 238, m_Z_back, 10066),
  (2031, 1, 239, m_X_count, 6186, 242, m_Z_count, 10070)]
def lwO1 (j : Nat) : Bool := Nat.beq j 7 || (Nat.beq j 45 || lCk (lwT.getD j (0, 0, 0, 0, 0, 0, 0, 0)))
def lwK (a : Nat) : Bool := (List.range 6).all (fun i => Nat.ble 53 (6 * a + i) || lwO1 (6 * a + i))
theorem lwK_0 : lwK 0 = true := by decide +kernel
theorem lwK_1 : lwK 1 = true := by decide +kernel
theorem lwK_2 : lwK 2 = true := by decide +kernel
theorem lwK_3 : lwK 3 = true := by decide +kernel
theorem lwK_4 : lwK 4 = true := by decide +kernel
theorem lwK_5 : lwK 5 = true := by decide +kernel
theorem lwK_6 : lwK 6 = true := by decide +kernel
theorem lwK_7 : lwK 7 = true := by decide +kernel
theorem lwK_8 : lwK 8 = true := by decide +kernel
theorem lwT_ok {j : Nat} (hj : j < 53) : (Nat.beq j 7 || (Nat.beq j 45 || lCk (lwT.getD j (0, 0, 0, 0, 0, 0, 0, 0)))) = true := by
  have h1 : lwK (j / 6) = true := by
    generalize hk : j / 6 = k
    have hk9 : k < 9 := by omega
    rcases (by omega : k = 0 ∨ k = 1 ∨ k = 2 ∨ k = 3 ∨ k = 4 ∨ k = 5 ∨ k = 6 ∨ k = 7 ∨ k = 8) with rfl | rfl | rfl | rfl | rfl | rfl | rfl | rfl | rfl
    · exact lwK_0
    · exact lwK_1
    · exact lwK_2
    · exact lwK_3
    · exact lwK_4
    · exact lwK_5
    · exact lwK_6
    · exact lwK_7
    · exact lwK_8
  have h2 := List.all_eq_true.mp h1 (j % 6) (List.mem_range.mpr (by omega))
  rw [show 6 * (j / 6) + j % 6 = j by omega] at h2
  rcases Bool.or_eq_true_iff.mp h2 with h | h
  · have := Nat.le_of_ble_eq_true h
    omega
  · exact h
def lwO : Array Int := #[228, 301, 326, 351, 376, 401, 438, 475, 543, 580, 617, 666, 703, 728, 741, 814, 851, 888, 937, 962, 987, 1036, 1085, 1110, 1135, 1184, 1233, 1258, 1307, 1332, 1369, 1394, 1431, 1468, 1529, 1554, 1567, 1604, 1617, 1642, 1667, 1692, 1717, 1730, 1755, 1792, 1829, 1878, 1915, 1940, 1965, 1978, 1991]
theorem l_sw : decode code 40 = .ok (.tableswitch 2016 0 52 lwO, 228) := by decide +kernel
theorem lwO_ok : (List.range 53).all (fun j => decide (lwO[j]? = some (((lwT.getD j (0, 0, 0, 0, 0, 0, 0, 0)).1 : Int) - 40))) = true := by decide +kernel
theorem l_pr (xs : Nat → Int32) (i : Nat) : ∀ j : Nat, j < 53 → j ≠ 7 → j ≠ 45 → PRf (lwT.getD j (0, 0, 0, 0, 0, 0, 0, 0)).2.2.2.1 (lwT.getD j (0, 0, 0, 0, 0, 0, 0, 0)).2.2.2.2.2.2.1 (argA xs i 1 (lwT.getD j (0, 0, 0, 0, 0, 0, 0, 0)).2.1)
  | 0, _, _, _ => PR_feed _ _ _ _ _
  | 1, _, _, _ => PR_end _
  | 2, _, _, _ => PR_fault _
  | 3, _, _, _ => PR_text _
  | 4, _, _, _ => PR_rule _
  | 5, _, _, _ => PR_page _ _
  | 6, _, _, _ => PR_version _ _
  | 7, _, h, _ => absurd rfl h
  | 8, _, _, _ => PR_mapped _ _
  | 9, _, _, _ => PR_core _ _
  | 10, _, _, _ => PR_seen _ _ _
  | 11, _, _, _ => PR_copyOf _ _
  | 12, _, _, _ => PR_create _
  | 13, _, _, _ => PR_slots
  | 14, _, _, _ => PR_add _ _ _ _ _
  | 15, _, _, _ => PR_extend _ _
  | 16, _, _, _ => PR_seal _ _
  | 17, _, _, _ => PR_enter _ _ _
  | 18, _, _, _ => PR_leave _
  | 19, _, _, _ => PR_trap _
  | 20, _, _, _ => PR_resume _ _ _
  | 21, _, _, _ => PR_touch _ _ _
  | 22, _, _, _ => PR_block _
  | 23, _, _, _ => PR_track _
  | 24, _, _, _ => PR_evict _ _ _
  | 25, _, _, _ => PR_load _ _ _
  | 26, _, _, _ => PR_remove _
  | 27, _, _, _ => PR_map _ _ _
  | 28, _, _, _ => PR_twice _
  | 29, _, _, _ => PR_change _ _
  | 30, _, _, _ => PR_drop _
  | 31, _, _, _ => PR_tell _ _
  | 32, _, _, _ => PR_report _ _
  | 33, _, _, _ => PR_proves _ _ _ _
  | 34, _, _, _ => PR_status _
  | 35, _, _, _ => PR_undo
  | 36, _, _, _ => PR_log _ _
  | 37, _, _, _ => PR_old
  | 38, _, _, _ => PR_twins _
  | 39, _, _, _ => PR_waits _
  | 40, _, _, _ => PR_leaks _
  | 41, _, _, _ => PR_lies _
  | 42, _, _, _ => PR_victim
  | 43, _, _, _ => PR_paper _
  | 44, _, _, _ => PR_alike _ _
  | 45, _, _, h => absurd rfl h
  | 46, _, _, _ => PR_step _ _ _
  | 47, _, _, _ => PR_run _ _
  | 48, _, _, _ => PR_perform _
  | 49, _, _, _ => PR_all _
  | 50, _, _, _ => PR_image
  | 51, _, _, _ => PR_back
  | 52, _, _, _ => PR_count _
  | j + 53, h, _, _ => absurd h (by omega)
theorem and_63 (z : Int) : 0 ≤ i_and z 63 ∧ i_and z 63 ≤ 63 := by
  have h1 : (Int32.ofInt z &&& Int32.ofInt 63).toBitVec.toNat ≤ 63 := by
    rw [Int32.toBitVec_and, BitVec.toNat_and]
    exact Nat.le_trans Nat.and_le_right (by decide)
  have h2 : (Int32.ofInt z &&& Int32.ofInt 63).toBitVec.toInt = ((Int32.ofInt z &&& Int32.ofInt 63).toBitVec.toNat : Int) := BitVec.toInt_eq_toNat_of_lt (by omega)
  have h3 : i_and z 63 = (Int32.ofInt z &&& Int32.ofInt 63).toBitVec.toInt := rfl
  omega
theorem LL_cat {b b0 : Nat} {i : Int} {j : Nat} {w : AV} (hj : (LL b b0 i).getD j none = some w) : cat w = 1 := by
  rcases j with _ | _ | _ | _ | _ | _ | _ | j <;> cases hj <;> rfl
section LOOP
variable {D : va_G} {dA : Nat → ClassId} {b0 : Nat} {adK adV adT : Nat → Nat}
variable {p : Program} {l : Launch} {e : Env} {R : Room} {s : State} {m : MethodId} {b : Nat} {below : List Frame} {meth : Method} {c : Code} {Q : State → Prop}
variable {L : Nat} {xs : Nat → Int32} {dL : ClassId}
/-- one case of the switch, whichever: from its place to the loop's end -/
def LCase (D : va_G) (dA : Nat → ClassId) (b0 : Nat) (adK adV adT : Nat → Nat) (p : Program) (l : Launch) (e : Env) (R : Room) (s : State) (m : MethodId) (b : Nat) (below : List Frame) (meth : Method) (c : Code) (Q : State → Prop) (L : Nat) (xs : Nat → Int32) (dL : ClassId) (pc : Nat) : Prop :=
  ∀ (σ : ST) (nn : Int) (H : Heap) (i : Nat) (ls : Array Slot) (cells slots : Nat), LI D dA b0 adK adV adT b L xs dL s σ nn H → nn + 20 ≤ 100000 → i + 6 ≤ L → LLs b b0 ls i → cells + 12 ≤ R.cells ∧ slots + 240 ≤ R.slots →
    (∀ (σ' : ST) (H1 : Heap) (ls1 : Array Slot), LI D dA b0 adK adV adT b L xs dL s σ' (nn + 20) H1 → LLs b b0 ls1 i → W p l e R s m #[Value.ref b] below meth c H1 [] (cells + 12) (slots + 240) Q (F0 m 2056 ls1 [])) → W p l e R s m #[Value.ref b] below meth c H [] cells slots Q (F0 m pc ls [])
theorem l_case' {pc n ixX mX hX ixZ mZ hZ : Nat} (hck : lCk (pc, n, ixX, mX, hX, ixZ, mZ, hZ) = true) (hpr : ∀ i, PRf mX mZ (argA xs i 1 n)) (hF : LF p s m b meth c) (hS : VS D dA adK s) (hb0 : s.heap.size = b0) (hbl : b < b0) (hL : L ≤ 3072) (hR1 : R.frames = 13 ∧ R.locals = 496) : LCase D dA b0 adK adV adT p l e R s m b below meth c Q L xs dL pc := by
  intro σ nn H i ls cells slots hI hn hi hls hf kk
  refine l_case hck (hpr i) hF hS hI hn hb0 hbl hL hi hls hR1 ⟨by omega, by omega⟩ fun σ' H1 hI1 => ?_
  exact W.widen (by omega) (by omega) (kk σ' H1 ls hI1 hls)
theorem LLs_inc {ls ls' : Array Slot} {i : Nat} {v : Int32} (h : LLs b b0 ls i) (hv : v = Int32.ofInt ((i + 6 : Nat) : Int)) (hl' : lv_has ls' 7 ((4, Value.int v) :: (lvs adI 7 (LL b b0 (i : Int))).filter (fun q => !(q.1 == 4) && !(q.1 + 1 == 4 && q.2.category == 2)))) : LLs b b0 ls' (i + 6) := by
  subst hv
  have h1 := has_LH (hl := false) (ad := adI) (v := .inl ((i + 6 : Nat) : Int)) (i := 4) (n := 7) (fun _ j w hj => LL_cat hj) (by decide) (fun j w hj => (h.2.2 j w hj).1) hl'
  exact h1
/-- the loop -/
theorem l_loop (hF : LF p s m b meth c) (hS : VS D dA adK s) (hb0 : s.heap.size = b0) (hbl : b < b0) (hL : L ≤ 3072) (hR1 : R.frames = 13 ∧ R.locals = 496) (h7 : LCase D dA b0 adK adV adT p l e R s m b below meth c Q L xs dL 515) (h45 : LCase D dA b0 adK adV adT p l e R s m b below meth c Q L xs dL 1832)
    (hend : ∀ (σ : ST) (nn : Int) (H : Heap) (ls : Array Slot) (cells slots : Nat), cells ≤ R.cells → slots ≤ R.slots → W p l e R s m #[Value.ref b] below meth c H [] cells slots Q (F0 m 2062 ls [])) :
    ∀ (f : Nat) (σ : ST) (nn : Int) (H : Heap) (i : Nat) (ls : Array Slot) (cells slots : Nat), L + 6 ≤ i + f → i ≤ L → LI D dA b0 adK adV adT b L xs dL s σ nn H → LLs b b0 ls i → nn + 20 * f ≤ 100000 → cells + 12 * f ≤ R.cells → slots + 240 * f ≤ R.slots → W p l e R s m #[Value.ref b] below meth c H [] cells slots Q (F0 m 23 ls [])
  | 0, σ, nn, H, i, ls, cells, slots, h1, h2, _, _, _, _, _ => absurd h1 (by omega)
  | f + 1, σ, nn, H, i, ls, cells, slots, h1, h2, hI, hls, hn, hc, hs => by
    obtain ⟨hx, hb, hml, hown, hts⟩ := id hF
    obtain ⟨g0, g1, g2, g3, g4, g5⟩ := hls.g
    obtain ⟨hRl, hO, hC, hV, hX, hout, hold⟩ := id hI
    obtain ⟨scr, c1, c2, c3, c5, c6⟩ := id hX
    have hi32 : in32 (i : Int) := ⟨by omega, by omega⟩
    have hL32 : in32 ((L : Int) - 6) := ⟨by omega, by omega⟩
    refine lv_iload hx hb (lD_of (by decide +kernel : lD 23 (.iload 4) 2 = true)) g5 (lv_aload_n hx hb (lD_of (by decide +kernel : lD 25 (.aload_n 0) 1 = true)) rfl g1 ?_)
    refine W.alen (n := Int32.ofInt (L : Int)) hx hb c1 c2 (by rw [c5]; rfl) rfl rfl (lD_of (by decide +kernel : lD 26 (.arraylength) 1 = true)) ?_
    refine lv_bipush hx hb (lD_of (by decide +kernel : lD 27 (.bipush 6) 2 = true)) (n_bip ⟨by decide, by decide⟩) (lv_isub hx hb (lD_of (by decide +kernel : lD 29 (.isub) 1 = true)) ?_)
    rw [show Int32.ofInt (L : Int) - Int32.ofInt 6 = Int32.ofInt ((L : Int) - 6) from (Int32.ofInt_sub _ _).symm]
    refine lv_icmp_gt (tgt := 2062) hx hb (lD_of (by decide +kernel : lD 30 (.if_icmp .gt 2032) 3 = true)) (by first | decide | rfl) (fun _ => hend σ nn H ls cells slots (by omega) (by omega)) (fun q => ?_)
    rw [n_lt hL32 hi32] at q
    have hi6 : i + 6 ≤ L := by omega
    refine lv_aload_n hx hb (lD_of (by decide +kernel : lD 33 (.aload_n 0) 1 = true)) rfl g1 (lv_iload hx hb (lD_of (by decide +kernel : lD 34 (.iload 4) 2 = true)) g5 ?_)
    have hcl := n_clamp (j := (i : Int)) (by omega) hi32
    refine W.iald (v := .int (xs i)) hx hb c1 c2 c3 (by rw [c5]; exact n_in (by omega) hi32 (by omega)) (by rw [hcl, Int.toNat_natCast]; exact c6 _ (by omega)) rfl rfl (lD_of (by decide +kernel : lD 36 (.iaload) 1 = true)) ?_
    refine lv_bipush hx hb (lD_of (by decide +kernel : lD 37 (.bipush 63) 2 = true)) (n_bip ⟨by decide, by decide⟩) (lv_iand hx hb (lD_of (by decide +kernel : lD 39 (.iand) 1 = true)) ?_)
    have hand := and_63 (xs i).toInt
    have hv : (xs i &&& Int32.ofInt 63).toInt = i_and (xs i).toInt 63 := by
      unfold i_and
      rw [Int32.ofInt_toInt]
    have hnext : ∀ (σ' : ST) (H1 : Heap) (ls1 : Array Slot), LI D dA b0 adK adV adT b L xs dL s σ' (nn + 20) H1 → LLs b b0 ls1 i → W p l e R s m #[Value.ref b] below meth c H1 [] (cells + 12) (slots + 240) Q (F0 m 2056 ls1 []) := by
      intro σ' H1 ls1 hI1 hl1
      obtain ⟨k, hk1⟩ := List.getElem?_of_mem (lvs_mem (ad := adI) (n := 7) (L := LL b b0 (i : Int)) (i := 4) (v := .inl (i : Int)) (by decide) rfl)
      refine lv_iinc (v := Int32.ofInt ((i + 6 : Nat) : Int)) hx hb (lD_of (ins := .iinc 4 6) (len := 3) (by decide +kernel)) (LH_has hl1) (k := k) hk1 (by rw [← Int32.ofInt_add]; rfl) (by decide) rfl fun ls' hl' => ?_
      refine lv_goto (tgt := 23) hx hb (lD_of (ins := .goto (-2036)) (len := 3) (by decide +kernel)) (by decide) ?_
      exact l_loop hF hS hb0 hbl hL hR1 h7 h45 hend f σ' (nn + 20) H1 (i + 6) ls' (cells + 12) (slots + 240) (by omega) (by omega) hI1 (LLs_inc hl1 rfl hl') (by omega) (by omega) (by omega)
    by_cases hin : i_and (xs i).toInt 63 < 53
    · obtain ⟨j, hj⟩ := Int.eq_ofNat_of_zero_le hand.1
      have hj53 : j < 53 := by omega
      have ho := of_decide_eq_true (List.all_eq_true.mp lwO_ok j (List.mem_range.mpr hj53))
      have hck := lwT_ok hj53
      have hp := l_pr xs
      generalize hz : lwT.getD j (0, 0, 0, 0, 0, 0, 0, 0) = zt at ho hck
      obtain ⟨pc, n, ixX, mX, hX', ixZ, mZ, hZ⟩ := zt
      refine lv_tableIn (off := (pc : Int) - 40) (tgt := pc) hx hb l_sw (by rw [hv]; omega) (by rw [hv]; omega) (by rw [hv, hj, show ((j : Int) - 0).toNat = j by omega]; exact ho) (show ((40 : Nat) : Int) + ((pc : Int) - 40) = pc by omega) ?_
      have hcase : LCase D dA b0 adK adV adT p l e R s m b below meth c Q L xs dL pc := by
        by_cases e7 : j = 7
        · subst e7
          have e1 : pc = 515 := congrArg Prod.fst hz.symm
          rw [e1]
          exact h7
        · by_cases e45 : j = 45
          · subst e45
            have e1 : pc = 1832 := congrArg Prod.fst hz.symm
            rw [e1]
            exact h45
          · refine l_case' (n := n) (ixX := ixX) (mX := mX) (hX := hX') (ixZ := ixZ) (mZ := mZ) (hZ := hZ) ?_ (fun i => ?_) hF hS hb0 hbl hL hR1
            · have nb : ∀ {a b : Nat}, a ≠ b → Nat.beq a b = false := fun {a b} h => by
                cases hq : Nat.beq a b with
                | false => rfl
                | true => exact absurd (Nat.eq_of_beq_eq_true hq) h
              rw [nb e7, nb e45, Bool.false_or, Bool.false_or] at hck
              exact hck
            · have h := hp i j hj53 e7 e45
              rw [hz] at h
              exact h
      exact hcase σ nn H i ls cells slots hI (by omega) hi6 hls ⟨by omega, by omega⟩ hnext
    · refine lv_tableOut (tgt := 2056) hx hb l_sw (by rw [hv]; omega) (by first | decide | rfl) ?_
      exact W.widen (by omega) (by omega) (hnext σ H ls ⟨hRl, hO, hC, hV.mono (by omega) (by omega), hX, hout, hold⟩ hls)
end LOOP
