/-! the constants' length and charAt -/
theorem tb_s12 : Cond.initialized "java/lang/String" ∈ TB := tb_at (h := 1012) (by decide +kernel)
theorem tb_s13 : Cond.initialized "java/lang/StringLatin1" ∈ TB := tb_at (h := 1013) (by decide +kernel)
theorem tb_s14 : Cond.initialized "jdk/internal/util/Preconditions" ∈ TB := tb_at (h := 1014) (by decide +kernel)
def yS_coder : MethodName := ⟨"java/lang/String", "coder", "()B"⟩
def yS_isL : MethodName := ⟨"java/lang/String", "isLatin1", "()Z"⟩
def yS_len : MethodName := ⟨"java/lang/String", "length", "()I"⟩
def yS_chr : MethodName := ⟨"java/lang/String", "charAt", "(I)C"⟩
def yL_chr : MethodName := ⟨"java/lang/StringLatin1", "charAt", "([BI)C"⟩
def yS_chk : MethodName := ⟨"java/lang/String", "checkIndex", "(II)V"⟩
def yP_chk : MethodName := ⟨"jdk/internal/util/Preconditions", "checkIndex", "(IILjava/util/function/BiFunction;)I"⟩
theorem tb_coder : Cond.code yS_coder prog_24_method_152_code 1 (some .byte) ∈ TB := tb_at (h := 3029) (by decide +kernel)
theorem tb_isL : Cond.code yS_isL prog_24_method_154_code 1 (some .boolean) ∈ TB := tb_at (h := 3039) (by decide +kernel)
theorem tb_len : Cond.code yS_len prog_24_method_54_code 1 (some .int) ∈ TB := tb_at (h := 3025) (by decide +kernel)
theorem tb_chr : Cond.code yS_chr prog_24_method_56_code 2 (some .char) ∈ TB := tb_at (h := 3035) (by decide +kernel)
theorem tb_lchr : Cond.code yL_chr prog_26_method_2_code 2 (some .char) ∈ TB := tb_at (h := 3042) (by decide +kernel)
theorem tb_chk : Cond.code yS_chk prog_24_method_155_code 2 none ∈ TB := tb_at (h := 3045) (by decide +kernel)
theorem tb_pchk : Cond.code yP_chk prog_35_method_11_code 3 (some .int) ∈ TB := tb_at (h := 3050) (by decide +kernel)
theorem gw_code {w : Cond} (h : w ∈ TB) : GoodIn TB (w :: TB) := by
  intro x hx
  rcases List.mem_cons.mp hx with rfl | hx
  · exact ⟨h, tb_good h⟩
  · exact ⟨hx, tb_good hx⟩
/-- a member that writes nothing -/
def RQ (r : Option Value) : Array Value → State → Outcome → State → Prop := fun _ st o t => o = .returned r ∧ t.heap = st.heap
section STR
variable {b0 : Nat} {adK adV adT : Nat → Nat}
variable {p : Program} {l : Launch} {e : Env} {R : Room} {s : State} {m : MethodId} {args : Array Value} {below : List Frame} {meth : Method} {c : Code} {H : Heap} {locs : List Loc} {cells slots : Nat} {Q : State → Prop}
variable {cc : ByteArray} {pc : Nat} {ls : Array Slot} {rest : List Value}
def PS (b0 : Nat) (adK adV adT : Nat → Nat) (av : List Value) : Array Value → State → Prop := va_Pc av (fun U => RO b0 adK adV adT U U.heap)
theorem PS_blind {av : List Value} : FrameBlind (PS b0 adK adV adT av) := by
  intro a U g mk ⟨h1, h2⟩
  exact ⟨h1, h2.moved (s := U) (U := U.calling g mk a) (Vm.Alike.refl U.vm)⟩
theorem PS_at {av : List Value} (hO : RO b0 adK adV adT s H) (U : State) (hU : U.heap = H) (hW : s.WarmedH U.vm) : PS b0 adK adV adT av av.toArray U := ⟨rfl, by show RO b0 adK adV adT U U.heap; rw [hU]; exact hO.moved hW.alike⟩
theorem r_callRQ {rv : Option Value} {a0 : Array Value} {st0 : List Value} (hr : va_Run p l e R s m args below meth c H locs cells slots 0 0 (F0 m pc ls st0) rest (RQ rv a0) (fun _ => False))
    (kk : W p l e R s m args below meth c H locs cells slots Q (F0 m (pc + 3) ls (rv.toList ++ rest))) : W p l e R s m args below meth c H locs cells slots Q (F0 m pc ls st0) := by
  intro T hT X
  obtain ⟨v, st₀, t, T', L, h0, X', hL, e1, e2, ⟨hv, hh⟩, st⟩ := hr T hT X
  have hv' : v = rv := by injection hv
  subst hv'
  have hL0 : L = [] := by
    rcases L with _ | ⟨z, r⟩
    · rfl
    · exact (hL z List.mem_cons_self).elim
  subst hL0
  rw [List.append_nil] at X'
  obtain ⟨t2, a1, b1⟩ := kk T' (by rw [e1, hh, h0]) X'
  exact ⟨t2, st t2 a1, b1⟩
theorem RQ_ok {r : Option Value} {a : Array Value} {t : State} (hH : H = s.heap) (ht : t.heap = H) : RQ r a s (.returned r) t := ⟨rfl, by rw [ht, hH]⟩
def rmS (f lo : Nat) : Room := { frames := f, cells := 0, slots := 0, locals := lo }
theorem m_pchk (l : Launch) {x y : Int32} {v : Value} (h0 : ¬ x < 0) (h1 : x < y) (hv : v = .null ∨ ∃ a, v = .ref a) : Met l yP_chk (Cond.code yP_chk prog_35_method_11_code 3 (some .int) :: TB) (rmS 0 0) (PS b0 adK adV adT [.int x, .int y, v]) (RQ (some (.int x))) 0 0 (fun _ => False) := by
  refine va_MetF (cc := prog_35_method_11_code) (maxL := 3) (ret := some .int) (by decide) rfl ?_
  intro p e s m args below meth c s₁ B hml hv0
  obtain ⟨rfl, hO⟩ := hv0
  have hx := B.exec
  have hb := B.bytes
  have hr := B.returns
  have hlocks := B.notSynchronized
  have hl := lv_entry [.int x, .int y, v] (n := 3) (by rcases hv with rfl | ⟨a, rfl⟩ <;> exact Nat.le_of_ble_eq_true rfl)
  rw [lg_entry_eq]
  generalize (lg_sl [.int x, .int y, v] ++ List.replicate (3 - (lg_sl [.int x, .int y, v]).length) Slot.unset).toArray = ls at hl ⊢
  have hl : lv_has ls 3 [(0, .int x), (1, .int y), (2, v)] := by
    refine lv_sub hl [0, 1, 2] ?_
    rcases hv with rfl | ⟨a, rfl⟩ <;> rfl
  refine lv_iload_n hx hb (by decide +kernel : decode prog_35_method_11_code 0 = .ok (.iload_n 0, 1)) rfl (lv_at hl 0 rfl) ?_
  refine lv_if_lt (tgt := 9) hx hb (by decide +kernel : decode prog_35_method_11_code 1 = .ok (.ifCond .lt 8, 3)) (by decide) (fun h => absurd h h0) (fun _ => ?_)
  refine lv_iload_n hx hb (by decide +kernel : decode prog_35_method_11_code 4 = .ok (.iload_n 0, 1)) rfl (lv_at hl 0 rfl) ?_
  refine lv_iload_n hx hb (by decide +kernel : decode prog_35_method_11_code 5 = .ok (.iload_n 1, 1)) rfl (lv_at hl 1 rfl) ?_
  refine lv_icmp_lt (tgt := 16) hx hb (by decide +kernel : decode prog_35_method_11_code 6 = .ok (.if_icmp .lt 10, 3)) (by decide) (fun _ => ?_) (fun h => absurd h1 h)
  refine lv_iload_n hx hb (by decide +kernel : decode prog_35_method_11_code 16 = .ok (.iload_n 0, 1)) rfl (lv_at hl 0 rfl) ?_
  exact W.iret hx hb hr (fun t ht _ => RQ_ok rfl ht) (fun q hq => by cases hq) (by decide +kernel : decode prog_35_method_11_code 17 = .ok (.ireturn, 1))
theorem m_chk (l : Launch) {x y : Int32} (h0 : ¬ x < 0) (h1 : x < y) : Met l yS_chk (Cond.code yS_chk prog_24_method_155_code 2 none :: TB) (rmS 1 22) (PS b0 adK adV adT [.int x, .int y]) (RQ none) 0 0 (fun _ => False) := by
  refine va_MetF (cc := prog_24_method_155_code) (maxL := 2) (ret := none) (by decide) rfl ?_
  intro p e s m args below meth c s₁ B hml hv0
  obtain ⟨rfl, hO⟩ := hv0
  have hx := B.exec
  have hb := B.bytes
  have hr := B.returns
  have hts0 := atoms_spec (ws := Cond.code yS_chk prog_24_method_155_code 2 none :: TB) B.pre
  have hts : ∀ w ∈ TB, w.before [Value.int x, Value.int y].toArray s = true := fun w hw => hts0 w (List.mem_cons_of_mem _ hw)
  have hown : s.vm.findClass "java/lang/String" = some m.cls := findClass_of_methodNamed B.named
  have hlocks := B.notSynchronized
  have hl := lv_entry [.int x, .int y] (n := 2) (Nat.le_of_ble_eq_true rfl)
  rw [lg_entry_eq]
  generalize (lg_sl [.int x, .int y] ++ List.replicate (2 - (lg_sl [.int x, .int y]).length) Slot.unset).toArray = ls at hl ⊢
  have hl : lv_has ls 2 [(0, .int x), (1, .int y)] := hl
  refine lv_iload_n hx hb (by decide +kernel : decode prog_24_method_155_code 0 = .ok (.iload_n 0, 1)) rfl (lv_at hl 0 rfl) ?_
  refine lv_iload_n hx hb (by decide +kernel : decode prog_24_method_155_code 1 = .ok (.iload_n 1, 1)) rfl (lv_at hl 1 rfl) ?_
  have hfm : ∃ v, (v = .null ∨ ∃ a, v = .ref a) ∧ va_Z "jdk/internal/util/Preconditions" "SIOOBE_FORMATTER" "Ljava/util/function/BiFunction;" v (A0 b0) s s.heap := by
    rcases hO.2.2.2 with z | ⟨t, z⟩
    · exact ⟨_, Or.inl rfl, z⟩
    · exact ⟨_, Or.inr ⟨t, rfl⟩, z⟩
  obtain ⟨v, hv, cf, kf, fi, f, q, cell, z1, z2, z3, z4, z5, z6, z7, z8⟩ := hfm
  refine W.gets hx hb hown (hts _ (tb_at (h := 3046) (by decide +kernel : tat 3046 (.fieldLink "java/lang/String" 1053 "jdk/internal/util/Preconditions" "SIOOBE_FORMATTER" "Ljava/util/function/BiFunction;") = true))) z1 z2 z3 z4 z5 (fun y => by rw [y] at z6; cases z6) z7 rfl (by decide +kernel : decode prog_24_method_155_code 2 = .ok (.getstatic 1053, 3)) ?_
  refine r_callRQ (va_runS (own := "java/lang/String") (index := 1059) (y := yP_chk) (As := [.int x, .int y, v]) (rest := []) ⟨hx, hb, hml, hown, hts⟩ (m_pchk l h0 h1 hv)
    ⟨callB_of 3 hts (gw_code tb_pchk) rfl rfl rfl (hts _ tb_s14) (hts _ (tb_at (h := 3048) (by decide +kernel))) (by decide +kernel) ⟨Nat.le_of_ble_eq_true rfl, Nat.le_of_ble_eq_true rfl⟩, hts _ (tb_at (h := 3049) (by decide +kernel))⟩ ⟨PS_blind, fun U hU hW => PS_at hO U hU hW⟩ rfl rfl hl.1 rfl (lv_room (Nat.le_of_ble_eq_true rfl)) (by decide +kernel : decode prog_24_method_155_code 5 = .ok (.invokestatic 1059, 3)) ⟨Nat.le_refl _, Nat.le_refl _⟩) ?_
  refine lv_pop hx hb (by decide +kernel : decode prog_24_method_155_code 8 = .ok (.pop, 1)) rfl ?_
  exact W.vret hx hb hr (fun t ht _ => RQ_ok rfl ht) (fun q hq => by cases hq) (by decide +kernel : decode prog_24_method_155_code 9 = .ok (.return_, 1))
theorem str_len {i : Nat} (hi : i < 26) : lenS.getD i 0 = (strs.getD i []).length ∧ lenS.getD i 0 < 2 ^ 31 := by
  have h : (List.range 26).all (fun i => decide (lenS.getD i 0 = (strs.getD i []).length ∧ lenS.getD i 0 < 2 ^ 31)) = true := by decide +kernel
  simpa only [decide_eq_true_eq] using List.all_eq_true.mp h i (List.mem_range.mpr hi)
theorem str_byt {i j : Nat} (hi : i < 26) (hj : j < (strs.getD i []).length) : ((((bytS.getD i []).getD j 0) &&& 255).toUInt32 % 65536).toInt32 = Int32.ofInt ((strs.getD i []).getD j 0) ∧ narrow .char (.int (Int32.ofInt ((strs.getD i []).getD j 0))) = .int (Int32.ofInt ((strs.getD i []).getD j 0)) ∧ in32 ((strs.getD i []).getD j 0) := by
  have h : (List.range 26).all (fun i => (List.range ((strs.getD i []).length)).all (fun j => decide (((((bytS.getD i []).getD j 0) &&& 255).toUInt32 % 65536).toInt32 = Int32.ofInt ((strs.getD i []).getD j 0) ∧ narrow .char (.int (Int32.ofInt ((strs.getD i []).getD j 0))) = .int (Int32.ofInt ((strs.getD i []).getD j 0)) ∧ -2147483648 ≤ (strs.getD i []).getD j 0 ∧ (strs.getD i []).getD j 0 < 2147483648))) = true := by decide +kernel
  have h1 := List.all_eq_true.mp (List.all_eq_true.mp h i (List.mem_range.mpr hi)) j (List.mem_range.mpr hj)
  rw [decide_eq_true_eq] at h1
  exact h1
theorem m_coder (l : Launch) {i : Nat} (hi : i < 26) : Met l yS_coder (Cond.code yS_coder prog_24_method_152_code 1 (some .byte) :: TB) (rmS 0 0) (PS b0 adK adV adT [.ref (adK i)]) (RQ (some (.int 0))) 0 0 (fun _ => False) := by
  refine va_MetF (cc := prog_24_method_152_code) (maxL := 1) (ret := some .byte) (by decide) rfl ?_
  intro p e s m args below meth c s₁ B hml hv0
  obtain ⟨rfl, hO⟩ := hv0
  have hx := B.exec
  have hb := B.bytes
  have hr := B.returns
  have hts0 := atoms_spec (ws := Cond.code yS_coder prog_24_method_152_code 1 (some .byte) :: TB) B.pre
  have hts : ∀ w ∈ TB, w.before [Value.ref (adK i)].toArray s = true := fun w hw => hts0 w (List.mem_cons_of_mem _ hw)
  have hown : s.vm.findClass "java/lang/String" = some m.cls := findClass_of_methodNamed B.named
  have hlocks := B.notSynchronized
  have hl := lv_entry [.ref (adK i)] (n := 1) (Nat.le_of_ble_eq_true rfl)
  rw [lg_entry_eq]
  generalize (lg_sl [.ref (adK i)] ++ List.replicate (1 - (lg_sl [.ref (adK i)]).length) Slot.unset).toArray = ls at hl ⊢
  have hl : lv_has ls 1 [(0, .ref (adK i))] := hl
  obtain ⟨cf, kf, fi, f, q, cell, z1, z2, z3, z4, z5, z6, z7, z8⟩ := hO.2.2.1
  refine W.gets hx hb hown (hts _ (tb_at (h := 3030) (by decide +kernel : tat 3030 (.fieldLink "java/lang/String" 38 "java/lang/String" "COMPACT_STRINGS" "Z") = true))) z1 z2 z3 z4 z5 (fun y => by rw [y] at z6; cases z6) z7 rfl (by decide +kernel : decode prog_24_method_152_code 0 = .ok (.getstatic 38, 3)) ?_
  refine lv_if_eq (tgt := 13) hx hb (by decide +kernel : decode prog_24_method_152_code 3 = .ok (.ifCond .eq 10, 3)) rfl (fun h => absurd h (by decide)) (fun _ => ?_)
  refine lv_aload_n hx hb (by decide +kernel : decode prog_24_method_152_code 6 = .ok (.aload_n 0, 1)) rfl (lv_at hl 0 rfl) ?_
  obtain ⟨cf2, k2, i2, f2, cell2, h1, h2, h3, h4, h5, h6⟩ := (hO.1.1 i hi).2.1
  refine W.getf hx hb hown (hts _ (tb_at (h := 10102) (by decide +kernel : tat 10102 (.fieldLink "java/lang/String" 15 "java/lang/String" "coder" "B") = true))) h1 h2 h3 h4 (v := .int 0) h5 rfl rfl (by decide +kernel : decode prog_24_method_152_code 7 = .ok (.getfield 15, 3)) ?_
  refine lv_goto (tgt := 14) hx hb (by decide +kernel : decode prog_24_method_152_code 10 = .ok (.goto 4, 3)) rfl ?_
  exact W.zret hx hb hr rfl (fun t ht _ => RQ_ok rfl ht) (fun q hq => by cases hq) (by decide +kernel : decode prog_24_method_152_code 14 = .ok (.ireturn, 1))
theorem m_isL (l : Launch) {i : Nat} (hi : i < 26) : Met l yS_isL (Cond.code yS_isL prog_24_method_154_code 1 (some .boolean) :: TB) (rmS 0 0) (PS b0 adK adV adT [.ref (adK i)]) (RQ (some (.int 1))) 0 0 (fun _ => False) := by
  refine va_MetF (cc := prog_24_method_154_code) (maxL := 1) (ret := some .boolean) (by decide) rfl ?_
  intro p e s m args below meth c s₁ B hml hv0
  obtain ⟨rfl, hO⟩ := hv0
  have hx := B.exec
  have hb := B.bytes
  have hr := B.returns
  have hts0 := atoms_spec (ws := Cond.code yS_isL prog_24_method_154_code 1 (some .boolean) :: TB) B.pre
  have hts : ∀ w ∈ TB, w.before [Value.ref (adK i)].toArray s = true := fun w hw => hts0 w (List.mem_cons_of_mem _ hw)
  have hown : s.vm.findClass "java/lang/String" = some m.cls := findClass_of_methodNamed B.named
  have hlocks := B.notSynchronized
  have hl := lv_entry [.ref (adK i)] (n := 1) (Nat.le_of_ble_eq_true rfl)
  rw [lg_entry_eq]
  generalize (lg_sl [.ref (adK i)] ++ List.replicate (1 - (lg_sl [.ref (adK i)]).length) Slot.unset).toArray = ls at hl ⊢
  have hl : lv_has ls 1 [(0, .ref (adK i))] := hl
  obtain ⟨cf, kf, fi, f, q, cell, z1, z2, z3, z4, z5, z6, z7, z8⟩ := hO.2.2.1
  refine W.gets hx hb hown (hts _ (tb_at (h := 3030) (by decide +kernel : tat 3030 (.fieldLink "java/lang/String" 38 "java/lang/String" "COMPACT_STRINGS" "Z") = true))) z1 z2 z3 z4 z5 (fun y => by rw [y] at z6; cases z6) z7 rfl (by decide +kernel : decode prog_24_method_154_code 0 = .ok (.getstatic 38, 3)) ?_
  refine lv_if_eq (tgt := 17) hx hb (by decide +kernel : decode prog_24_method_154_code 3 = .ok (.ifCond .eq 14, 3)) rfl (fun h => absurd h (by decide)) (fun _ => ?_)
  refine lv_aload_n hx hb (by decide +kernel : decode prog_24_method_154_code 6 = .ok (.aload_n 0, 1)) rfl (lv_at hl 0 rfl) ?_
  obtain ⟨cf2, k2, i2, f2, cell2, h1, h2, h3, h4, h5, h6⟩ := (hO.1.1 i hi).2.1
  refine W.getf hx hb hown (hts _ (tb_at (h := 10102) (by decide +kernel : tat 10102 (.fieldLink "java/lang/String" 15 "java/lang/String" "coder" "B") = true))) h1 h2 h3 h4 (v := .int 0) h5 rfl rfl (by decide +kernel : decode prog_24_method_154_code 7 = .ok (.getfield 15, 3)) ?_
  refine lv_if_ne (tgt := 17) hx hb (by decide +kernel : decode prog_24_method_154_code 10 = .ok (.ifCond .ne 7, 3)) rfl (fun h => absurd rfl h) (fun _ => ?_)
  refine lv_iconst (v := 1) hx hb (by decide +kernel : decode prog_24_method_154_code 13 = .ok (.iconst 1, 1)) (by decide) ?_
  refine lv_goto (tgt := 18) hx hb (by decide +kernel : decode prog_24_method_154_code 14 = .ok (.goto 4, 3)) rfl ?_
  exact W.zret hx hb hr rfl (fun t ht _ => RQ_ok rfl ht) (fun q hq => by cases hq) (by decide +kernel : decode prog_24_method_154_code 18 = .ok (.ireturn, 1))
theorem m_len (l : Launch) {i : Nat} (hi : i < 26) : Met l yS_len (Cond.code yS_len prog_24_method_54_code 1 (some .int) :: TB) (rmS 1 20) (PS b0 adK adV adT [.ref (adK i)]) (RQ (some (.int (Int32.ofInt ((strs.getD i []).length : Int))))) 0 0 (fun _ => False) := by
  refine va_MetF (cc := prog_24_method_54_code) (maxL := 1) (ret := some .int) (by decide) rfl ?_
  intro p e s m args below meth c s₁ B hml hv0
  obtain ⟨rfl, hO⟩ := hv0
  have hx := B.exec
  have hb := B.bytes
  have hr := B.returns
  have hts0 := atoms_spec (ws := Cond.code yS_len prog_24_method_54_code 1 (some .int) :: TB) B.pre
  have hts : ∀ w ∈ TB, w.before [Value.ref (adK i)].toArray s = true := fun w hw => hts0 w (List.mem_cons_of_mem _ hw)
  have hown : s.vm.findClass "java/lang/String" = some m.cls := findClass_of_methodNamed B.named
  have hlocks := B.notSynchronized
  have hl := lv_entry [.ref (adK i)] (n := 1) (Nat.le_of_ble_eq_true rfl)
  rw [lg_entry_eq]
  generalize (lg_sl [.ref (adK i)] ++ List.replicate (1 - (lg_sl [.ref (adK i)]).length) Slot.unset).toArray = ls at hl ⊢
  have hl : lv_has ls 1 [(0, .ref (adK i))] := hl
  refine lv_aload_n hx hb (by decide +kernel : decode prog_24_method_54_code 0 = .ok (.aload_n 0, 1)) rfl (lv_at hl 0 rfl) ?_
  obtain ⟨cf2, k2, i2, f2, cell2, h1, h2, h3, h4, h5, h6⟩ := (hO.1.1 i hi).2.2.1
  refine W.getf hx hb hown (hts _ (tb_at (h := 10101) (by decide +kernel : tat 10101 (.fieldLink "java/lang/String" 9 "java/lang/String" "value" "[B") = true))) h1 h2 h3 h4 (v := .ref (adV i)) h5 rfl rfl (by decide +kernel : decode prog_24_method_54_code 1 = .ok (.getfield 9, 3)) ?_
  obtain ⟨cell3, g1, g2, g3, g4, g5, g6, g7⟩ := (hO.1.1 i hi).2.2.2
  refine W.alen hx hb g1 g2 g5 rfl rfl (by decide +kernel : decode prog_24_method_54_code 4 = .ok (.arraylength, 1)) ?_
  refine lv_aload_n hx hb (by decide +kernel : decode prog_24_method_54_code 5 = .ok (.aload_n 0, 1)) rfl (lv_at hl 0 rfl) ?_
  obtain ⟨cellK, k1, k2', k3, -⟩ := (hO.1.1 i hi).1
  refine r_callRQ (va_runV (own := "java/lang/String") (C := "java/lang/String") (index := 335) (y := yS_coder) (As := []) (rest := [.int (Int32.ofNat (lenS.getD i 0))]) ⟨hx, hb, hml, hown, hts⟩ (m_coder l hi)
    ⟨callB_of 0 hts (gw_code tb_coder) rfl rfl rfl (hts _ tb_s12) (hts _ (tb_at (h := 3026) (by decide +kernel))) (by decide +kernel) ⟨Nat.le_of_ble_eq_true rfl, Nat.le_of_ble_eq_true rfl⟩, hts _ (tb_at (h := 3027) (by decide +kernel)), hts _ (tb_at (h := 3028) (by decide +kernel))⟩ ⟨PS_blind, ⟨cellK, k1, k2', k3⟩, fun U hU hW => PS_at hO U hU hW⟩ rfl rfl hl.1 rfl (lv_room (Nat.le_of_ble_eq_true rfl)) (by decide +kernel : decode prog_24_method_54_code 6 = .ok (.invokevirtual 335, 3)) ⟨Nat.le_refl _, Nat.le_refl _⟩) ?_
  refine lv_ishr hx hb (by decide +kernel : decode prog_24_method_54_code 9 = .ok (.ishr, 1)) ?_
  have hsl := str_len hi
  have hsh : Int32.ofNat (lenS.getD i 0) >>> ((0 : Int32) &&& 31) = Int32.ofInt ((strs.getD i []).length : Int) := by
    have h : (List.range 26).all (fun i => decide (Int32.ofNat (lenS.getD i 0) >>> ((0 : Int32) &&& 31) = Int32.ofInt ((strs.getD i []).length : Int))) = true := by decide +kernel
    simpa only [decide_eq_true_eq] using List.all_eq_true.mp h i (List.mem_range.mpr hi)
  rw [hsh]
  exact W.iret hx hb hr (fun t ht _ => RQ_ok rfl ht) (fun q hq => by cases hq) (by decide +kernel : decode prog_24_method_54_code 10 = .ok (.ireturn, 1))
theorem m_lchr (l : Launch) {i j : Nat} (hi : i < 26) (hj : j < (strs.getD i []).length) : Met l yL_chr (Cond.code yL_chr prog_26_method_2_code 2 (some .char) :: TB) (rmS 2 43) (PS b0 adK adV adT [.ref (adV i), .int (Int32.ofNat j)]) (RQ (some (.int (Int32.ofInt ((strs.getD i []).getD j 0))))) 0 0 (fun _ => False) := by
  refine va_MetF (cc := prog_26_method_2_code) (maxL := 2) (ret := some .char) (by decide) rfl ?_
  intro p e s m args below meth c s₁ B hml hv0
  obtain ⟨rfl, hO⟩ := hv0
  have hx := B.exec
  have hb := B.bytes
  have hr := B.returns
  have hts0 := atoms_spec (ws := Cond.code yL_chr prog_26_method_2_code 2 (some .char) :: TB) B.pre
  have hts : ∀ w ∈ TB, w.before [Value.ref (adV i), Value.int (Int32.ofNat j)].toArray s = true := fun w hw => hts0 w (List.mem_cons_of_mem _ hw)
  have hown : s.vm.findClass "java/lang/StringLatin1" = some m.cls := findClass_of_methodNamed B.named
  have hlocks := B.notSynchronized
  have hl := lv_entry [.ref (adV i), .int (Int32.ofNat j)] (n := 2) (Nat.le_of_ble_eq_true rfl)
  rw [lg_entry_eq]
  generalize (lg_sl [.ref (adV i), .int (Int32.ofNat j)] ++ List.replicate (2 - (lg_sl [.ref (adV i), .int (Int32.ofNat j)]).length) Slot.unset).toArray = ls at hl ⊢
  have hl : lv_has ls 2 [(0, .ref (adV i)), (1, .int (Int32.ofNat j))] := hl
  obtain ⟨hle, hlt⟩ := str_len hi
  have hjl : j < lenS.getD i 0 := by rw [hle]; exact hj
  have hj31 : j < 2 ^ 31 := by omega
  obtain ⟨hby, hnr, hin⟩ := str_byt hi hj
  obtain ⟨cell3, g1, g2, g3, g4, g5, g6, g7⟩ := (hO.1.1 i hi).2.2.2
  refine lv_iload_n hx hb (by decide +kernel : decode prog_26_method_2_code 0 = .ok (.iload_n 1, 1)) rfl (lv_at hl 1 rfl) ?_
  refine lv_aload_n hx hb (by decide +kernel : decode prog_26_method_2_code 1 = .ok (.aload_n 0, 1)) rfl (lv_at hl 0 rfl) ?_
  refine W.alen hx hb g1 g2 g5 rfl rfl (by decide +kernel : decode prog_26_method_2_code 2 = .ok (.arraylength, 1)) ?_
  refine r_callRQ (va_runS (own := "java/lang/StringLatin1") (index := 9) (y := yS_chk) (As := [.int (Int32.ofNat j), .int (Int32.ofNat (lenS.getD i 0))]) (rest := []) ⟨hx, hb, hml, hown, hts⟩ (m_chk l (nI_pos hj31) (nI_lt hjl hlt))
    ⟨callB_of 2 hts (gw_code tb_chk) rfl rfl rfl (hts _ tb_s12) (hts _ (tb_at (h := 3043) (by decide +kernel))) (by decide +kernel) ⟨Nat.le_of_ble_eq_true rfl, Nat.le_of_ble_eq_true rfl⟩, hts _ (tb_at (h := 3044) (by decide +kernel))⟩ ⟨PS_blind, fun U hU hW => PS_at hO U hU hW⟩ rfl rfl hl.1 rfl (lv_room (Nat.le_of_ble_eq_true rfl)) (by decide +kernel : decode prog_26_method_2_code 3 = .ok (.invokestatic 9, 3)) ⟨Nat.le_refl _, Nat.le_refl _⟩) ?_
  refine lv_aload_n hx hb (by decide +kernel : decode prog_26_method_2_code 6 = .ok (.aload_n 0, 1)) rfl (lv_at hl 0 rfl) ?_
  refine lv_iload_n hx hb (by decide +kernel : decode prog_26_method_2_code 7 = .ok (.iload_n 1, 1)) rfl (lv_at hl 1 rfl) ?_
  have hcl : (Int32.ofNat j).toNatClampNeg = j := nI_clamp hj31
  have hcl2 : (nI j).toNatClampNeg = j := nI_clamp hj31
  refine W.bald (v := .int ((bytS.getD i []).getD j 0)) hx hb g1 g2 g3 (fun z => z.elim (nI_pos hj31) (fun z => by rw [hcl2] at z; omega)) (by rw [hcl2, g6 j hjl]) rfl rfl (by decide +kernel : decode prog_26_method_2_code 8 = .ok (.baload, 1)) ?_
  refine lv_sipush (v := 255) hx hb (by decide +kernel : decode prog_26_method_2_code 9 = .ok (.sipush 255, 3)) (by decide) ?_
  refine lv_iand hx hb (by decide +kernel : decode prog_26_method_2_code 12 = .ok (.iand, 1)) ?_
  refine lv_i2c hx hb (by decide +kernel : decode prog_26_method_2_code 13 = .ok (.i2c, 1)) hby ?_
  exact W.zret hx hb hr hnr (fun t ht _ => RQ_ok rfl ht) (fun q hq => by cases hq) (by decide +kernel : decode prog_26_method_2_code 14 = .ok (.ireturn, 1))
theorem m_chr (l : Launch) {i j : Nat} (hi : i < 26) (hj : j < (strs.getD i []).length) : Met l yS_chr (Cond.code yS_chr prog_24_method_56_code 2 (some .char) :: TB) (rmS 3 64) (PS b0 adK adV adT [.ref (adK i), .int (Int32.ofNat j)]) (RQ (some (.int (Int32.ofInt ((strs.getD i []).getD j 0))))) 0 0 (fun _ => False) := by
  refine va_MetF (cc := prog_24_method_56_code) (maxL := 2) (ret := some .char) (by decide) rfl ?_
  intro p e s m args below meth c s₁ B hml hv0
  obtain ⟨rfl, hO⟩ := hv0
  have hx := B.exec
  have hb := B.bytes
  have hr := B.returns
  have hts0 := atoms_spec (ws := Cond.code yS_chr prog_24_method_56_code 2 (some .char) :: TB) B.pre
  have hts : ∀ w ∈ TB, w.before [Value.ref (adK i), Value.int (Int32.ofNat j)].toArray s = true := fun w hw => hts0 w (List.mem_cons_of_mem _ hw)
  have hown : s.vm.findClass "java/lang/String" = some m.cls := findClass_of_methodNamed B.named
  have hlocks := B.notSynchronized
  have hl := lv_entry [.ref (adK i), .int (Int32.ofNat j)] (n := 2) (Nat.le_of_ble_eq_true rfl)
  rw [lg_entry_eq]
  generalize (lg_sl [.ref (adK i), .int (Int32.ofNat j)] ++ List.replicate (2 - (lg_sl [.ref (adK i), .int (Int32.ofNat j)]).length) Slot.unset).toArray = ls at hl ⊢
  have hl : lv_has ls 2 [(0, .ref (adK i)), (1, .int (Int32.ofNat j))] := hl
  obtain ⟨hby, hnr, hin⟩ := str_byt hi hj
  refine lv_aload_n hx hb (by decide +kernel : decode prog_24_method_56_code 0 = .ok (.aload_n 0, 1)) rfl (lv_at hl 0 rfl) ?_
  obtain ⟨cellK, k1, k2', k3, -⟩ := (hO.1.1 i hi).1
  refine r_callRQ (va_runV (own := "java/lang/String") (C := "java/lang/String") (index := 492) (y := yS_isL) (As := []) (rest := []) ⟨hx, hb, hml, hown, hts⟩ (m_isL l hi)
    ⟨callB_of 0 hts (gw_code tb_isL) rfl rfl rfl (hts _ tb_s12) (hts _ (tb_at (h := 3036) (by decide +kernel))) (by decide +kernel) ⟨Nat.le_of_ble_eq_true rfl, Nat.le_of_ble_eq_true rfl⟩, hts _ (tb_at (h := 3037) (by decide +kernel)), hts _ (tb_at (h := 3038) (by decide +kernel))⟩ ⟨PS_blind, ⟨cellK, k1, k2', k3⟩, fun U hU hW => PS_at hO U hU hW⟩ rfl rfl hl.1 rfl (lv_room (Nat.le_of_ble_eq_true rfl)) (by decide +kernel : decode prog_24_method_56_code 1 = .ok (.invokevirtual 492, 3)) ⟨Nat.le_refl _, Nat.le_refl _⟩) ?_
  refine lv_if_eq (tgt := 16) hx hb (by decide +kernel : decode prog_24_method_56_code 4 = .ok (.ifCond .eq 12, 3)) (by decide) (fun h => absurd h (by decide)) (fun _ => ?_)
  refine lv_aload_n hx hb (by decide +kernel : decode prog_24_method_56_code 7 = .ok (.aload_n 0, 1)) rfl (lv_at hl 0 rfl) ?_
  obtain ⟨cf2, k2, i2, f2, cell2, h1, h2, h3, h4, h5, h6⟩ := (hO.1.1 i hi).2.2.1
  refine W.getf hx hb hown (hts _ (tb_at (h := 10101) (by decide +kernel : tat 10101 (.fieldLink "java/lang/String" 9 "java/lang/String" "value" "[B") = true))) h1 h2 h3 h4 (v := .ref (adV i)) h5 rfl rfl (by decide +kernel : decode prog_24_method_56_code 8 = .ok (.getfield 9, 3)) ?_
  refine lv_iload_n hx hb (by decide +kernel : decode prog_24_method_56_code 11 = .ok (.iload_n 1, 1)) rfl (lv_at hl 1 rfl) ?_
  refine r_callRQ (va_runS (own := "java/lang/String") (index := 495) (y := yL_chr) (As := [.ref (adV i), .int (Int32.ofNat j)]) (rest := []) ⟨hx, hb, hml, hown, hts⟩ (m_lchr l hi hj)
    ⟨callB_of 2 hts (gw_code tb_lchr) rfl rfl rfl (hts _ tb_s13) (hts _ (tb_at (h := 3040) (by decide +kernel))) (by decide +kernel) ⟨Nat.le_of_ble_eq_true rfl, Nat.le_of_ble_eq_true rfl⟩, hts _ (tb_at (h := 3041) (by decide +kernel))⟩ ⟨PS_blind, fun U hU hW => PS_at hO U hU hW⟩ rfl rfl hl.1 rfl (lv_room (Nat.le_of_ble_eq_true rfl)) (by decide +kernel : decode prog_24_method_56_code 12 = .ok (.invokestatic 495, 3)) ⟨Nat.le_refl _, Nat.le_refl _⟩) ?_
  exact W.zret hx hb hr hnr (fun t ht _ => RQ_ok rfl ht) (fun q hq => by cases hq) (by decide +kernel : decode prog_24_method_56_code 15 = .ok (.ireturn, 1))
end STR
