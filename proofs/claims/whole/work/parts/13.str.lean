/-! the constants' length and charAt -/
theorem tb_s12 : Cond.initialized "java/lang/String" ∈ TB := tb_at (h := 1012) (by decide +kernel)
theorem tb_s13 : Cond.initialized "java/lang/StringLatin1" ∈ TB := tb_at (h := 1013) (by decide +kernel)
theorem tb_s14 : Cond.initialized "jdk/internal/util/Preconditions" ∈ TB := tb_at (h := 1014) (by decide +kernel)
def yS_coder : MethodName := ⟨"java/lang/String", "coder", "()B"⟩
def yS_isL : MethodName := ⟨"java/lang/String", "isLatin1", "()Z"⟩
def yS_len : MethodName := ⟨"java/lang/String", "length", "()I"⟩
def yS_chr : MethodName := ⟨"java/lang/String", "charAt", "(I)C"⟩
def yL_chr : MethodName := ⟨"java/lang/StringLatin1", "charAt", "([BI)C"⟩
def yS_chk : MethodName := ⟨"java/lang/String", "checkIndex", "(II)V"⟩
def yP_chk : MethodName := ⟨"jdk/internal/util/Preconditions", "checkIndex", "(IILjava/util/function/BiFunction;)I"⟩
theorem tb_coder : Cond.code yS_coder prog_24_method_152_code 1 (some .byte) ∈ TB := tb_at (h := 3029) (by decide +kernel)
theorem tb_isL : Cond.code yS_isL prog_24_method_154_code 1 (some .boolean) ∈ TB := tb_at (h := 3039) (by decide +kernel)
theorem tb_len : Cond.code yS_len prog_24_method_54_code 1 (some .int) ∈ TB := tb_at (h := 3025) (by decide +kernel)
theorem tb_chr : Cond.code yS_chr prog_24_method_56_code 2 (some .char) ∈ TB := tb_at (h := 3035) (by decide +kernel)
theorem tb_lchr : Cond.code yL_chr prog_26_method_2_code 2 (some .char) ∈ TB := tb_at (h := 3042) (by decide +kernel)
theorem tb_chk : Cond.code yS_chk prog_24_method_155_code 2 none ∈ TB := tb_at (h := 3045) (by decide +kernel)
theorem tb_pchk : Cond.code yP_chk prog_35_method_11_code 3 (some .int) ∈ TB := tb_at (h := 3050) (by decide +kernel)
theorem gw_code {w : Cond} (h : w ∈ TB) : GoodIn TB (w :: TB) := by
  intro x hx
  rcases List.mem_cons.mp hx with rfl | hx
  · exact ⟨h, tb_good h⟩
  · exact ⟨hx, tb_good hx⟩
/-- a member that writes nothing -/
def RQ (r : Option Value) : Array Value → State → Outcome → State → Prop := fun _ st o t => o = .returned r ∧ t.heap = st.heap
section STR
variable {b0 : Nat} {adK adV adT : Nat → Nat}
variable {p : Program} {l : Launch} {e : Env} {R : Room} {s : State} {m : MethodId} {args : Array Value} {below : List Frame} {meth : Method} {c : Code} {H : Heap} {locs : List Loc} {cells slots : Nat} {Q : State → Prop}
variable {cc : ByteArray} {pc : Nat} {ls : Array Slot} {rest : List Value}
def PS (b0 : Nat) (adK adV adT : Nat → Nat) (av : List Value) : Array Value → State → Prop := va_Pc av (fun U => RO b0 adK adV adT U U.heap)
theorem PS_blind {av : List Value} : FrameBlind (PS b0 adK adV adT av) := by
  intro a U g mk ⟨h1, h2⟩
  exact ⟨h1, h2.moved (s := U) (U := U.calling g mk a) (Vm.Alike.refl U.vm)⟩
theorem PS_at {av : List Value} (hO : RO b0 adK adV adT s H) (U : State) (hU : U.heap = H) (hW : s.WarmedH U.vm) : PS b0 adK adV adT av av.toArray U := ⟨rfl, by rw [hU]; exact hO.moved hW.alike⟩
theorem r_callRQ {rv : Option Value} {a0 : Array Value} {st0 : List Value} (hr : va_Run p l e R s m args below meth c H locs cells slots 0 0 (F0 m pc ls st0) rest (RQ rv a0) (fun _ => False))
    (kk : W p l e R s m args below meth c H locs cells slots Q (F0 m (pc + 3) ls (rv.toList ++ rest))) : W p l e R s m args below meth c H locs cells slots Q (F0 m pc ls st0) := by
  intro T hT X
  obtain ⟨v, st₀, t, T', L, h0, X', hL, e1, e2, ⟨hv, hh⟩, st⟩ := hr T hT X
  have hv' : v = rv := by injection hv
  subst hv'
  have hL0 : L = [] := by
    rcases L with _ | ⟨z, r⟩
    · rfl
    · exact (hL z List.mem_cons_self).elim
  subst hL0
  rw [List.append_nil] at X'
  obtain ⟨t2, a1, b1⟩ := kk T' (by rw [e1, hh, h0]) X'
  exact ⟨t2, st t2 a1, b1⟩
theorem RQ_ok {r : Option Value} {a : Array Value} {t : State} (hH : H = s.heap) (ht : t.heap = H) : RQ r a s (.returned r) t := ⟨rfl, by rw [ht, hH]⟩
def rmS (f lo : Nat) : Room := { frames := f, cells := 0, slots := 0, locals := lo }
theorem m_pchk (l : Launch) {x y : Int32} {v : Value} (h0 : ¬ x < 0) (h1 : x < y) (hv : v = .null ∨ ∃ a, v = .ref a) : Met l yP_chk (Cond.code yP_chk prog_35_method_11_code 3 (some .int) :: TB) (rmS 0 0) (PS b0 adK adV adT [.int x, .int y, v]) (RQ (some (.int x))) 0 0 (fun _ => False) := by
  refine va_MetF (cc := prog_35_method_11_code) (maxL := 3) (ret := some .int) (by decide) rfl ?_
  intro p e s m args below meth c s₁ B hml hv0
  obtain ⟨rfl, hO⟩ := hv0
  have hx := B.exec
  have hb := B.bytes
  have hr := B.returns
  have hlocks := B.notSynchronized
  have hl := lv_entry [.int x, .int y, v] (n := 3) (by rcases hv with rfl | ⟨a, rfl⟩ <;> decide)
  rw [lg_entry_eq]
  generalize (lg_sl [.int x, .int y, v] ++ List.replicate (3 - (lg_sl [.int x, .int y, v]).length) Slot.unset).toArray = ls at hl ⊢
  have hl : lv_has ls 3 [(0, .int x), (1, .int y), (2, v)] := by
    refine lv_sub hl [0, 1, 2] ?_
    rcases hv with rfl | ⟨a, rfl⟩ <;> rfl
  refine lv_iload_n hx hb (by decide +kernel : decode prog_35_method_11_code 0 = .ok (.iload_n 0, 1)) rfl (lv_at hl 0 rfl) ?_
  refine lv_if_lt (tgt := 9) hx hb (by decide +kernel : decode prog_35_method_11_code 1 = .ok (.ifCond .lt 8, 3)) (by decide) (fun h => absurd h h0) (fun _ => ?_)
  refine lv_iload_n hx hb (by decide +kernel : decode prog_35_method_11_code 4 = .ok (.iload_n 0, 1)) rfl (lv_at hl 0 rfl) ?_
  refine lv_iload_n hx hb (by decide +kernel : decode prog_35_method_11_code 5 = .ok (.iload_n 1, 1)) rfl (lv_at hl 1 rfl) ?_
  refine lv_icmp_lt (tgt := 16) hx hb (by decide +kernel : decode prog_35_method_11_code 6 = .ok (.if_icmp .lt 10, 3)) (by decide) (fun _ => ?_) (fun h => absurd h1 h)
  refine lv_iload_n hx hb (by decide +kernel : decode prog_35_method_11_code 16 = .ok (.iload_n 0, 1)) rfl (lv_at hl 0 rfl) ?_
  exact W.iret hx hb hr (fun t ht _ => RQ_ok rfl ht) (fun q hq => by cases hq) (by decide +kernel : decode prog_35_method_11_code 17 = .ok (.ireturn, 1))
theorem m_chk (l : Launch) {x y : Int32} (h0 : ¬ x < 0) (h1 : x < y) : Met l yS_chk (Cond.code yS_chk prog_24_method_155_code 2 none :: TB) (rmS 1 22) (PS b0 adK adV adT [.int x, .int y]) (RQ none) 0 0 (fun _ => False) := by
  refine va_MetF (cc := prog_24_method_155_code) (maxL := 2) (ret := none) (by decide) rfl ?_
  intro p e s m args below meth c s₁ B hml hv0
  obtain ⟨rfl, hO⟩ := hv0
  have hx := B.exec
  have hb := B.bytes
  have hr := B.returns
  have hts0 := atoms_spec (ws := Cond.code yS_chk prog_24_method_155_code 2 none :: TB) B.pre
  have hts : ∀ w ∈ TB, w.before [Value.int x, Value.int y].toArray s = true := fun w hw => hts0 w (List.mem_cons_of_mem _ hw)
  have hown : s.vm.findClass "java/lang/String" = some m.cls := findClass_of_methodNamed B.named
  have hlocks := B.notSynchronized
  have hl := lv_entry [.int x, .int y] (n := 2) (by decide)
  rw [lg_entry_eq]
  generalize (lg_sl [.int x, .int y] ++ List.replicate (2 - (lg_sl [.int x, .int y]).length) Slot.unset).toArray = ls at hl ⊢
  have hl : lv_has ls 2 [(0, .int x), (1, .int y)] := hl
  refine lv_iload_n hx hb (by decide +kernel : decode prog_24_method_155_code 0 = .ok (.iload_n 0, 1)) rfl (lv_at hl 0 rfl) ?_
  refine lv_iload_n hx hb (by decide +kernel : decode prog_24_method_155_code 1 = .ok (.iload_n 1, 1)) rfl (lv_at hl 1 rfl) ?_
  have hfm : ∃ v, (v = .null ∨ ∃ a, v = .ref a) ∧ va_Z "jdk/internal/util/Preconditions" "SIOOBE_FORMATTER" "Ljava/util/function/BiFunction;" v (A0 b0) s s.heap := by
    rcases hO.2.2.2 with z | ⟨t, z⟩
    · exact ⟨_, Or.inl rfl, z⟩
    · exact ⟨_, Or.inr ⟨t, rfl⟩, z⟩
  obtain ⟨v, hv, cf, kf, fi, f, q, cell, z1, z2, z3, z4, z5, z6, z7, z8⟩ := hfm
  refine W.gets hx hb hown (hts _ (tb_at (h := 3046) (by decide +kernel : tat 3046 (.fieldLink "java/lang/String" 1053 "jdk/internal/util/Preconditions" "SIOOBE_FORMATTER" "Ljava/util/function/BiFunction;") = true))) z1 z2 z3 z4 z5 (fun y => by rw [y] at z6; cases z6) z7 rfl (by decide +kernel : decode prog_24_method_155_code 2 = .ok (.getstatic 1053, 3)) ?_
  refine r_callRQ (va_runS (own := "java/lang/String") (index := 1059) (y := yP_chk) (As := [.int x, .int y, v]) (rest := []) ⟨hx, hb, hml, hown, hts⟩ (m_pchk l h0 h1 hv)
    ⟨callB_of 3 hts (gw_code tb_pchk) rfl rfl rfl (hts _ tb_s14) (hts _ (tb_at (h := 3048) (by decide +kernel))) (by decide +kernel) ⟨Nat.le_of_ble_eq_true rfl, Nat.le_of_ble_eq_true rfl⟩, hts _ (tb_at (h := 3049) (by decide +kernel))⟩ ⟨PS_blind, fun U hU hW => PS_at hO U hU hW⟩ rfl rfl hl.1 rfl (lv_room (Nat.le_of_ble_eq_true rfl)) (by decide +kernel : decode prog_24_method_155_code 5 = .ok (.invokestatic 1059, 3)) ⟨Nat.le_refl _, Nat.le_refl _⟩) ?_
  refine lv_pop hx hb (by decide +kernel : decode prog_24_method_155_code 8 = .ok (.pop, 1)) rfl ?_
  exact W.vret hx hb hr (fun t ht _ => RQ_ok rfl ht) (fun q hq => by cases hq) (by decide +kernel : decode prog_24_method_155_code 9 = .ok (.return_, 1))
theorem str_len {i : Nat} (hi : i < 26) : lenS.getD i 0 = (strs.getD i []).length ∧ lenS.getD i 0 < 2 ^ 31 := by
  have h : (List.range 26).all (fun i => decide (lenS.getD i 0 = (strs.getD i []).length ∧ lenS.getD i 0 < 2 ^ 31)) = true := by decide +kernel
  simpa only [decide_eq_true_eq] using List.all_eq_true.mp h i (List.mem_range.mpr hi)
theorem str_byt {i j : Nat} (hi : i < 26) (hj : j < (strs.getD i []).length) : ((((bytS.getD i []).getD j 0) &&& 255).toUInt32 % 65536).toInt32 = Int32.ofInt ((strs.getD i []).getD j 0) ∧ narrow .char (.int (Int32.ofInt ((strs.getD i []).getD j 0))) = .int (Int32.ofInt ((strs.getD i []).getD j 0)) ∧ in32 ((strs.getD i []).getD j 0) := by
  have h : (List.range 26).all (fun i => (List.range ((strs.getD i []).length)).all (fun j => decide (((((bytS.getD i []).getD j 0) &&& 255).toUInt32 % 65536).toInt32 = Int32.ofInt ((strs.getD i []).getD j 0) ∧ narrow .char (.int (Int32.ofInt ((strs.getD i []).getD j 0))) = .int (Int32.ofInt ((strs.getD i []).getD j 0)) ∧ -2147483648 ≤ (strs.getD i []).getD j 0 ∧ (strs.getD i []).getD j 0 < 2147483648))) = true := by decide +kernel
  have h1 := List.all_eq_true.mp (List.all_eq_true.mp h i (List.mem_range.mpr hi)) j (List.mem_range.mpr hj)
  rw [decide_eq_true_eq] at h1
  exact h1
end STR
