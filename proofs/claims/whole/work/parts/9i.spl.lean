/-! X.spell: by its own code, with the builder's members; then the law's case of it -/
theorem nIi (n : Nat) : nI n = Int32.ofInt (n : Int) := Int32.ofInt_eq_ofNat.symm
theorem oval3 {ad : HD → Nat} {σ : ST} {t b : Nat} {k i : Int} (h : kd t b = 3) : oval ad σ t k i b = .ref (ad (chf t k i b)) := by
  unfold oval gfv
  rw [h]
  rfl
theorem oval0 {ad : HD → Nat} {σ : ST} {t b : Nat} {k i : Int} (h : kd t b = 0) : oval ad σ t k i b = .int (Int32.ofInt (σ t k i (b : Int))) := by
  unfold oval gfv
  rw [h]
  rfl
theorem oval1 {ad : HD → Nat} {σ : ST} {t b : Nat} {k i : Int} (h : kd t b = 1) : oval ad σ t k i b = .int (Int32.ofInt (bz (σ t k i (b : Int)))) := by
  unfold oval gfv
  rw [h]
  rfl
/-- the constants' texts that X.spell and X.room load -/
def xSS : List (Nat × String × Nat) := [(331, "room ", 20), (339, " page ", 21), (341, "slots ", 22), (343, "free ", 23), (156, "no such room or what", 24)]
def yNS : String := "java/util/NoSuchElementException"
def xDC : List MethodName := [⟨"java/lang/RuntimeException", "<init>", "(Ljava/lang/String;)V"⟩, ⟨"java/lang/Exception", "<init>", "(Ljava/lang/String;)V"⟩, ⟨"java/lang/Throwable", "<init>", "(Ljava/lang/String;)V"⟩]
/-- what the tables say, for both -/
def KD (DB : va_G) (dB : ClassId) (adK : Nat → Nat) (s : State) : Prop := BK DB dB s ∧ (∀ z ∈ xSS, vk_R "ClosedRooms" z.1 z.2.1 (adK z.2.2) s) ∧ va_Nw (.castable "java/util/NoSuchElementException" "java/util/NoSuchElementException") s ∧ ∀ y ∈ xDC, va_Nw (.declares y) s
theorem KD.warm {DB : va_G} {dB : ClassId} {adK : Nat → Nat} {s U : State} (hW : s.WarmedH U.vm) (h : KD DB dB adK s) : KD DB dB adK U :=
  ⟨h.1.warm hW, fun z hz => (h.2.1 z hz).warm hW, h.2.2.1.warmC hW, fun y hy => va_tabs rfl (rfl : (s.setVm U.vm).vm = U.vm) (by rw [Cond.declares_setVm hW.alike]; exact h.2.2.2 y hy)⟩
theorem KD.same {DB : va_G} {dB : ClassId} {adK : Nat → Nat} {s U : State} (hv : U.vm = s.vm) (h : KD DB dB adK s) : KD DB dB adK U :=
  ⟨h.1.same hv, fun z hz => (h.2.1 z hz).same hv, h.2.2.1.same rfl hv.symm, fun y hy => (h.2.2.2 y hy).same rfl hv.symm⟩
/-- what nobody writes, with what an exception is made of -/
def WD (b0 : Nat) (adK adV adT : Nat → Nat) (adD : Nat) (s : State) (H : Heap) : Prop := RB b0 adK adV adT adD s H ∧ vx_Zq Bundle.tN "UNASSIGNED_STACK" Bundle.steD (AG b0) s H ∧ vx_Zq Bundle.tN "SUPPRESSED_SENTINEL" Bundle.listD (AG b0) s H
theorem WD.moved {b0 : Nat} {adK adV adT : Nat → Nat} {adD : Nat} {s U : State} {H : Heap} (hv : s.vm.Alike U.vm) (h : WD b0 adK adV adT adD s H) : WD b0 adK adV adT adD U H := ⟨h.1.moved hv, h.2.1.moved hv, h.2.2.moved hv⟩
theorem WD.kept {b0 : Nat} {adK adV adT : Nat → Nat} {adD : Nat} {s : State} {H H1 : Heap} (h : WD b0 adK adV adT adD s H) (hq : ∀ (a : Nat) (c : Cell), H[a]? = some c → a < b0 → H1[a]? = some c) : WD b0 adK adV adT adD s H1 := by
  have hq' : ∀ a : Nat, a < H.size → ¬ AG b0 a → H1[a]? = H[a]? := fun a hs ha => by
    have h1 : H[a]? = some H[a] := Array.getElem?_eq_getElem hs
    rw [h1]
    exact hq a _ h1 (Nat.lt_of_not_le ha)
  exact ⟨h.1.kept hq, h.2.1.kept hq', h.2.2.kept hq'⟩
def PR0 (D : va_G) (dA : Nat → ClassId) (DB : va_G) (dB : ClassId) (b0 : Nat) (adK adV adT : Nat → Nat) (adD z : Nat) (σ : ST) (av : List Value) : Array Value → State → Prop := va_Pc av (fun U => VS D dA adK U ∧ KD DB dB adK U ∧ Rel D dA (adr b0 adK adT) VW0 σ U.heap ∧ WD b0 adK adV adT adD U U.heap ∧ Cn σ ∧ U.heap.size = z)
theorem PR0_blind {D : va_G} {dA : Nat → ClassId} {DB : va_G} {dB : ClassId} {b0 : Nat} {adK adV adT : Nat → Nat} {adD z : Nat} {σ : ST} {av : List Value} : FrameBlind (PR0 D dA DB dB b0 adK adV adT adD z σ av) := by
  intro a U g mk ⟨h1, h2, h3, h4, h5, h6, h7⟩
  exact ⟨h1, h2.same (s := U) (U := U.calling g mk a) rfl, h3.same (s := U) (U := U.calling g mk a) rfl, h4, h5.moved (s := U) (U := U.calling g mk a) (Vm.Alike.refl U.vm), h6, h7⟩
theorem PR0_at {D : va_G} {dA : Nat → ClassId} {DB : va_G} {dB : ClassId} {b0 : Nat} {adK adV adT : Nat → Nat} {adD z : Nat} {σ : ST} {av : List Value} {s : State} {H : Heap} (hS : VS D dA adK s) (hK : KD DB dB adK s) (hR : Rel D dA (adr b0 adK adT) VW0 σ H) (hW : WD b0 adK adV adT adD s H) (hC : Cn σ) (hz : H.size = z) (U : State) (hU : U.heap = H) (hw : s.WarmedH U.vm) : PR0 D dA DB dB b0 adK adV adT adD z σ av av.toArray U :=
  ⟨rfl, hS.warm hw, hK.warm hw, by rw [hU]; exact hR, by rw [hU]; exact hW.moved hw.alike, hC, by rw [hU]; exact hz⟩
/-- old cells apart from both objects stay -/
def FR (b0 : Nat) (H H1 : Heap) : Prop := ∀ (q : Nat) (c : Cell), H[q]? = some c → ¬ A0 b0 q → H1[q]? = some c
theorem FR.refl {b0 : Nat} {H : Heap} : FR b0 H H := fun _ _ h _ => h
theorem FR.trans {b0 : Nat} {H H1 H2 : Heap} (h : FR b0 H H1) (h2 : FR b0 H1 H2) : FR b0 H H2 := fun q c hq hn => h2 q c (h q c hq hn) hn
theorem FR.WD {b0 : Nat} {H H1 : Heap} {adK adV adT : Nat → Nat} {adD : Nat} {s : State} (h : FR b0 H H1) (hw : WD b0 adK adV adT adD s H) : WD b0 adK adV adT adD s H1 := hw.kept fun a c hc ha => h a c hc (fun z => absurd z.1 (by omega))
theorem FR.ge {b0 : Nat} {H H1 : Heap} (h : FR b0 H H1) (hb : b0 + 2762 ≤ H.size) : H.size ≤ H1.size := by
  have h1 : H[H.size - 1]? = some (H[H.size - 1]'(by omega)) := Array.getElem?_eq_getElem _
  have h2 := h _ _ h1 (fun z => by have := z.2; omega)
  have h3 := (Array.getElem?_eq_some_iff.mp h2).1
  omega
/-- cells behind the objects were made or written: they hold what they held -/
theorem Rel_new {D : va_G} {dA : Nat → ClassId} {b0 : Nat} {adK adT : Nat → Nat} {σ : ST} {H H1 : Heap} (h : Rel D dA (adr b0 adK adT) VW0 σ H) (hq : ∀ q : Nat, q < b0 + 2761 → H1[q]? = H[q]?) : Rel D dA (adr b0 adK adT) VW0 σ H1 := by
  intro t k i hV
  refine (h t k i hV).kept (hq _ ?_) (fun _ => rfl)
  exact ((EV0 b0 adK adT).2.1 _ hV).2
section XR
variable {D : va_G} {dA : Nat → ClassId} {DB : va_G} {dB : ClassId} {b0 : Nat} {adK adV adT : Nat → Nat} {adD z bd v n : Nat} {f : Nat → Int32} {σ : ST}
variable {p : Program} {l : Launch} {e : Env} {R : Room} {s : State} {m : MethodId} {args : Array Value} {below : List Frame} {meth : Method} {c : Code} {H : Heap} {locs : List Loc} {cells slots : Nat} {Q : State → Prop}
variable {cc : ByteArray} {pc : Nat} {ls : Array Slot} {rest : List Value}
theorem x_getR {ix t b : Nat} {k i : Int} {h' : HD} (hx : p.tables.exec = Jvm.exec) (hb : c.code = cc) (hts : ∀ w ∈ TB, w.before args s = true) (hown : s.vm.findClass "ClosedRooms" = some m.cls) (hS : VS D dA adK s) (hR : Rel D dA (adr b0 adK adT) VW0 σ H) (hV : VW0 (t, k, i)) (hc : cof t < 11) (hbn : b < nfd t) (hk : kd t b = 3) (he : chf t k i b = h')
    (hl : (Cond.fieldLink "ClosedRooms" ix (cRn (cof t)) (cFd (cof t) b).2.1 (cFd (cof t) b).2.2.1).before args s = true) (hdg : decode cc pc = .ok (.getfield ix, 3))
    (kk : W p l e R s m args below meth c H locs cells slots Q (F0 m (pc + 3) ls (.ref (adr b0 adK adT h') :: rest))) : W p l e R s m args below meth c H locs cells slots Q (F0 m pc ls (.ref (adr b0 adK adT (t, k, i)) :: rest)) := by
  refine r_get (own := "ClosedRooms") hx hb hts hown hS hR hV hc hbn hl hdg ?_
  rw [oval3 hk, he]
  exact kk
theorem x_getI {ix t b : Nat} {k i : Int} (hx : p.tables.exec = Jvm.exec) (hb : c.code = cc) (hts : ∀ w ∈ TB, w.before args s = true) (hown : s.vm.findClass "ClosedRooms" = some m.cls) (hS : VS D dA adK s) (hR : Rel D dA (adr b0 adK adT) VW0 σ H) (hV : VW0 (t, k, i)) (hc : cof t < 11) (hbn : b < nfd t) (hk : kd t b = 0)
    (hl : (Cond.fieldLink "ClosedRooms" ix (cRn (cof t)) (cFd (cof t) b).2.1 (cFd (cof t) b).2.2.1).before args s = true) (hdg : decode cc pc = .ok (.getfield ix, 3))
    (kk : W p l e R s m args below meth c H locs cells slots Q (F0 m (pc + 3) ls (.int (Int32.ofInt (σ t k i (b : Int))) :: rest))) : W p l e R s m args below meth c H locs cells slots Q (F0 m pc ls (.ref (adr b0 adK adT (t, k, i)) :: rest)) := by
  refine r_get (own := "ClosedRooms") hx hb hts hown hS hR hV hc hbn hl hdg ?_
  rw [oval0 hk]
  exact kk
theorem x_getZ {ix t b : Nat} {k i : Int} (hx : p.tables.exec = Jvm.exec) (hb : c.code = cc) (hts : ∀ w ∈ TB, w.before args s = true) (hown : s.vm.findClass "ClosedRooms" = some m.cls) (hS : VS D dA adK s) (hR : Rel D dA (adr b0 adK adT) VW0 σ H) (hV : VW0 (t, k, i)) (hc : cof t < 11) (hbn : b < nfd t) (hk : kd t b = 1)
    (hl : (Cond.fieldLink "ClosedRooms" ix (cRn (cof t)) (cFd (cof t) b).2.1 (cFd (cof t) b).2.2.1).before args s = true) (hdg : decode cc pc = .ok (.getfield ix, 3))
    (kk : W p l e R s m args below meth c H locs cells slots Q (F0 m (pc + 3) ls (.int (Int32.ofInt (bz (σ t k i (b : Int)))) :: rest))) : W p l e R s m args below meth c H locs cells slots Q (F0 m pc ls (.ref (adr b0 adK adT (t, k, i)) :: rest)) := by
  refine r_get (own := "ClosedRooms") hx hb hts hown hS hR hV hc hbn hl hdg ?_
  rw [oval1 hk]
  exact kk
/-- what holds while the text is built -/
def SJ (D : va_G) (dA : Nat → ClassId) (DB : va_G) (dB : ClassId) (b0 : Nat) (adK adV adT : Nat → Nat) (adD bd v : Nat) (σ : ST) (s : State) (H : Heap) (locs : List Loc) (n : Nat) (f : Nat → Int32) : Prop :=
  Rel D dA (adr b0 adK adT) VW0 σ H ∧ WD b0 adK adV adT adD s H ∧ BW DB dB bd v n f H ∧ FR b0 s.heap H ∧ ∀ q ∈ locs, A0 b0 q.base ∨ s.heap.size ≤ q.base
theorem s_call {n' : Nat} {f' : Nat → Int32} {r : Option Value} {a0 : Array Value} {st0 : List Value} (hbd : b0 + 2762 ≤ s.heap.size) (h1 : s.heap.size ≤ bd) (h2 : s.heap.size ≤ v) (hr : va_Run p l e R s m args below meth c H locs cells slots 0 0 (F0 m pc ls st0) rest (QB DB dB bd v n' f' r a0) (FB bd v)) (hJ : SJ D dA DB dB b0 adK adV adT adD bd v σ s H locs n f)
    (kk : ∀ (H1 : Heap) (locs1 : List Loc), SJ D dA DB dB b0 adK adV adT adD bd v σ s H1 locs1 n' f' → W p l e R s m args below meth c H1 locs1 cells slots Q (F0 m (pc + 3) ls (r.toList ++ rest))) : W p l e R s m args below meth c H locs cells slots Q (F0 m pc ls st0) := by
  intro T hT X
  obtain ⟨v', st₀, t, T', L, h0, X', hL, e1, e2, ⟨hv, hB, hfr⟩, st⟩ := hr T hT X
  have hv' : v' = r := by injection hv
  subst hv'
  obtain ⟨j1, j2, j3, j4, j5⟩ := hJ
  have hsz := j4.ge hbd
  have hfr' : ∀ (q : Nat) (c : Cell), H[q]? = some c → q ≠ bd → q ≠ v → T'.heap[q]? = some c := fun q c hc q1 q2 => by rw [e1]; exact hfr q c (by rw [h0]; exact hc) q1 q2
  have hlo : ∀ q : Nat, q < b0 + 2762 → T'.heap[q]? = H[q]? := fun q hq => by
    have h3 : H[q]? = some (H[q]'(by omega)) := Array.getElem?_eq_getElem _
    rw [h3]
    exact hfr' q _ h3 (by omega) (by omega)
  obtain ⟨t2, a1, b1⟩ := kk T'.heap (locs ++ L) ⟨Rel_new j1 fun q hq => hlo q (by omega), j2.kept fun a c hc ha => hfr' a c hc (by omega) (by omega), by rw [e1]; exact hB, fun q c hc hn => by
    have h3 := (Array.getElem?_eq_some_iff.mp hc).1
    exact hfr' q c (j4 q c hc hn) (by omega) (by omega), fun q hq => (List.mem_append.mp hq).elim (j5 q) (fun h => Or.inr (by rcases hL q h with h | h <;> rw [h] <;> assumption))⟩ T' rfl X'
  exact ⟨t2, st t2 a1, b1⟩
def QXS (D : va_G) (dA : Nat → ClassId) (b0 : Nat) (adK adV adT : Nat → Nat) (σ : ST) (x : Int) : Array Value → State → Outcome → State → Prop := fun _ st o t => o = .returned (some (.int (Int32.ofInt x))) ∧ Rel D dA (adr b0 adK adT) VW0 σ t.heap ∧ FR b0 st.heap t.heap
theorem ch_ok {x : Int} (h0 : 0 ≤ x) (h1 : x < 128) : ((Int32.ofInt x &&& 255).toUInt32 % 65536).toInt32 = Int32.ofInt x ∧ narrow .char (.int (Int32.ofInt x)) = .int (Int32.ofInt x) := by
  have h : (List.range 128).all (fun x => decide (((Int32.ofInt (x : Int) &&& 255).toUInt32 % 65536).toInt32 = Int32.ofInt (x : Int) ∧ narrow .char (.int (Int32.ofInt (x : Int))) = .int (Int32.ofInt (x : Int)))) = true := by decide +kernel
  obtain ⟨k, rfl⟩ := Int.eq_ofNat_of_zero_le h0
  exact of_decide_eq_true (List.all_eq_true.mp h k (List.mem_range.mpr (by omega)))
def yX_spell : MethodName := ⟨"ClosedRooms", "spell", "(II)I"⟩
theorem sp_tail {w aa pg : Nat} {i x : Int} {L : List Int} (hx : p.tables.exec = Jvm.exec) (hb : c.code = prog_1_method_55_code) (hml : c.maxLocals = 5) (hown : s.vm.findClass "ClosedRooms" = some m.cls) (hts : ∀ w ∈ TB, w.before args s = true) (hr : meth.sig.returnType = some .int) (hlocks : meth.locks = false) (hK : KD DB dB adK s) (hz2 : b0 + 2762 ≤ s.heap.size) (hb1 : s.heap.size ≤ bd) (hb2 : s.heap.size ≤ v) (hJ : SJ D dA DB dB b0 adK adV adT adD bd v σ s H locs n f) (hw : w < 10) (hn : n + 1 ≤ 16) (hL : L.length = n + 1) (hc : ∀ j, j < n + 1 → 0 ≤ L.getD j 0 ∧ L.getD j 0 < 128) (hf : ∀ j, j < n → f j = Int32.ofInt (L.getD j 0)) (hlast : L.getD n 0 = 48 + (w : Int)) (hi : -1 ≤ i) (hi32 : in32 i) (hxe : x = if i = -1 then (L.length : Int) else if i < (L.length : Int) then L.getD i.toNat 0 else -1)
    (hl : lv_has ls 5 [(4, .ref bd), (3, .ref pg), (0, .ref aa), (1, .int (nI w)), (2, .int (Int32.ofInt i))]) : W p l e (rmB 5 200 2 20) s m args below meth c H locs 2 20 (MQ below (QXS D dA b0 adK adV adT σ x) args s 2 20 (fun q => A0 b0 q ∨ s.heap.size ≤ q)) (F0 m 92 ls []) := by
  have hbd : b0 ≤ bd := by omega
  have hvb : b0 ≤ v := by omega
  refine lv_aload hx hb (by decide +kernel : decode prog_1_method_55_code 92 = .ok (.aload 4, 2)) (lv_at hl 0 rfl) ?_
  refine lv_iload_n hx hb (by decide +kernel : decode prog_1_method_55_code 94 = .ok (.iload_n 1, 1)) rfl (lv_at hl 3 rfl) ?_
  refine s_call hz2 hb1 hb2 (va_runV (own := "ClosedRooms") (C := "java/lang/StringBuilder") (index := 336) (y := yB_api) (As := [.int (nI w)]) (rest := []) ⟨hx, hb, hml, hown, hts⟩ (m_B_api l hbd hvb hw hn) ⟨callB_of 1 hts (gw_code (tb_at (h := 6071) (by decide +kernel))) rfl rfl rfl (hts _ (tb_at (h := 1023) (by decide +kernel))) (hts _ (tb_at (h := 6068) (by decide +kernel))) (by decide +kernel) ⟨Nat.le_of_ble_eq_true rfl, Nat.le_of_ble_eq_true rfl⟩, hts _ (tb_at (h := 6069) (by decide +kernel)), hts _ (tb_at (h := 6070) (by decide +kernel))⟩ ⟨PB_blind, b_recv hK.1 hJ.2.2.1, fun U hU hW => PB_at hK.1 hJ.2.2.1 hJ.2.1.1 U hU hW⟩ rfl rfl hl.1 rfl (lv_room (Nat.le_of_ble_eq_true rfl)) (by decide +kernel : decode prog_1_method_55_code 95 = .ok (.invokevirtual 336, 3)) ⟨Nat.le_refl _, Nat.le_refl _⟩) hJ fun H1 locs1 hJ => ?_
  refine lv_pop hx hb (by decide +kernel : decode prog_1_method_55_code 98 = .ok (.pop, 1)) rfl ?_
  have hf2 : ∀ j, j < n + 1 → (if j = n then nI (48 + w) else f j) = Int32.ofInt (L.getD j 0) := fun j hj => by
    by_cases e : j = n
    · rw [if_pos e, e, hlast, nIi]
      rfl
    · rw [if_neg e]
      exact hf j (by omega)
  refine lv_iload_n hx hb (by decide +kernel : decode prog_1_method_55_code 99 = .ok (.iload_n 2, 1)) rfl (lv_at hl 4 rfl) ?_
  refine lv_iconst (v := (-1)) hx hb (by decide +kernel : decode prog_1_method_55_code 100 = .ok (.iconst (-1), 1)) (by decide) ?_
  refine lv_icmp_ne (tgt := 110) hx hb (by decide +kernel : decode prog_1_method_55_code 101 = .ok (.if_icmp .ne 9, 3)) (by first | decide | rfl) (fun h => ?_) (fun h => ?_)
  rotate_left
  · have hi1 : i = -1 := (n_eq hi32 ⟨by decide, by decide⟩).mp h
    refine lv_aload hx hb (by decide +kernel : decode prog_1_method_55_code 104 = .ok (.aload 4, 2)) (lv_at hl 0 rfl) ?_
    refine s_call hz2 hb1 hb2 (va_runV (own := "ClosedRooms") (C := "java/lang/StringBuilder") (index := 345) (y := yB_len) (As := []) (rest := []) ⟨hx, hb, hml, hown, hts⟩ (m_B_len l hbd hvb) ⟨callB_of 0 hts (gw_code (tb_at (h := 6099) (by decide +kernel))) rfl rfl rfl (hts _ (tb_at (h := 1023) (by decide +kernel))) (hts _ (tb_at (h := 6096) (by decide +kernel))) (by decide +kernel) ⟨Nat.le_of_ble_eq_true rfl, Nat.le_of_ble_eq_true rfl⟩, hts _ (tb_at (h := 6097) (by decide +kernel)), hts _ (tb_at (h := 6098) (by decide +kernel))⟩ ⟨PB_blind, b_recv hK.1 hJ.2.2.1, fun U hU hW => PB_at hK.1 hJ.2.2.1 hJ.2.1.1 U hU hW⟩ rfl rfl hl.1 rfl (lv_room (Nat.le_of_ble_eq_true rfl)) (by decide +kernel : decode prog_1_method_55_code 106 = .ok (.invokevirtual 345, 3)) ⟨Nat.le_refl _, Nat.le_refl _⟩) hJ fun H1 locs1 hJ => ?_
    exact W.iret hx hb hr (fun t ht _ => ⟨by rw [hxe, if_pos hi1, hL, ← nIi], by rw [ht]; exact hJ.1, by rw [ht]; exact hJ.2.2.2.1⟩) hJ.2.2.2.2 (by decide +kernel : decode prog_1_method_55_code 109 = .ok (.ireturn, 1))
  have hi1 : i ≠ -1 := fun q => h (by rw [q]; rfl)
  refine lv_iload_n hx hb (by decide +kernel : decode prog_1_method_55_code 110 = .ok (.iload_n 2, 1)) rfl (lv_at hl 4 rfl) ?_
  refine lv_aload hx hb (by decide +kernel : decode prog_1_method_55_code 111 = .ok (.aload 4, 2)) (lv_at hl 0 rfl) ?_
  refine s_call hz2 hb1 hb2 (va_runV (own := "ClosedRooms") (C := "java/lang/StringBuilder") (index := 345) (y := yB_len) (As := []) (rest := [.int (Int32.ofInt i)]) ⟨hx, hb, hml, hown, hts⟩ (m_B_len l hbd hvb) ⟨callB_of 0 hts (gw_code (tb_at (h := 6099) (by decide +kernel))) rfl rfl rfl (hts _ (tb_at (h := 1023) (by decide +kernel))) (hts _ (tb_at (h := 6096) (by decide +kernel))) (by decide +kernel) ⟨Nat.le_of_ble_eq_true rfl, Nat.le_of_ble_eq_true rfl⟩, hts _ (tb_at (h := 6097) (by decide +kernel)), hts _ (tb_at (h := 6098) (by decide +kernel))⟩ ⟨PB_blind, b_recv hK.1 hJ.2.2.1, fun U hU hW => PB_at hK.1 hJ.2.2.1 hJ.2.1.1 U hU hW⟩ rfl rfl hl.1 rfl (lv_room (Nat.le_of_ble_eq_true rfl)) (by decide +kernel : decode prog_1_method_55_code 113 = .ok (.invokevirtual 345, 3)) ⟨Nat.le_refl _, Nat.le_refl _⟩) hJ fun H1 locs1 hJ => ?_
  obtain ⟨j, hj⟩ := Int.eq_ofNat_of_zero_le (by omega : 0 ≤ i)
  subst hj
  refine lv_icmp_ge (tgt := 128) hx hb (by decide +kernel : decode prog_1_method_55_code 116 = .ok (.if_icmp .ge 12, 3)) (by first | decide | rfl) (fun h => ?_) (fun h => ?_)
  · rw [nIi, n_le ⟨by omega, by omega⟩ hi32] at h
    refine lv_iconst (v := (-1)) hx hb (by decide +kernel : decode prog_1_method_55_code 128 = .ok (.iconst (-1), 1)) (by decide) ?_
    exact W.iret hx hb hr (fun t ht _ => ⟨by rw [hxe, if_neg hi1, if_neg (by rw [hL]; omega)]; rfl, by rw [ht]; exact hJ.1, by rw [ht]; exact hJ.2.2.2.1⟩) hJ.2.2.2.2 (by decide +kernel : decode prog_1_method_55_code 129 = .ok (.ireturn, 1))
  · rw [nIi, n_le ⟨by omega, by omega⟩ hi32] at h
    have hjn : j < n + 1 := by omega
    have hch := ch_ok (hc j hjn).1 (hc j hjn).2
    refine lv_aload hx hb (by decide +kernel : decode prog_1_method_55_code 119 = .ok (.aload 4, 2)) (lv_at hl 0 rfl) ?_
    refine lv_iload_n hx hb (by decide +kernel : decode prog_1_method_55_code 121 = .ok (.iload_n 2, 1)) rfl (lv_at hl 4 rfl) ?_
    rw [← nIi]
    refine s_call hz2 hb1 hb2 (va_runV (own := "ClosedRooms") (C := "java/lang/StringBuilder") (index := 347) (y := yB_chr) (As := [.int (nI j)]) (rest := []) ⟨hx, hb, hml, hown, hts⟩ (m_B_chr l hbd hvb (x := Int32.ofInt (L.getD j 0)) hjn hn (by rw [hf2 j hjn]; exact hch.1) hch.2) ⟨callB_of 1 hts (gw_code (tb_at (h := 6106) (by decide +kernel))) rfl rfl rfl (hts _ (tb_at (h := 1023) (by decide +kernel))) (hts _ (tb_at (h := 6103) (by decide +kernel))) (by decide +kernel) ⟨Nat.le_of_ble_eq_true rfl, Nat.le_of_ble_eq_true rfl⟩, hts _ (tb_at (h := 6104) (by decide +kernel)), hts _ (tb_at (h := 6105) (by decide +kernel))⟩ ⟨PB_blind, b_recv hK.1 hJ.2.2.1, fun U hU hW => PB_at hK.1 hJ.2.2.1 hJ.2.1.1 U hU hW⟩ rfl rfl hl.1 rfl (lv_room (Nat.le_of_ble_eq_true rfl)) (by decide +kernel : decode prog_1_method_55_code 122 = .ok (.invokevirtual 347, 3)) ⟨Nat.le_refl _, Nat.le_refl _⟩) hJ fun H1 locs1 hJ => ?_
    refine lv_goto (tgt := 129) hx hb (by decide +kernel : decode prog_1_method_55_code 125 = .ok (.goto 4, 3)) (by first | decide | rfl) ?_
    exact W.iret hx hb hr (fun t ht _ => ⟨by rw [hxe, if_neg hi1, if_pos (by rw [hL]; omega)]; rfl, by rw [ht]; exact hJ.1, by rw [ht]; exact hJ.2.2.2.1⟩) hJ.2.2.2.2 (by decide +kernel : decode prog_1_method_55_code 129 = .ok (.ireturn, 1))
theorem m_X_spell (l : Launch) {P : MP} {g : Int → Int} {nn p i : Int} (hI : IVg σ P g nn) (hp32 : in32 p) (hi32 : in32 i) (hz0 : b0 + 2762 ≤ z) : Met l yX_spell (Cond.code yX_spell prog_1_method_55_code 5 (some .int) :: TB) (rmB 5 200 2 20) (PR0 D dA DB dB b0 adK adV adT adD z σ [.ref (adr b0 adK adT (0, 0, 0)), .int (Int32.ofInt p), .int (Int32.ofInt i)]) (QXS D dA b0 adK adV adT σ (v_spell p i σ P g)) 2 20 (fun q => A0 b0 q ∨ z ≤ q) := by
  refine va_MetF (cc := prog_1_method_55_code) (maxL := 5) (ret := (some .int)) (by decide) rfl ?_
  intro p' e s m args below meth c s₁ B hml hv0
  obtain ⟨rfl, hS, hK, hR, hWD, hC, hsz⟩ := hv0
  subst hsz
  have hz2 : b0 + 2762 ≤ s.heap.size := hz0
  have hx := B.exec
  have hb := B.bytes
  have hr := B.returns
  have hlocks := B.notSynchronized
  have hts0 := atoms_spec (ws := Cond.code yX_spell prog_1_method_55_code 5 (some .int) :: TB) B.pre
  have hts : ∀ w ∈ TB, w.before [.ref (adr b0 adK adT (0, 0, 0)), .int (Int32.ofInt p), .int (Int32.ofInt i)].toArray s = true := fun w hw => hts0 w (List.mem_cons_of_mem _ hw)
  have hown : s.vm.findClass "ClosedRooms" = some m.cls := findClass_of_methodNamed B.named
  have hl := lv_entry [.ref (adr b0 adK adT (0, 0, 0)), .int (Int32.ofInt p), .int (Int32.ofInt i)] (n := 5) (Nat.le_of_ble_eq_true rfl)
  rw [lg_entry_eq]
  generalize (lg_sl [.ref (adr b0 adK adT (0, 0, 0)), .int (Int32.ofInt p), .int (Int32.ofInt i)] ++ List.replicate (5 - (lg_sl [.ref (adr b0 adK adT (0, 0, 0)), .int (Int32.ofInt p), .int (Int32.ofInt i)]).length) Slot.unset).toArray = ls at hl ⊢
  have hl : lv_has ls 5 [(0, .ref (adr b0 adK adT (0, 0, 0))), (1, .int (Int32.ofInt p)), (2, .int (Int32.ofInt i))] := hl
  have hno : ∀ (H1 : Heap) (locs1 : List Loc) (cells slots : Nat), cells ≤ 2 → slots ≤ 20 → v_spell p i σ P g = -1 → Rel D dA (adr b0 adK adT) VW0 σ H1 → FR b0 s.heap H1 → (∀ q ∈ locs1, A0 b0 q.base) → W p' l e (rmB 5 200 2 20) s m [.ref (adr b0 adK adT (0, 0, 0)), .int (Int32.ofInt p), .int (Int32.ofInt i)].toArray below meth c H1 locs1 cells slots (MQ below (QXS D dA b0 adK adV adT σ (v_spell p i σ P g)) [.ref (adr b0 adK adT (0, 0, 0)), .int (Int32.ofInt p), .int (Int32.ofInt i)].toArray s 2 20 (fun q => A0 b0 q ∨ s.heap.size ≤ q)) (F0 m 16 ls []) := by
    intro H1 locs1 cells slots hc hs he h1 h2 h3
    refine W.widen hc hs ?_
    refine lv_iconst (v := -1) hx hb (by decide +kernel : decode prog_1_method_55_code 16 = .ok (.iconst (-1), 1)) (by decide) ?_
    exact W.iret hx hb hr (fun t ht _ => ⟨by rw [he]; rfl, by rw [ht]; exact h1, by rw [ht]; exact h2⟩) (fun q hq => Or.inl (h3 q hq)) (by decide +kernel : decode prog_1_method_55_code 17 = .ok (.ireturn, 1))
  refine lv_aload_n hx hb (by decide +kernel : decode prog_1_method_55_code 0 = .ok (.aload_n 0, 1)) rfl (lv_at hl 0 rfl) ?_
  refine x_getR (ix := 45) (t := 0) (b := 6) (k := 0) (i := 0) (h' := (12, 0, 0)) hx hb hts hown hS hR vw_X (by decide) (by decide) (by decide) rfl (hts _ (tb_at (h := 2161) (by decide +kernel))) (by decide +kernel : decode prog_1_method_55_code 1 = .ok (.getfield 45, 3)) ?_
  refine lv_iload_n hx hb (by decide +kernel : decode prog_1_method_55_code 4 = .ok (.iload_n 1, 1)) rfl (lv_at hl 1 rfl) ?_
  have hO := RB_RO hWD.1
  refine x_call (own := "ClosedRooms") (F := 5) (Lo := 200) (a := m_World_isPage) (ix := 112) (h := 3166) (n := 1) (cl := 4) (t := 12) (k := 0) (i := 0) (ar := [.inl p]) (rest := []) (adV := adV) hx hb hml hown hts hS hR hO hC (by exact ⟨by decide, by decide⟩ : VW0 (12, 0, 0)) rfl (by decide) (by decide +kernel) rfl rfl (fun w hw => by rw [List.mem_singleton.mp hw]; exact hp32) (P_W_isPage hI.x.1 p (fun r s' => r = some (.inl (b2 (isPg P p))) ∧ s' = σ) ⟨rfl, rfl⟩) ⟨Nat.le_refl _, Nat.le_refl _⟩ (Nat.le_of_ble_eq_true rfl) hl.1 ⟨by decide, by decide⟩ (by decide +kernel : decode prog_1_method_55_code 5 = .ok (.invokevirtual 112, 3)) fun r σ' H1 L hq hR1 hO1 hC1 ho hfr hL1 => ?_
  obtain ⟨rfl, hσ⟩ := hq
  obtain rfl := hσ.symm
  have hfr1 : FR b0 s.heap H1 := hfr
  show W p' l e (rmB 5 200 2 20) s m [.ref (adr b0 adK adT (0, 0, 0)), .int (Int32.ofInt p), .int (Int32.ofInt i)].toArray below meth c H1 L 0 0 _ (F0 m 8 ls [.int (Int32.ofInt (b2 (isPg P p)))])
  by_cases hpg : isPg P p
  rotate_left
  · refine lv_if_eq (tgt := 16) hx hb (by decide +kernel : decode prog_1_method_55_code 8 = .ok (.ifCond .eq 8, 3)) (by first | decide | rfl) (fun h => ?_) (fun h => ?_)
    · exact hno H1 L 0 0 (by decide) (by decide) (by unfold v_spell; rw [if_pos (fun q => hpg q.1)]) hR1 hfr1 hL1
    · exact absurd (by rw [← b2_l hpg]; rfl) h
  refine lv_if_eq (tgt := 16) hx hb (by decide +kernel : decode prog_1_method_55_code 8 = .ok (.ifCond .eq 8, 3)) (by first | decide | rfl) (fun h => absurd h (by rw [← b2_h hpg]; decide)) (fun h => ?_)
  refine lv_iload_n hx hb (by decide +kernel : decode prog_1_method_55_code 11 = .ok (.iload_n 2, 1)) rfl (lv_at hl 2 rfl) ?_
  refine lv_iconst (v := (-1)) hx hb (by decide +kernel : decode prog_1_method_55_code 12 = .ok (.iconst (-1), 1)) (by decide) ?_
  refine lv_icmp_ge (tgt := 18) hx hb (by decide +kernel : decode prog_1_method_55_code 13 = .ok (.if_icmp .ge 5, 3)) (by first | decide | rfl) (fun h => ?_) (fun h => ?_)
  rotate_left
  · have hi1 : i < -1 := by
      have h2 : ¬ (Int32.ofInt (-1) ≤ Int32.ofInt i) := h
      rw [n_le ⟨by decide, by decide⟩ hi32] at h2
      omega
    exact hno H1 L 0 0 (by decide) (by decide) (by unfold v_spell; rw [if_pos (fun q => by omega)]) hR1 hfr1 hL1
  have hi1 : -1 ≤ i := by
    have h2 : Int32.ofInt (-1) ≤ Int32.ofInt i := h
    rwa [n_le ⟨by decide, by decide⟩ hi32] at h2
  have np := hI.z.ok.p1
  have hp0 := hpg.1
  have hp9 : p < 10 := by have := hpg.2; omega
  refine lv_aload_n hx hb (by decide +kernel : decode prog_1_method_55_code 18 = .ok (.aload_n 0, 1)) rfl (lv_at hl 0 rfl) ?_
  refine x_getR (ix := 45) (t := 0) (b := 6) (k := 0) (i := 0) (h' := (12, 0, 0)) hx hb hts hown hS hR1 vw_X (by decide) (by decide) (by decide) rfl (hts _ (tb_at (h := 2161) (by decide +kernel))) (by decide +kernel : decode prog_1_method_55_code 19 = .ok (.getfield 45, 3)) ?_
  refine x_getR (ix := 117) (t := 12) (b := 5) (k := 0) (i := 0) (h' := (13, 0, 0)) hx hb hts hown hS hR1 (by exact ⟨by decide, by decide⟩ : VW0 (12, 0, 0)) (by decide) (by decide) (by decide) rfl (hts _ (tb_at (h := 2109) (by decide +kernel))) (by decide +kernel : decode prog_1_method_55_code 22 = .ok (.getfield 117, 3)) ?_
  refine lv_iload_n hx hb (by decide +kernel : decode prog_1_method_55_code 25 = .ok (.iload_n 1, 1)) rfl (lv_at hl 1 rfl) ?_
  refine r_aald (t := 13) (k := 0) (i := 0) (j := p) hx hb hS hR1 (by exact ⟨by decide, by decide⟩) rfl hp0 hp9 (by decide +kernel : decode prog_1_method_55_code 26 = .ok (.aaload, 1)) ?_
  refine lv_astore_n hx hb (by decide +kernel : decode prog_1_method_55_code 27 = .ok (.astore_n 3, 1)) rfl hl (by omega) rfl fun ls hl => ?_
  replace hl : lv_has ls 5 [(3, .ref (adr b0 adK adT (14, 0, p))), (0, .ref (adr b0 adK adT (0, 0, 0))), (1, .int (Int32.ofInt p)), (2, .int (Int32.ofInt i))] := hl
  have hVp : VW0 (14, 0, p) := (EV0 b0 adK adT).2.2.2.1 13 0 0 p ⟨by decide, by decide⟩ rfl hp0 hp9
  refine W.newcK (n := 4) hx hb hown (hts _ (tb_at (h := 5179) (by decide +kernel))) (hts _ (tb_at (h := 5180) (by decide +kernel))) (hts _ (tb_at (h := 1023) (by decide +kernel))) rfl (by decide +kernel : decode prog_1_method_55_code 28 = .ok (.new 328, 3)) (by decide) (by decide) hK.1.1.2.1 rfl fun H2 kC hkC e1 z1 o1 => ?_
  have hat : va_at DB crB (H1.size, .inr (0, [.null, .int 0, .int 0, .int 0])) H2 := ⟨_, rfl, (u_born tB hts fB_in hK.1.1 hkC e1 fB_ty).to fun j hj => by
    rcases (by omega : j = 0 ∨ j = 1 ∨ j = 2 ∨ j = 3) with rfl | rfl | rfl | rfl <;> rfl⟩
  have hge := hfr1.ge hz2
  have hfr2 : FR b0 s.heap H2 := fun q c hc hn => (o1 q (Array.getElem?_eq_some_iff.mp (hfr1 q c hc hn)).1).trans (hfr1 q c hc hn)
  refine lv_dup hx hb (by decide +kernel : decode prog_1_method_55_code 31 = .ok (.dup, 1)) rfl ?_
  refine i_call (bd := H1.size) (z := H1.size + 1) (va_runI (own := "ClosedRooms") (index := 330) (y := yB_init) (b := H1.size) (As := []) (rest := [.ref H1.size]) ⟨hx, hb, hml, hown, hts⟩ (m_B_init l (by omega) (Nat.lt_succ_self _)) ⟨callB_of 0 hts (gw_code (tb_at (h := 5183) (by decide +kernel))) rfl rfl rfl (hts _ (tb_at (h := 1023) (by decide +kernel))) (hts _ (tb_at (h := 5181) (by decide +kernel))) (by decide +kernel) ⟨Nat.le_of_ble_eq_true rfl, Nat.le_of_ble_eq_true rfl⟩, rfl, hts _ (tb_at (h := 5182) (by decide +kernel))⟩ ⟨PI_blind, fun U hU hW => PI_at hK.1 hat (hfr2.WD hWD).1 z1 U hU hW⟩ rfl rfl hl.1 rfl (lv_room (Nat.le_of_ble_eq_true rfl)) (by decide +kernel : decode prog_1_method_55_code 32 = .ok (.invokespecial 330, 3)) ⟨by decide, by decide⟩) fun H3 locs3 y1 y2 y3 => ?_
  have hfr3 : FR b0 s.heap H3 := fun q c hc hn => y2 q c (hfr2 q c hc hn) (by have := (Array.getElem?_eq_some_iff.mp hc).1; omega)
  have hJ : SJ D dA DB dB b0 adK adV adT adD H1.size (H1.size + 1) σ s H3 locs3 0 (fun _ => 0) := by
    refine ⟨Rel_new hR1 fun q hq => ?_, hfr3.WD hWD, y1, hfr3, fun q hq => ?_⟩
    · have h2 : H2[q]? = H1[q]? := o1 q (by omega)
      have h3 : H2[q]? = some (H2[q]'(by omega)) := Array.getElem?_eq_getElem _
      rw [y2 q _ h3 (by omega), ← h3, h2]
    · rcases y3 q hq with h | h | h
      · exact Or.inl (hL1 q h)
      · exact Or.inr (by rw [h]; exact hge)
      · exact Or.inr (by omega)
  have hb1 : s.heap.size ≤ H1.size := hge
  have hb2 : s.heap.size ≤ H1.size + 1 := by omega
  generalize H1.size = bd at hJ hb1 hb2 ⊢
  generalize hvv : bd + 1 = v at hJ hb2
  clear hat e1 z1 o1 hfr2 y1 y2 y3 hfr3 hge
  refine lv_astore hx hb (by decide +kernel : decode prog_1_method_55_code 35 = .ok (.astore 4, 2)) hl (by omega) rfl fun ls hl => ?_
  replace hl : lv_has ls 5 [(4, .ref bd), (3, .ref (adr b0 adK adT (14, 0, p))), (0, .ref (adr b0 adK adT (0, 0, 0))), (1, .int (Int32.ofInt p)), (2, .int (Int32.ofInt i))] := hl
  refine lv_aload_n hx hb (by decide +kernel : decode prog_1_method_55_code 37 = .ok (.aload_n 3, 1)) rfl (lv_at hl 1 rfl) ?_
  have hRP := hI.x.1.pg p hpg.1 hpg.2
  refine x_call (own := "ClosedRooms") (F := 5) (Lo := 200) (a := m_Page_hasRoom) (ix := 126) (h := 3171) (n := 0) (cl := 6) (t := 14) (k := 0) (i := p) (ar := []) (rest := []) (adV := adV) hx hb hml hown hts hS hJ.1 (RB_RO hJ.2.1.1) hC hVp rfl (by decide) (by decide +kernel) rfl rfl (fun w hw => by cases hw) (P_P_hasRoom hRP (fun r s' => r = some (.inl (b2 (pg g p 0 = 1 ∨ pg g p 0 = 2 ∨ pg g p 0 = 3))) ∧ s' = σ) ⟨rfl, rfl⟩) ⟨Nat.le_refl _, Nat.le_refl _⟩ (Nat.le_of_ble_eq_true rfl) hl.1 ⟨by decide, by decide⟩ (by decide +kernel : decode prog_1_method_55_code 38 = .ok (.invokevirtual 126, 3)) fun r σ' H4 L4 hq hR4 hO4 hC4 ho4 hfr4 hL4 => ?_
  obtain ⟨rfl, hσ⟩ := hq
  obtain rfl := hσ.symm
  replace hJ : SJ D dA DB dB b0 adK adV adT adD bd v σ s H4 (locs3 ++ L4) 0 (fun _ => 0) := by
    obtain ⟨j1, j2, ⟨j3, j4, j5⟩, j6, j7⟩ := hJ
    have hfr5 : FR b0 H3 H4 := hfr4
    refine ⟨hR4, hfr5.WD j2, ⟨j3.kept ?_, ?_, j5⟩, j6.trans hfr5, fun q hq => (List.mem_append.mp hq).elim (j7 q) (fun h => Or.inl (hL4 q h))⟩
    · obtain ⟨_, _, cell, c1, -⟩ := id j3
      have c1 : H3[bd]? = some cell := c1
      rw [c1]
      exact hfr4 bd cell c1 (fun h => by have := h.2; omega)
    · exact hfr4 v _ j4 (fun h => by have := h.2; omega)
  show W p' l e (rmB 5 200 2 20) s m [.ref (adr b0 adK adT (0, 0, 0)), .int (Int32.ofInt p), .int (Int32.ofInt i)].toArray below meth c H4 (locs3 ++ L4) 2 20 _ (F0 m 41 ls [.int (Int32.ofInt (b2 (pg g p 0 = 1 ∨ pg g p 0 = 2 ∨ pg g p 0 = 3)))])
  have hbd : b0 ≤ bd := by omega
  have hvb : b0 ≤ v := by omega
  have kd := hI.w.p.kd p hpg
  obtain ⟨w, hw⟩ := Int.eq_ofNat_of_zero_le hp0
  have hxe : ∀ L : List Int, txt g p = L → v_spell p i σ P g = if i = -1 then (L.length : Int) else if i < (L.length : Int) then L.getD i.toNat 0 else -1 := fun L hL => by
    unfold v_spell
    rw [if_neg (fun q => q ⟨hpg, hi1⟩), hL]
  rw [show Int32.ofInt p = nI w by rw [hw, nIi]] at hl
  by_cases hk : pg g p 0 = 1 ∨ pg g p 0 = 2 ∨ pg g p 0 = 3
  · refine lv_if_eq (tgt := 69) hx hb (by decide +kernel : decode prog_1_method_55_code 41 = .ok (.ifCond .eq 28, 3)) (by first | decide | rfl) (fun h => absurd h (by rw [← b2_h hk]; decide)) (fun h => ?_)
    have ow := (hI.w.p.ow p hpg (by omega) (by omega)).1.1
    obtain ⟨u, hu⟩ := Int.eq_ofNat_of_zero_le ow.1
    have hu9 : u < 10 := by omega
    refine lv_aload hx hb (by decide +kernel : decode prog_1_method_55_code 44 = .ok (.aload 4, 2)) (lv_at hl 0 rfl) ?_
    refine r_ldcSw (own := "ClosedRooms") hx hb hown (hK.2.1 (331, "room ", 20) (by decide)) (by decide +kernel : decode prog_1_method_55_code 46 = .ok (.ldc_w 331, 3)) ?_
    refine s_call hz2 hb1 hb2 (va_runV (own := "ClosedRooms") (C := "java/lang/StringBuilder") (index := 333) (y := yB_aps) (As := [.ref (adK 20)]) (rest := []) ⟨hx, hb, hml, hown, hts⟩ (m_B_aps l hbd hvb (by decide) (by decide)) ⟨callB_of 1 hts (gw_code (tb_at (h := 5212) (by decide +kernel))) rfl rfl rfl (hts _ (tb_at (h := 1023) (by decide +kernel))) (hts _ (tb_at (h := 5209) (by decide +kernel))) (by decide +kernel) ⟨Nat.le_of_ble_eq_true rfl, Nat.le_of_ble_eq_true rfl⟩, hts _ (tb_at (h := 5210) (by decide +kernel)), hts _ (tb_at (h := 5211) (by decide +kernel))⟩ ⟨PB_blind, b_recv hK.1 hJ.2.2.1, fun U hU hW => PB_at hK.1 hJ.2.2.1 hJ.2.1.1 U hU hW⟩ rfl rfl hl.1 rfl (lv_room (Nat.le_of_ble_eq_true rfl)) (by decide +kernel : decode prog_1_method_55_code 49 = .ok (.invokevirtual 333, 3)) ⟨Nat.le_refl _, Nat.le_refl _⟩) hJ fun H1 locs1 hJ => ?_
    refine lv_aload_n hx hb (by decide +kernel : decode prog_1_method_55_code 52 = .ok (.aload_n 3, 1)) rfl (lv_at hl 1 rfl) ?_
    refine x_getI (ix := 130) (t := 14) (b := 1) (k := 0) (i := p) hx hb hts hown hS hJ.1 hVp (by decide) (by decide) (by decide) (hts _ (tb_at (h := 1141) (by decide +kernel))) (by decide +kernel : decode prog_1_method_55_code 53 = .ok (.getfield 130, 3)) ?_
    rw [show Int32.ofInt (σ 14 0 p ((1 : Nat) : Int)) = nI u by rw [show σ 14 0 p ((1 : Nat) : Int) = pg g p 1 from hRP.own, hu, nIi]]
    refine s_call hz2 hb1 hb2 (va_runV (own := "ClosedRooms") (C := "java/lang/StringBuilder") (index := 336) (y := yB_api) (As := [.int (nI u)]) (rest := []) ⟨hx, hb, hml, hown, hts⟩ (m_B_api l hbd hvb hu9 (by decide)) ⟨callB_of 1 hts (gw_code (tb_at (h := 6071) (by decide +kernel))) rfl rfl rfl (hts _ (tb_at (h := 1023) (by decide +kernel))) (hts _ (tb_at (h := 6068) (by decide +kernel))) (by decide +kernel) ⟨Nat.le_of_ble_eq_true rfl, Nat.le_of_ble_eq_true rfl⟩, hts _ (tb_at (h := 6069) (by decide +kernel)), hts _ (tb_at (h := 6070) (by decide +kernel))⟩ ⟨PB_blind, b_recv hK.1 hJ.2.2.1, fun U hU hW => PB_at hK.1 hJ.2.2.1 hJ.2.1.1 U hU hW⟩ rfl rfl hl.1 rfl (lv_room (Nat.le_of_ble_eq_true rfl)) (by decide +kernel : decode prog_1_method_55_code 56 = .ok (.invokevirtual 336, 3)) ⟨Nat.le_refl _, Nat.le_refl _⟩) hJ fun H1 locs1 hJ => ?_
    refine r_ldcSw (own := "ClosedRooms") hx hb hown (hK.2.1 (339, " page ", 21) (by decide)) (by decide +kernel : decode prog_1_method_55_code 59 = .ok (.ldc_w 339, 3)) ?_
    refine s_call hz2 hb1 hb2 (va_runV (own := "ClosedRooms") (C := "java/lang/StringBuilder") (index := 333) (y := yB_aps) (As := [.ref (adK 21)]) (rest := []) ⟨hx, hb, hml, hown, hts⟩ (m_B_aps l hbd hvb (by decide) (by decide)) ⟨callB_of 1 hts (gw_code (tb_at (h := 5212) (by decide +kernel))) rfl rfl rfl (hts _ (tb_at (h := 1023) (by decide +kernel))) (hts _ (tb_at (h := 5209) (by decide +kernel))) (by decide +kernel) ⟨Nat.le_of_ble_eq_true rfl, Nat.le_of_ble_eq_true rfl⟩, hts _ (tb_at (h := 5210) (by decide +kernel)), hts _ (tb_at (h := 5211) (by decide +kernel))⟩ ⟨PB_blind, b_recv hK.1 hJ.2.2.1, fun U hU hW => PB_at hK.1 hJ.2.2.1 hJ.2.1.1 U hU hW⟩ rfl rfl hl.1 rfl (lv_room (Nat.le_of_ble_eq_true rfl)) (by decide +kernel : decode prog_1_method_55_code 62 = .ok (.invokevirtual 333, 3)) ⟨Nat.le_refl _, Nat.le_refl _⟩) hJ fun H1 locs1 hJ => ?_
    refine lv_pop hx hb (by decide +kernel : decode prog_1_method_55_code 65 = .ok (.pop, 1)) rfl ?_
    refine lv_goto (tgt := 92) hx hb (by decide +kernel : decode prog_1_method_55_code 66 = .ok (.goto 26, 3)) (by first | decide | rfl) ?_
    have hT : txt g p = [114, 111, 111, 109, 32, 48 + (u : Int), 32, 112, 97, 103, 101, 32, 48 + p] := by
      unfold txt
      rw [if_pos hk, hu]
    refine sp_tail (L := [114, 111, 111, 109, 32, 48 + (u : Int), 32, 112, 97, 103, 101, 32, 48 + p]) (n := 12) (w := w) hx hb hml hown hts hr hlocks hK hz2 hb1 hb2 hJ (by omega) (by decide) rfl (fun j hj => ?_) (fun j hj => ?_) (by rw [hw]; rfl) hi1 hi32 (hxe _ hT) hl
    · rcases (by omega : j = 0 ∨ j = 1 ∨ j = 2 ∨ j = 3 ∨ j = 4 ∨ j = 5 ∨ j = 6 ∨ j = 7 ∨ j = 8 ∨ j = 9 ∨ j = 10 ∨ j = 11 ∨ j = 12) with rfl | rfl | rfl | rfl | rfl | rfl | rfl | rfl | rfl | rfl | rfl | rfl | rfl <;> first | (simp only [List.getD_cons_zero, List.getD_cons_succ]; done) | (simp only [List.getD_cons_zero, List.getD_cons_succ]; omega) | (show 0 ≤ 48 + (u : Int) ∧ 48 + (u : Int) < 128; omega) | (show 0 ≤ 48 + p ∧ 48 + p < 128; omega)
    · rcases (by omega : j = 0 ∨ j = 1 ∨ j = 2 ∨ j = 3 ∨ j = 4 ∨ j = 5 ∨ j = 6 ∨ j = 7 ∨ j = 8 ∨ j = 9 ∨ j = 10 ∨ j = 11) with rfl | rfl | rfl | rfl | rfl | rfl | rfl | rfl | rfl | rfl | rfl | rfl <;> first | rfl | (show nI (48 + u) = Int32.ofInt (48 + (u : Int)); rw [nIi]; rfl)
  · refine lv_if_eq (tgt := 69) hx hb (by decide +kernel : decode prog_1_method_55_code 41 = .ok (.ifCond .eq 28, 3)) (by first | decide | rfl) (fun h => ?_) (fun h => absurd (by rw [← b2_l hk]; rfl) h)
    refine lv_aload hx hb (by decide +kernel : decode prog_1_method_55_code 69 = .ok (.aload 4, 2)) (lv_at hl 0 rfl) ?_
    refine lv_aload_n hx hb (by decide +kernel : decode prog_1_method_55_code 71 = .ok (.aload_n 3, 1)) rfl (lv_at hl 1 rfl) ?_
    refine x_getI (ix := 121) (t := 14) (b := 0) (k := 0) (i := p) hx hb hts hown hS hJ.1 hVp (by decide) (by decide) (by decide) (hts _ (tb_at (h := 1137) (by decide +kernel))) (by decide +kernel : decode prog_1_method_55_code 72 = .ok (.getfield 121, 3)) ?_
    rw [show σ 14 0 p ((0 : Nat) : Int) = pg g p 0 from hRP.kind]
    refine lv_iconst (v := 4) hx hb (by decide +kernel : decode prog_1_method_55_code 75 = .ok (.iconst 4, 1)) (by decide) ?_
    refine lv_icmp_ne (tgt := 85) hx hb (by decide +kernel : decode prog_1_method_55_code 76 = .ok (.if_icmp .ne 9, 3)) (by first | decide | rfl) (fun h => ?_) (fun h => ?_)
    · have hk4 : pg g p 0 ≠ 4 := fun q => h (by rw [q]; rfl)
      refine r_ldcSw (own := "ClosedRooms") hx hb hown (hK.2.1 (343, "free ", 23) (by decide)) (by decide +kernel : decode prog_1_method_55_code 85 = .ok (.ldc_w 343, 3)) ?_
      refine s_call hz2 hb1 hb2 (va_runV (own := "ClosedRooms") (C := "java/lang/StringBuilder") (index := 333) (y := yB_aps) (As := [.ref (adK 23)]) (rest := []) ⟨hx, hb, hml, hown, hts⟩ (m_B_aps l hbd hvb (by decide) (by decide)) ⟨callB_of 1 hts (gw_code (tb_at (h := 5212) (by decide +kernel))) rfl rfl rfl (hts _ (tb_at (h := 1023) (by decide +kernel))) (hts _ (tb_at (h := 5209) (by decide +kernel))) (by decide +kernel) ⟨Nat.le_of_ble_eq_true rfl, Nat.le_of_ble_eq_true rfl⟩, hts _ (tb_at (h := 5210) (by decide +kernel)), hts _ (tb_at (h := 5211) (by decide +kernel))⟩ ⟨PB_blind, b_recv hK.1 hJ.2.2.1, fun U hU hW => PB_at hK.1 hJ.2.2.1 hJ.2.1.1 U hU hW⟩ rfl rfl hl.1 rfl (lv_room (Nat.le_of_ble_eq_true rfl)) (by decide +kernel : decode prog_1_method_55_code 88 = .ok (.invokevirtual 333, 3)) ⟨Nat.le_refl _, Nat.le_refl _⟩) hJ fun H1 locs1 hJ => ?_
      refine lv_pop hx hb (by decide +kernel : decode prog_1_method_55_code 91 = .ok (.pop, 1)) rfl ?_
      have hT : txt g p = [102, 114, 101, 101, 32, 48 + p] := by
        unfold txt
        rw [if_neg hk, if_neg hk4]
      refine sp_tail (L := [102, 114, 101, 101, 32, 48 + p]) (n := 5) (w := w) hx hb hml hown hts hr hlocks hK hz2 hb1 hb2 hJ (by omega) (by decide) rfl (fun j hj => ?_) (fun j hj => ?_) (by rw [hw]; rfl) hi1 hi32 (hxe _ hT) hl
      · rcases (by omega : j = 0 ∨ j = 1 ∨ j = 2 ∨ j = 3 ∨ j = 4 ∨ j = 5) with rfl | rfl | rfl | rfl | rfl | rfl <;> first | (simp only [List.getD_cons_zero, List.getD_cons_succ]; done) | (simp only [List.getD_cons_zero, List.getD_cons_succ]; omega) | (show 0 ≤ 48 + p ∧ 48 + p < 128; omega)
      · rcases (by omega : j = 0 ∨ j = 1 ∨ j = 2 ∨ j = 3 ∨ j = 4) with rfl | rfl | rfl | rfl | rfl <;> rfl
    · have hk4 : pg g p 0 = 4 := (n_eq ⟨by omega, by omega⟩ ⟨by decide, by decide⟩).mp h
      refine r_ldcSw (own := "ClosedRooms") hx hb hown (hK.2.1 (341, "slots ", 22) (by decide)) (by decide +kernel : decode prog_1_method_55_code 79 = .ok (.ldc_w 341, 3)) ?_
      refine lv_goto (tgt := 88) hx hb (by decide +kernel : decode prog_1_method_55_code 82 = .ok (.goto 6, 3)) (by first | decide | rfl) ?_
      refine s_call hz2 hb1 hb2 (va_runV (own := "ClosedRooms") (C := "java/lang/StringBuilder") (index := 333) (y := yB_aps) (As := [.ref (adK 22)]) (rest := []) ⟨hx, hb, hml, hown, hts⟩ (m_B_aps l hbd hvb (by decide) (by decide)) ⟨callB_of 1 hts (gw_code (tb_at (h := 5212) (by decide +kernel))) rfl rfl rfl (hts _ (tb_at (h := 1023) (by decide +kernel))) (hts _ (tb_at (h := 5209) (by decide +kernel))) (by decide +kernel) ⟨Nat.le_of_ble_eq_true rfl, Nat.le_of_ble_eq_true rfl⟩, hts _ (tb_at (h := 5210) (by decide +kernel)), hts _ (tb_at (h := 5211) (by decide +kernel))⟩ ⟨PB_blind, b_recv hK.1 hJ.2.2.1, fun U hU hW => PB_at hK.1 hJ.2.2.1 hJ.2.1.1 U hU hW⟩ rfl rfl hl.1 rfl (lv_room (Nat.le_of_ble_eq_true rfl)) (by decide +kernel : decode prog_1_method_55_code 88 = .ok (.invokevirtual 333, 3)) ⟨Nat.le_refl _, Nat.le_refl _⟩) hJ fun H1 locs1 hJ => ?_
      refine lv_pop hx hb (by decide +kernel : decode prog_1_method_55_code 91 = .ok (.pop, 1)) rfl ?_
      have hT : txt g p = [115, 108, 111, 116, 115, 32, 48 + p] := by
        unfold txt
        rw [if_neg hk, if_pos hk4]
      refine sp_tail (L := [115, 108, 111, 116, 115, 32, 48 + p]) (n := 6) (w := w) hx hb hml hown hts hr hlocks hK hz2 hb1 hb2 hJ (by omega) (by decide) rfl (fun j hj => ?_) (fun j hj => ?_) (by rw [hw]; rfl) hi1 hi32 (hxe _ hT) hl
      · rcases (by omega : j = 0 ∨ j = 1 ∨ j = 2 ∨ j = 3 ∨ j = 4 ∨ j = 5 ∨ j = 6) with rfl | rfl | rfl | rfl | rfl | rfl | rfl <;> first | (simp only [List.getD_cons_zero, List.getD_cons_succ]; done) | (simp only [List.getD_cons_zero, List.getD_cons_succ]; omega) | (show 0 ≤ 48 + p ∧ 48 + p < 128; omega)
      · rcases (by omega : j = 0 ∨ j = 1 ∨ j = 2 ∨ j = 3 ∨ j = 4 ∨ j = 5) with rfl | rfl | rfl | rfl | rfl | rfl <;> rfl
end XR
