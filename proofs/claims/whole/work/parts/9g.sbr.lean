/-! a builder of texts, as the component makes one: what it is like, and its rows; the members' walks below are written by gen/sb.py -/
def fB : u_T := fun k => match k with
  | 0 => ("java/lang/AbstractStringBuilder", "value", "[B", false)
  | 1 => ("java/lang/AbstractStringBuilder", "coder", "B", false)
  | 2 => ("java/lang/AbstractStringBuilder", "maybeLatin1", "Z", false)
  | _ => ("java/lang/AbstractStringBuilder", "count", "I", false)
def tB : Nat → FieldType := fun k => match k with
  | 0 => .array .byte
  | 1 => .byte
  | 2 => .boolean
  | _ => .int
def crB : List vw_C := [("java/lang/StringBuilder", fB, 4)]
theorem fB_in : ∀ w ∈ u_ws "java/lang/StringBuilder" fB 4, w ∈ TB := by
  have h : [5199, 5201, 5203, 5205].length = 4 := rfl
  intro w hw
  obtain ⟨k, hk, rfl⟩ := List.mem_map.mp hw
  have hk := List.mem_range.mp hk
  rcases (by omega : k = 0 ∨ k = 1 ∨ k = 2 ∨ k = 3) with rfl | rfl | rfl | rfl
  · exact tb_at (h := 5199) (by decide +kernel)
  · exact tb_at (h := 5201) (by decide +kernel)
  · exact tb_at (h := 5203) (by decide +kernel)
  · exact tb_at (h := 5205) (by decide +kernel)
theorem fB_ty : ∀ k, k < 4 → parseFieldDescriptor (fB k).2.2.1 = some (tB k) := by
  intro k hk
  rcases (by omega : k = 0 ∨ k = 1 ∨ k = 2 ∨ k = 3) with rfl | rfl | rfl | rfl <;> decide +kernel
theorem fB_nm : ∀ a, a < 4 → ∀ b, b < 4 → a ≠ b → (fB a).2.1 ≠ (fB b).2.1 := by
  intro a ha b hb hab
  rcases (by omega : a = 0 ∨ a = 1 ∨ a = 2 ∨ a = 3) with rfl | rfl | rfl | rfl <;> rcases (by omega : b = 0 ∨ b = 1 ∨ b = 2 ∨ b = 3) with rfl | rfl | rfl | rfl <;> first | exact absurd rfl hab | decide +kernel
theorem fB_cl (k : Nat) : (fB k).1 = "java/lang/AbstractStringBuilder" ∧ (fB k).2.2.2 = false := by
  unfold fB
  split <;> exact ⟨rfl, rfl⟩
def yA_ens : MethodName := ⟨"java/lang/AbstractStringBuilder", "ensureCapacityInternal", "(I)V"⟩
def yA_inf : MethodName := ⟨"java/lang/AbstractStringBuilder", "inflateIfNeededFor", "(Ljava/lang/String;)V"⟩
def yA_put : MethodName := ⟨"java/lang/AbstractStringBuilder", "putStringAt", "(ILjava/lang/String;)V"⟩
def yA_isL : MethodName := ⟨"java/lang/AbstractStringBuilder", "isLatin1", "()Z"⟩
/-- private methods of the abstract builder -/
def xPV : List MethodName := [yA_ens, yA_inf, yA_put]
/-- the builder's class and its row of bytes -/
def BK (DB : va_G) (dB : ClassId) (s : State) : Prop := u_Kn s "java/lang/StringBuilder" fB 4 (DB.1 0) (DB.2 0) ∧ ArrOfT s dB .byte ∧ s.vm.findClass ("[" ++ FieldType.byte.toString) = some dB ∧ ∀ y ∈ xPV, va_Nw (.selects "java/lang/StringBuilder" y y) s
theorem BK.warm {DB : va_G} {dB : ClassId} {s U : State} (hW : s.WarmedH U.vm) (h : BK DB dB s) : BK DB dB U := ⟨u_Kn_moved hW.alike h.1, arrOfT_moved hW.alike h.2.1, by rw [hW.alike.findClass]; exact h.2.2.1, fun y hy => word_at hW (Or.inl rfl) (h.2.2.2 y hy)⟩
theorem BK.same {DB : va_G} {dB : ClassId} {s U : State} (hv : U.vm = s.vm) (h : BK DB dB s) : BK DB dB U := by
  have ha : s.vm.Alike U.vm := by rw [hv]; exact Vm.Alike.refl _
  exact ⟨u_Kn_moved ha h.1, arrOfT_moved ha h.2.1, by rw [hv]; exact h.2.2.1, fun y hy => (h.2.2.2 y hy).same rfl hv.symm⟩
theorem BK.sel {DB : va_G} {dB : ClassId} {s : State} {args : Array Value} {y : MethodName} (h : BK DB dB s) (hy : xPV.contains y = true) : (Cond.selects "java/lang/StringBuilder" y y).before args s = true := va_tabs rfl rfl (h.2.2.2 y (List.contains_iff_mem.mp hy))
theorem BK_K {DB : va_G} {dB : ClassId} {s : State} (h : BK DB dB s) : va_K DB crB [(dB, .byte)] s := by
  refine ⟨fun c q hq => ?_, fun k q hq => ?_⟩
  · have hc : c < 1 := (List.getElem?_eq_some_iff.mp hq).1
    rw [show c = 0 by omega] at hq ⊢
    cases hq
    exact h.1
  · have hc : k < 1 := (List.getElem?_eq_some_iff.mp hq).1
    rw [show k = 0 by omega] at hq
    cases hq
    exact ⟨h.2.1, h.2.2.1⟩
def AG (b0 : Nat) : Nat → Prop := fun q => b0 ≤ q
def dg1 (j : Nat) : Int32 := Int32.ofNat (48 + j % 10)
/-- what nobody writes, with all that is made apart from it; and the table of digits -/
def RGh (A : Nat → Prop) (adK adV adT : Nat → Nat) (s : State) (H : Heap) : Prop :=
  vk_S 26 lenS bytS adK adV A s H ∧ (∀ t, ek t = 7 → va_Z "ClosedRooms" (cSt t) "[I" (.ref (adT t)) A s H ∧ va_T .int (adT t) (al t).toNat (fun j => .int (Int32.ofInt (stv t (j : Int)))) A s H) ∧
  va_Z "java/lang/String" "COMPACT_STRINGS" "Z" (.int 1) A s H ∧ va_Zq "jdk/internal/util/Preconditions" "SIOOBE_FORMATTER" "Ljava/util/function/BiFunction;" A s H
def RB (b0 : Nat) (adK adV adT : Nat → Nat) (adD : Nat) (s : State) (H : Heap) : Prop :=
  RGh (AG b0) adK adV adT s H ∧ va_Z "java/lang/Integer" "DigitOnes" "[B" (.ref adD) (AG b0) s H ∧ va_T .byte adD 100 (fun j => .int (dg1 j)) (AG b0) s H
theorem RB.moved {b0 : Nat} {adK adV adT : Nat → Nat} {adD : Nat} {s U : State} {H : Heap} (hv : s.vm.Alike U.vm) (h : RB b0 adK adV adT adD s H) : RB b0 adK adV adT adD U H :=
  ⟨⟨h.1.1.moved hv, fun t ht => ⟨(h.1.2.1 t ht).1.moved hv, (h.1.2.1 t ht).2.moved hv⟩, h.1.2.2.1.moved hv, h.1.2.2.2.moved hv⟩, h.2.1.moved hv, h.2.2.moved hv⟩
theorem RB.kept {b0 : Nat} {adK adV adT : Nat → Nat} {adD : Nat} {s : State} {H H1 : Heap} (h : RB b0 adK adV adT adD s H) (hq : ∀ (a : Nat) (c : Cell), H[a]? = some c → a < b0 → H1[a]? = some c) : RB b0 adK adV adT adD s H1 := by
  have hq : ∀ a : Nat, a < H.size → ¬ AG b0 a → H1[a]? = H[a]? := fun a hs ha => by
    have h1 : H[a]? = some H[a] := Array.getElem?_eq_getElem hs
    rw [h1]
    exact hq a _ h1 (Nat.lt_of_not_le ha)
  exact ⟨⟨h.1.1.kept hq, fun t ht => ⟨(h.1.2.1 t ht).1.kept hq, (h.1.2.1 t ht).2.kept hq⟩, h.1.2.2.1.kept hq, h.1.2.2.2.kept hq⟩, h.2.1.kept hq, h.2.2.kept hq⟩
theorem RB_RO {b0 : Nat} {adK adV adT : Nat → Nat} {adD : Nat} {s : State} {H : Heap} (h : RB b0 adK adV adT adD s H) : RO b0 adK adV adT s H := by
  have hA : ∀ q, A0 b0 q → AG b0 q := fun q h => h.1
  exact ⟨h.1.1.narrow hA, fun t ht => ⟨(h.1.2.1 t ht).1.narrow hA, (h.1.2.1 t ht).2.narrow hA⟩, h.1.2.2.1.narrow hA, h.1.2.2.2.narrow hA⟩
/-- the builder at bd, its bytes at v, n of them the text's -/
def BW (DB : va_G) (dB : ClassId) (bd v n : Nat) (f : Nat → Int32) (H : Heap) : Prop :=
  va_at DB crB (bd, .inr (0, [.ref v, .int 0, .int 0, .int (nI n)])) H ∧ H[v]? = some (arrV dB 16 (fun j => .int (f j))) ∧ bd ≠ v
def FB (bd v : Nat) : Nat → Prop := fun q => q = bd ∨ q = v
def JB (DB : va_G) (dB : ClassId) (bd v : Nat) (s : State) (H : Heap) (locs : List Loc) (n : Nat) (f : Nat → Int32) : Prop :=
  BW DB dB bd v n f H ∧ (∀ (q : Nat) (c : Cell), s.heap[q]? = some c → q ≠ bd → q ≠ v → H[q]? = some c) ∧ ∀ q ∈ locs, FB bd v q.base
def PB (DB : va_G) (dB : ClassId) (b0 : Nat) (adK adV adT : Nat → Nat) (adD bd v n : Nat) (f : Nat → Int32) (av : List Value) : Array Value → State → Prop := va_Pc av (fun U => BK DB dB U ∧ BW DB dB bd v n f U.heap ∧ RB b0 adK adV adT adD U U.heap)
theorem PB_blind {DB : va_G} {dB : ClassId} {b0 : Nat} {adK adV adT : Nat → Nat} {adD bd v n : Nat} {f : Nat → Int32} {av : List Value} : FrameBlind (PB DB dB b0 adK adV adT adD bd v n f av) := by
  intro a U g mk ⟨h1, h2, h3, h4⟩
  exact ⟨h1, h2.same (s := U) (U := U.calling g mk a) rfl, h3, h4.moved (s := U) (U := U.calling g mk a) (Vm.Alike.refl U.vm)⟩
theorem PB_at {DB : va_G} {dB : ClassId} {b0 : Nat} {adK adV adT : Nat → Nat} {adD bd v n : Nat} {f : Nat → Int32} {av : List Value} {s : State} {H : Heap} (hK : BK DB dB s) (hB : BW DB dB bd v n f H) (hR : RB b0 adK adV adT adD s H) (U : State) (hU : U.heap = H) (hW : s.WarmedH U.vm) : PB DB dB b0 adK adV adT adD bd v n f av av.toArray U :=
  ⟨rfl, hK.warm hW, by rw [hU]; exact hB, by rw [hU]; exact hR.moved hW.alike⟩
def QB (DB : va_G) (dB : ClassId) (bd v n : Nat) (f : Nat → Int32) (r : Option Value) : Array Value → State → Outcome → State → Prop := fun _ st o t => o = .returned r ∧ BW DB dB bd v n f t.heap ∧ ∀ (q : Nat) (c : Cell), st.heap[q]? = some c → q ≠ bd → q ≠ v → t.heap[q]? = some c
def rmB (f lo mc ms : Nat) : Room := { frames := f, cells := mc, slots := ms, locals := lo }
theorem gin {l : List Cond} (h : ∀ w ∈ l, w ∈ TB) : GoodIn TB l := fun w hw => ⟨h w hw, tb_good (h w hw)⟩
section BLD
variable {DB : va_G} {dB : ClassId} {b0 : Nat} {adK adV adT : Nat → Nat} {adD bd v n : Nat} {f : Nat → Int32}
variable {p : Program} {l : Launch} {e : Env} {R : Room} {s : State} {m : MethodId} {args : Array Value} {below : List Frame} {meth : Method} {c : Code} {H : Heap} {locs : List Loc} {cells slots : Nat} {Q : State → Prop}
variable {cc : ByteArray} {pc : Nat} {ls : Array Slot} {rest : List Value}
/-- a private method of the abstract builder, on a builder -/
theorem sel_B {y : MethodName} (hts : ∀ w ∈ TB, w.before args s = true) (hc : y.cls = "java/lang/AbstractStringBuilder") (hpriv : (Cond.privateMethod y).before args s = true) (hinst : (Cond.instanceMethod y).before args s = true) : (Cond.selects "java/lang/StringBuilder" y y).before args s = true := by
  obtain ⟨c2, r2, m2, q1, q2, q3, q4, kP, hkP, hkPi⟩ := Cond.selects_spec (hts _ (tb_at (h := 6016) (by decide +kernel) : Cond.selects "java/lang/StringBuilder" yA_isL yA_isL ∈ TB))
  obtain ⟨mk, methM, hnamed, hmethM, -, -⟩ := Cond.instanceMethod_spec hinst
  have hy : y.cls ≠ "java/lang/invoke/MethodHandle" ∧ y.cls ≠ "java/lang/invoke/VarHandle" := by rw [hc]; decide
  have hfound : s.methodFound? y.cls y.name y.desc = some mk := State.methodFound?_of_named hnamed hy
  have hfy : s.methodFound? yA_isL.cls yA_isL.name yA_isL.desc = some m2 := State.methodFound?_of_named q3 (by decide)
  cases hfy.symm.trans q2
  have hsel : selectMethod {} s.vm c2 mk = .method mk := selectMethod_private hmethM (Cond.privateMethod_at hpriv mk methM hnamed hmethM)
  have h1 := findClass_of_methodNamed hnamed
  have h2 := findClass_of_methodNamed q3
  rw [hc] at h1
  have hcls := Option.some.inj (h1.symm.trans h2)
  rw [← hcls] at hkP
  simp only [Cond.before, Cond.holds, Cond.value, q1, hfound, hnamed, hsel, hkP]
  simp
  exact hkPi
theorem b_P1 {fs : List Value} (h : va_at DB crB (bd, .inr (0, fs)) H) : va_P DB crB [(bd, .inr (0, fs))] H := by
  intro j q hq
  have hj : j < 1 := (List.getElem?_eq_some_iff.mp hq).1
  rw [show j = 0 by omega] at hq
  cases hq
  exact h
/-- a field of the builder is read -/
theorem b_get {ix k : Nat} {fs : List Value} {w : Value} (hx : p.tables.exec = Jvm.exec) (hb : c.code = cc) (hts : ∀ w ∈ TB, w.before args s = true) (hown : s.vm.findClass "java/lang/AbstractStringBuilder" = some m.cls) (hK : BK DB dB s) (hat : va_at DB crB (bd, .inr (0, fs)) H) (hk : k < 4)
    (hl : (Cond.fieldLink "java/lang/AbstractStringBuilder" ix "java/lang/AbstractStringBuilder" (fB k).2.1 (fB k).2.2.1).before args s = true) (hv : fs[k]? = some w) (hdg : decode cc pc = .ok (.getfield ix, 3))
    (kk : W p l e R s m args below meth c H locs cells slots Q (F0 m (pc + 3) ls (w :: rest))) : W p l e R s m args below meth c H locs cells slots Q (F0 m pc ls (.ref bd :: rest)) :=
  va_get (own := "java/lang/AbstractStringBuilder") (ref := "java/lang/AbstractStringBuilder") (ci := 0) hx hb hts fB_in hown (BK_K hK) (b_P1 hat) 0 rfl rfl k hk hl (fun x h => by rw [(fB_cl k).1] at h; exact h) hv hdg kk
/-- a field of the builder is written -/
theorem b_put {ix k : Nat} {fs : List Value} {w : Value} (hx : p.tables.exec = Jvm.exec) (hb : c.code = cc) (hts : ∀ w ∈ TB, w.before args s = true) (hown : s.vm.findClass "java/lang/AbstractStringBuilder" = some m.cls) (hK : BK DB dB s) (hat : va_at DB crB (bd, .inr (0, fs)) H) (hk : k < 4)
    (hl : (Cond.fieldLink "java/lang/AbstractStringBuilder" ix "java/lang/AbstractStringBuilder" (fB k).2.1 (fB k).2.2.1).before args s = true) (hn : narrow (tB k) w = w) (hfit : fits (tB k) w = true) (hlen : k < fs.length) (hdg : decode cc pc = .ok (.putfield ix, 3))
    (kk : ∀ (H1 : Heap) (z : Loc), z.base = bd → va_at DB crB (bd, .inr (0, fs.set k w)) H1 → H1.size = H.size → (∀ q : Nat, q ≠ bd → H1[q]? = H[q]?) → W p l e R s m args below meth c H1 (locs ++ [z]) cells slots Q (F0 m (pc + 3) ls rest)) :
    W p l e R s m args below meth c H locs cells slots Q (F0 m pc ls (w :: .ref bd :: rest)) := by
  have hap := va_apart (own := "java/lang/AbstractStringBuilder") hts fB_in tB fB_ty fB_nm (BK_K hK) (rfl : crB[0]? = some ("java/lang/StringBuilder", fB, 4))
  obtain ⟨r, h1, cell, q1, q2, q3, q4⟩ := hat
  have hr : r = ("java/lang/StringBuilder", fB, 4) := Option.some.inj (h1.symm.trans rfl)
  subst hr
  obtain ⟨hS, hfc, kC, hkC, hkind⟩ := hK.1
  obtain ⟨cf, kf, fi, f, hi, hsl⟩ := hS k hk
  have hlay := hts _ (fB_in _ (u_in_lay hk))
  have hst := (u_facts hfc hkC (u_lays hts fB_in hk) hi).1
  have hi' : s.fieldFound? "java/lang/AbstractStringBuilder" (fB k).2.1 (fB k).2.2.1 = some (cf, kf, fi, f) := by
    rw [← (fB_cl k).1]
    exact hi
  unfold u_lay at hlay
  rw [if_neg (by rw [(fB_cl k).2]; decide)] at hlay
  have h6 := u_store hfc hkC hkind hlay hi (fB_ty k hk) hn hfit
  refine W.putK hx hb (f := f) ⟨hown, hl, ⟨_, _, _, hi'⟩, hst⟩ (by rw [q2]; exact h6) q1 q3 (by rw [hsl]; exact k2_hasslot (q4 k hk)) rfl rfl hdg fun H' e1 e2 e3 => ?_
  rw [hsl] at e1 ⊢
  exact kk H' _ rfl ⟨_, rfl, t_OB.to (V := updV (vp_V fs) k w) ⟨_, e1, q2, q3, t_set q4 hap hk w⟩ (fun j _ => vp_updV_set hlen w j)⟩ e2 e3
theorem RB_J (h : RB b0 adK adV adT adD s s.heap) (hJ : JB DB dB bd v s H locs n f) (hbd : b0 ≤ bd) (hv : b0 ≤ v) : RB b0 adK adV adT adD s H := h.kept fun a c hc ha => hJ.2.1 a c hc (by omega) (by omega)
theorem JB0 (h : BW DB dB bd v n f s.heap) : JB DB dB bd v s s.heap [] n f := ⟨h, fun _ _ h _ _ => h, fun q h => by cases h⟩
/-- the count is written -/
theorem b_cnt {k : Nat} (hx : p.tables.exec = Jvm.exec) (hb : c.code = cc) (hts : ∀ w ∈ TB, w.before args s = true) (hown : s.vm.findClass "java/lang/AbstractStringBuilder" = some m.cls) (hK : BK DB dB s) (hJ : JB DB dB bd v s H locs n f) (hdg : decode cc pc = .ok (.putfield 79, 3))
    (kk : ∀ (H1 : Heap) (locs1 : List Loc), JB DB dB bd v s H1 locs1 k f → W p l e R s m args below meth c H1 locs1 cells slots Q (F0 m (pc + 3) ls rest)) : W p l e R s m args below meth c H locs cells slots Q (F0 m pc ls (.int (nI k) :: .ref bd :: rest)) := by
  obtain ⟨⟨h1, h2, h3⟩, h4, h5⟩ := hJ
  refine b_put (k := 3) (fs := [.ref v, .int 0, .int 0, .int (nI n)]) hx hb hts hown hK h1 (by omega) (hts _ (tb_at (h := 5198) (by decide +kernel))) rfl rfl (by show 3 < 4; omega) hdg fun H1 z y1 y2 y3 y4 => ?_
  refine kk H1 _ ⟨⟨y2, (y4 v (fun q => h3 q.symm)).trans h2, h3⟩, fun q c hc q1 q2 => (y4 q q1).trans (h4 q c hc q1 q2), fun q hq => ?_⟩
  rcases List.mem_append.mp hq with h | h
  · exact h5 q h
  · rw [List.mem_singleton.mp h]
    exact Or.inl y1
/-- a letter is written -/
theorem b_bst {k : Nat} {x : Int32} (hx : p.tables.exec = Jvm.exec) (hb : c.code = cc) (hK : BK DB dB s) (hv : H[v]? = some (arrV dB 16 (fun j => .int (f j)))) (hk : k < 16) (hn : narrow .byte (.int x) = .int x) (hdg : decode cc pc = .ok (.bastore, 1))
    (kk : ∀ (H1 : Heap) (z : Loc), z.base = v → H1[v]? = some (arrV dB 16 (fun j => .int (if j = k then x else f j))) → (∀ q : Nat, q ≠ v → H1[q]? = H[q]?) → W p l e R s m args below meth c H1 (locs ++ [z]) cells slots Q (F0 m (pc + 1) ls rest)) :
    W p l e R s m args below meth c H locs cells slots Q (F0 m pc ls (.int x :: .int (nI k) :: .ref v :: rest)) := by
  refine W.bast hx hb hv (hK.2.1 _ _) (fun q => by cases q) ?_ rfl rfl hdg fun H1 e1 e2 e3 => ?_
  · rw [arrV_size, nI_clamp (by omega)]
    intro h
    rcases h with h | h
    · exact nI_pos (by omega) h
    · omega
  · refine kk H1 _ rfl ?_ e3
    rw [e1, nI_clamp (by omega), hn, arrV_store]
    refine congrArg some (congrArg (arrV dB 16) ?_)
    funext j
    unfold updV
    by_cases h : j = k
    · rw [if_pos h, if_pos h]
    · rw [if_neg h, if_neg h]
theorem b_call {n' : Nat} {f' : Nat → Int32} {r : Option Value} {a0 : Array Value} {st0 : List Value} (hr : va_Run p l e R s m args below meth c H locs cells slots 0 0 (F0 m pc ls st0) rest (QB DB dB bd v n' f' r a0) (FB bd v)) (hJ : JB DB dB bd v s H locs n f)
    (kk : ∀ (H1 : Heap) (locs1 : List Loc), JB DB dB bd v s H1 locs1 n' f' → W p l e R s m args below meth c H1 locs1 cells slots Q (F0 m (pc + 3) ls (r.toList ++ rest))) : W p l e R s m args below meth c H locs cells slots Q (F0 m pc ls st0) := by
  intro T hT X
  obtain ⟨v', st₀, t, T', L, h0, X', hL, e1, e2, ⟨hv, hB, hfr⟩, st⟩ := hr T hT X
  have hv' : v' = r := by injection hv
  subst hv'
  obtain ⟨t2, a1, b1⟩ := kk T'.heap (locs ++ L) ⟨by rw [e1]; exact hB, fun q c hc q1 q2 => by rw [e1]; exact hfr q c (by rw [h0]; exact hJ.2.1 q c hc q1 q2) q1 q2, fun q hq => (List.mem_append.mp hq).elim (hJ.2.2 q) (hL q)⟩ T' rfl X'
  exact ⟨t2, st t2 a1, b1⟩
theorem b_recv (hK : BK DB dB s) (hJ : BW DB dB bd v n f H) : ∃ cellB : Cell, H[bd]? = some cellB ∧ cellB.vm.isStatics = false ∧ s.vm.findClass "java/lang/StringBuilder" = some cellB.cls :=
  va_recv (BK_K hK) (b_P1 hJ.1) (rfl : crB[0]? = some ("java/lang/StringBuilder", fB, 4)) (rfl : [(bd, (Sum.inr (0, [Value.ref v, .int 0, .int 0, .int (nI n)]) : va_E))][0]? = some (bd, Sum.inr (0, [Value.ref v, .int 0, .int 0, .int (nI n)])))
/-- the bytes of it -/
def PV (DB : va_G) (dB : ClassId) (b0 : Nat) (adK adV adT : Nat → Nat) (adD v : Nat) (f : Nat → Int32) (av : List Value) : Array Value → State → Prop := va_Pc av (fun U => BK DB dB U ∧ U.heap[v]? = some (arrV dB 16 (fun j => .int (f j))) ∧ RB b0 adK adV adT adD U U.heap)
theorem PV_blind {av : List Value} : FrameBlind (PV DB dB b0 adK adV adT adD v f av) := by
  intro a U g mk ⟨h1, h2, h3, h4⟩
  exact ⟨h1, h2.same (s := U) (U := U.calling g mk a) rfl, h3, h4.moved (s := U) (U := U.calling g mk a) (Vm.Alike.refl U.vm)⟩
theorem PV_at {av : List Value} (hK : BK DB dB s) (hB : H[v]? = some (arrV dB 16 (fun j => .int (f j)))) (hR : RB b0 adK adV adT adD s H) (U : State) (hU : U.heap = H) (hW : s.WarmedH U.vm) : PV DB dB b0 adK adV adT adD v f av av.toArray U :=
  ⟨rfl, hK.warm hW, by rw [hU]; exact hB, by rw [hU]; exact hR.moved hW.alike⟩
def QV (dB : ClassId) (v : Nat) (f : Nat → Int32) (r : Option Value) : Array Value → State → Outcome → State → Prop := fun _ st o t => o = .returned r ∧ t.heap[v]? = some (arrV dB 16 (fun j => .int (f j))) ∧ ∀ (q : Nat) (c : Cell), st.heap[q]? = some c → q ≠ v → t.heap[q]? = some c
theorem v_call {f' : Nat → Int32} {r : Option Value} {a0 : Array Value} {st0 : List Value} (hr : va_Run p l e R s m args below meth c H locs cells slots 0 0 (F0 m pc ls st0) rest (QV dB v f' r a0) (fun q => q = v)) (hJ : JB DB dB bd v s H locs n f)
    (kk : ∀ (H1 : Heap) (locs1 : List Loc), JB DB dB bd v s H1 locs1 n f' → W p l e R s m args below meth c H1 locs1 cells slots Q (F0 m (pc + 3) ls (r.toList ++ rest))) : W p l e R s m args below meth c H locs cells slots Q (F0 m pc ls st0) := by
  intro T hT X
  obtain ⟨v', st₀, t, T', L, h0, X', hL, e1, e2, ⟨hv, hB, hfr⟩, st⟩ := hr T hT X
  have hv' : v' = r := by injection hv
  subst hv'
  obtain ⟨⟨h1, h2, h3⟩, h4, h5⟩ := hJ
  have hbk : T'.heap[bd]? = H[bd]? := by
    obtain ⟨_, _, cell, c1, -⟩ := id h1
    have c1 : H[bd]? = some cell := c1
    rw [e1, c1]
    exact hfr bd cell (by rw [h0]; exact c1) h3
  obtain ⟨t2, a1, b1⟩ := kk T'.heap (locs ++ L) ⟨⟨h1.kept hbk, by rw [e1]; exact hB, h3⟩, fun q c hc q1 q2 => by rw [e1]; exact hfr q c (by rw [h0]; exact h4 q c hc q1 q2) q2, fun q hq => (List.mem_append.mp hq).elim (h5 q) (fun h => Or.inr (hL q h))⟩ T' rfl X'
  exact ⟨t2, st t2 a1, b1⟩
def PN (av : List Value) : Array Value → State → Prop := va_Pc av (fun _ => True)
theorem PN_blind {av : List Value} : FrameBlind (PN av) := by
  intro a U g mk ⟨h1, _⟩
  exact ⟨h1, trivial⟩
theorem PN_at {av : List Value} (U : State) : PN av av.toArray U := ⟨rfl, trivial⟩
theorem n10 {w : Nat} (h : w < 10) : ¬ (-(nI w) ≤ -10) ∧ (-(nI w) > -100) ∧ (-9 ≤ -(nI w)) ∧ narrow .byte (.int (nI (48 + w))) = .int (nI (48 + w)) ∧ dg1 w = nI (48 + w) := by
  have h1 : (List.range 10).all (fun w => decide (¬ (-(nI w) ≤ -10) ∧ (-(nI w) > -100) ∧ (-9 ≤ -(nI w)) ∧ narrow .byte (.int (nI (48 + w))) = .int (nI (48 + w)) ∧ dg1 w = nI (48 + w))) = true := by decide +kernel
  exact of_decide_eq_true (List.all_eq_true.mp h1 w (List.mem_range.mpr h))
theorem n16 {q : Nat} (h : q ≤ 16) : nI q - 16 ≤ 0 := by
  have h1 : (List.range 17).all (fun q => decide (nI q - 16 ≤ 0)) = true := by decide +kernel
  exact of_decide_eq_true (List.all_eq_true.mp h1 q (List.mem_range.mpr (by omega)))
theorem n17 {q : Nat} (h : q ≤ 16) : (if (16 : Int32) < nI q then (16 : Int32) else nI q) = nI q ∧ nI q <<< ((0 : Int32) &&& 31) = nI q := by
  have h1 : (List.range 17).all (fun q => decide ((if (16 : Int32) < nI q then (16 : Int32) else nI q) = nI q ∧ nI q <<< ((0 : Int32) &&& 31) = nI q)) = true := by decide +kernel
  exact of_decide_eq_true (List.all_eq_true.mp h1 q (List.mem_range.mpr (by omega)))
theorem n_dec {q : Nat} (h : 1 ≤ q) (h2 : q ≤ 16) : nI q + Int32.ofInt (-1) = nI (q - 1) := by
  have h1 : (List.range 17).all (fun q => decide (q = 0 ∨ nI q + Int32.ofInt (-1) = nI (q - 1))) = true := by decide +kernel
  exact (of_decide_eq_true (List.all_eq_true.mp h1 q (List.mem_range.mpr (by omega)))).resolve_left (by omega)
theorem gwSU {own : String} {idx maxL : Nat} {y : MethodName} {bytes : ByteArray} {ret : Option FieldType} (h1 : Cond.methodLink own idx y ∈ TB) (h2 : Cond.sameMethod y.cls y.cls y.name y.desc ∈ TB) (h3 : Cond.superclass own y.cls ∈ TB) (h4 : Cond.instanceMethod y ∈ TB) (h5 : Cond.initialized y.cls ∈ TB) (h6 : Cond.code y bytes maxL ret ∈ TB) : GoodIn TB (va_wsSU own idx y (Cond.code y bytes maxL ret :: TB)) := by
  refine gin fun w hw => ?_
  unfold va_wsSU at hw
  simp only [List.cons_append, List.nil_append, List.mem_cons] at hw
  rcases hw with rfl | rfl | rfl | rfl | rfl | rfl | hw
  · exact h1
  · exact h2
  · exact h3
  · exact h4
  · exact h5
  · exact h6
  · exact hw
theorem gb_eq : ∀ i, i < 26 → lenS.getD i 0 ≤ 32 ∧ ∀ j, j < lenS.getD i 0 → fits .byte (.int ((bytS.getD i []).getD j 0)) = true := by
  have h : (List.range 26).all (fun i => Nat.ble (lenS.getD i 0) 32 && (List.range (lenS.getD i 0)).all (fun j => fits .byte (.int ((bytS.getD i []).getD j 0)))) = true := by decide +kernel
  intro i hi
  have h1 := List.all_eq_true.mp h i (List.mem_range.mpr hi)
  simp only [Bool.and_eq_true, List.all_eq_true, List.mem_range] at h1
  exact ⟨Nat.le_of_ble_eq_true h1.1, h1.2⟩
/-- a builder is begun -/
def PI (DB : va_G) (dB : ClassId) (b0 : Nat) (adK adV adT : Nat → Nat) (adD bd z : Nat) (av : List Value) : Array Value → State → Prop := va_Pc av (fun U => BK DB dB U ∧ va_at DB crB (bd, .inr (0, [.null, .int 0, .int 0, .int 0])) U.heap ∧ RB b0 adK adV adT adD U U.heap ∧ U.heap.size = z)
def QI (DB : va_G) (dB : ClassId) (bd z : Nat) : Array Value → State → Outcome → State → Prop := fun _ st o t => o = .returned none ∧ BW DB dB bd z 0 (fun _ => 0) t.heap ∧ ∀ (q : Nat) (c : Cell), st.heap[q]? = some c → q ≠ bd → t.heap[q]? = some c
theorem PI_blind {z : Nat} {av : List Value} : FrameBlind (PI DB dB b0 adK adV adT adD bd z av) := by
  intro a U g mk ⟨h1, h2, h3, h4, h5⟩
  exact ⟨h1, h2.same (s := U) (U := U.calling g mk a) rfl, h3, h4.moved (s := U) (U := U.calling g mk a) (Vm.Alike.refl U.vm), h5⟩
theorem PI_at {z : Nat} {av : List Value} (hK : BK DB dB s) (hB : va_at DB crB (bd, .inr (0, [.null, .int 0, .int 0, .int 0])) H) (hR : RB b0 adK adV adT adD s H) (hz : H.size = z) (U : State) (hU : U.heap = H) (hW : s.WarmedH U.vm) : PI DB dB b0 adK adV adT adD bd z av av.toArray U :=
  ⟨rfl, hK.warm hW, by rw [hU]; exact hB, by rw [hU]; exact hR.moved hW.alike, by rw [hU]; exact hz⟩
theorem i_call {z : Nat} {a0 : Array Value} {st0 : List Value} (hr : va_Run p l e R s m args below meth c H locs cells slots 1 16 (F0 m pc ls st0) rest (QI DB dB bd z a0) (fun q => q = bd ∨ z ≤ q))
    (kk : ∀ (H1 : Heap) (locs1 : List Loc), BW DB dB bd z 0 (fun _ => 0) H1 → (∀ (q : Nat) (c : Cell), H[q]? = some c → q ≠ bd → H1[q]? = some c) → (∀ q ∈ locs1, q ∈ locs ∨ (q.base = bd ∨ z ≤ q.base)) → W p l e R s m args below meth c H1 locs1 (cells + 1) (slots + 16) Q (F0 m (pc + 3) ls rest)) : W p l e R s m args below meth c H locs cells slots Q (F0 m pc ls st0) := by
  intro T hT X
  obtain ⟨v', st₀, t, T', L, h0, X', hL, e1, e2, ⟨hv, hB, hfr⟩, st⟩ := hr T hT X
  have hv' : v' = none := by injection hv
  subst hv'
  obtain ⟨t2, a1, b1⟩ := kk T'.heap (locs ++ L) (by rw [e1]; exact hB) (fun q c hc hq => by rw [e1]; exact hfr q c (by rw [h0]; exact hc) hq) (fun q hq => (List.mem_append.mp hq).elim Or.inl (fun h => Or.inr (hL q h))) T' rfl X'
  exact ⟨t2, st t2 a1, b1⟩
def yB_init : MethodName := ⟨"java/lang/StringBuilder", "<init>", "()V"⟩
def yA_init : MethodName := ⟨"java/lang/AbstractStringBuilder", "<init>", "(I)V"⟩
def yA_api : MethodName := ⟨"java/lang/AbstractStringBuilder", "append", "(I)Ljava/lang/AbstractStringBuilder;"⟩
def yB_api : MethodName := ⟨"java/lang/StringBuilder", "append", "(I)Ljava/lang/StringBuilder;"⟩
def yI_ss : MethodName := ⟨"java/lang/Integer", "stringSize", "(I)I"⟩
def yI_gc : MethodName := ⟨"java/lang/Integer", "getChars", "(II[B)I"⟩
def yA_aps : MethodName := ⟨"java/lang/AbstractStringBuilder", "append", "(Ljava/lang/String;)Ljava/lang/AbstractStringBuilder;"⟩
def yB_aps : MethodName := ⟨"java/lang/StringBuilder", "append", "(Ljava/lang/String;)Ljava/lang/StringBuilder;"⟩
def yS_gb : MethodName := ⟨"java/lang/String", "getBytes", "([BIB)V"⟩
def yA_len : MethodName := ⟨"java/lang/AbstractStringBuilder", "length", "()I"⟩
def yB_len : MethodName := ⟨"java/lang/StringBuilder", "length", "()I"⟩
def yA_chr : MethodName := ⟨"java/lang/AbstractStringBuilder", "charAt", "(I)C"⟩
def yB_chr : MethodName := ⟨"java/lang/StringBuilder", "charAt", "(I)C"⟩
theorem m_A_ens (l : Launch) (hbd : b0 ≤ bd) (hvb : b0 ≤ v) {q : Nat} (hq : q ≤ 16) : Met l yA_ens (Cond.code yA_ens prog_14_method_9_code 3 none :: TB) (rmB 0 0 0 0) (PB DB dB b0 adK adV adT adD bd v n f [.ref bd, .int (nI q)]) (QB DB dB bd v (n) (f) none) 0 0 (FB bd v) := by
  refine va_MetF (cc := prog_14_method_9_code) (maxL := 3) (ret := none) (by decide) rfl ?_
  intro p e s m args below meth c s₁ B hml hv0
  obtain ⟨rfl, hK, hB, hRB⟩ := hv0
  have hx := B.exec
  have hb := B.bytes
  have hr := B.returns
  have hlocks := B.notSynchronized
  have hts0 := atoms_spec (ws := Cond.code yA_ens prog_14_method_9_code 3 none :: TB) B.pre
  have hts : ∀ x ∈ TB, x.before [.ref bd, .int (nI q)].toArray s = true := fun x hw => hts0 x (List.mem_cons_of_mem _ hw)
  have hown : s.vm.findClass "java/lang/AbstractStringBuilder" = some m.cls := findClass_of_methodNamed B.named
  have hl := lv_entry [.ref bd, .int (nI q)] (n := 3) (Nat.le_of_ble_eq_true rfl)
  rw [lg_entry_eq]
  generalize (lg_sl [.ref bd, .int (nI q)] ++ List.replicate (3 - (lg_sl [.ref bd, .int (nI q)]).length) Slot.unset).toArray = ls at hl ⊢
  have hl : lv_has ls 3 [(0, .ref bd), (1, .int (nI q))] := hl
  have hJ := JB0 hB
  refine lv_aload_n hx hb (by decide +kernel : decode prog_14_method_9_code 0 = .ok (.aload_n 0, 1)) rfl (lv_at hl 0 rfl) ?_
  refine b_get (ix := 15) (k := 0) (fs := [.ref v, .int 0, .int 0, .int (nI n)]) (w := .ref v) hx hb hts hown hK hJ.1.1 (by omega) (hts _ (tb_at (h := 5196) (by decide +kernel))) rfl (by decide +kernel : decode prog_14_method_9_code 1 = .ok (.getfield 15, 3)) ?_
  refine W.alen (n := 16) hx hb hJ.1.2.1 (hK.2.1 _ _) (by rw [arrV_size]; rfl) rfl rfl (by decide +kernel : decode prog_14_method_9_code 4 = .ok (.arraylength, 1)) ?_
  refine lv_aload_n hx hb (by decide +kernel : decode prog_14_method_9_code 5 = .ok (.aload_n 0, 1)) rfl (lv_at hl 0 rfl) ?_
  refine b_get (ix := 22) (k := 1) (fs := [.ref v, .int 0, .int 0, .int (nI n)]) (w := .int 0) hx hb hts hown hK hJ.1.1 (by omega) (hts _ (tb_at (h := 5197) (by decide +kernel))) rfl (by decide +kernel : decode prog_14_method_9_code 6 = .ok (.getfield 22, 3)) ?_
  refine lv_ishr hx hb (by decide +kernel : decode prog_14_method_9_code 9 = .ok (.ishr, 1)) ?_
  rw [show (16 : Int32) >>> ((0 : Int32) &&& 31) = 16 from by decide]
  refine lv_istore_n hx hb (by decide +kernel : decode prog_14_method_9_code 10 = .ok (.istore_n 2, 1)) rfl hl (by omega) rfl fun ls hl => ?_
  replace hl : lv_has ls 3 [(2, .int 16), (0, .ref bd), (1, .int (nI q))] := hl
  refine lv_iload_n hx hb (by decide +kernel : decode prog_14_method_9_code 11 = .ok (.iload_n 1, 1)) rfl (lv_at hl 2 rfl) ?_
  refine lv_iload_n hx hb (by decide +kernel : decode prog_14_method_9_code 12 = .ok (.iload_n 2, 1)) rfl (lv_at hl 0 rfl) ?_
  refine lv_isub hx hb (by decide +kernel : decode prog_14_method_9_code 13 = .ok (.isub, 1)) ?_
  refine lv_if_le (tgt := 38) hx hb (by decide +kernel : decode prog_14_method_9_code 14 = .ok (.ifCond .le 24, 3)) (by first | decide | rfl) (fun _ => ?_) (fun h => absurd (n16 hq) h)
  exact W.vret hx hb hr (fun t ht _ => ⟨rfl, by rw [ht]; exact hJ.1, by rw [ht]; exact hJ.2.1⟩) hJ.2.2 (by decide +kernel : decode prog_14_method_9_code 38 = .ok (.return_, 1))
theorem m_A_isL (l : Launch) (hbd : b0 ≤ bd) (hvb : b0 ≤ v) : Met l yA_isL (Cond.code yA_isL prog_14_method_68_code 1 (some .boolean) :: TB) (rmB 0 0 0 0) (PB DB dB b0 adK adV adT adD bd v n f [.ref bd]) (QB DB dB bd v (n) (f) (some (.int 1))) 0 0 (FB bd v) := by
  refine va_MetF (cc := prog_14_method_68_code) (maxL := 1) (ret := (some .boolean)) (by decide) rfl ?_
  intro p e s m args below meth c s₁ B hml hv0
  obtain ⟨rfl, hK, hB, hRB⟩ := hv0
  have hx := B.exec
  have hb := B.bytes
  have hr := B.returns
  have hlocks := B.notSynchronized
  have hts0 := atoms_spec (ws := Cond.code yA_isL prog_14_method_68_code 1 (some .boolean) :: TB) B.pre
  have hts : ∀ x ∈ TB, x.before [.ref bd].toArray s = true := fun x hw => hts0 x (List.mem_cons_of_mem _ hw)
  have hown : s.vm.findClass "java/lang/AbstractStringBuilder" = some m.cls := findClass_of_methodNamed B.named
  have hl := lv_entry [.ref bd] (n := 1) (Nat.le_of_ble_eq_true rfl)
  rw [lg_entry_eq]
  generalize (lg_sl [.ref bd] ++ List.replicate (1 - (lg_sl [.ref bd]).length) Slot.unset).toArray = ls at hl ⊢
  have hl : lv_has ls 1 [(0, .ref bd)] := hl
  have hJ := JB0 hB
  obtain ⟨cf, kf, fi, f9, q9, cell9, z1, z2, z3, z4, z5, z6, z7, z8⟩ := (RB_J hRB hJ hbd hvb).1.2.2.1
  refine W.gets hx hb hown (hts _ (tb_at (h := 5188) (by decide +kernel : tat 5188 (.fieldLink "java/lang/AbstractStringBuilder" 18 "java/lang/String" "COMPACT_STRINGS" "Z") = true))) z1 z2 z3 z4 z5 (fun y => by rw [y] at z6; cases z6) z7 rfl (by decide +kernel : decode prog_14_method_68_code 0 = .ok (.getstatic 18, 3)) ?_
  refine lv_if_eq (tgt := 17) hx hb (by decide +kernel : decode prog_14_method_68_code 3 = .ok (.ifCond .eq 14, 3)) (by first | decide | rfl) (fun h => absurd h (by decide)) (fun _ => ?_)
  refine lv_aload_n hx hb (by decide +kernel : decode prog_14_method_68_code 6 = .ok (.aload_n 0, 1)) rfl (lv_at hl 0 rfl) ?_
  refine b_get (ix := 22) (k := 1) (fs := [.ref v, .int 0, .int 0, .int (nI n)]) (w := .int 0) hx hb hts hown hK hJ.1.1 (by omega) (hts _ (tb_at (h := 5197) (by decide +kernel))) rfl (by decide +kernel : decode prog_14_method_68_code 7 = .ok (.getfield 22, 3)) ?_
  refine lv_if_ne (tgt := 17) hx hb (by decide +kernel : decode prog_14_method_68_code 10 = .ok (.ifCond .ne 7, 3)) (by first | decide | rfl) (fun h => absurd rfl h) (fun _ => ?_)
  refine lv_iconst (v := 1) hx hb (by decide +kernel : decode prog_14_method_68_code 13 = .ok (.iconst 1, 1)) (by decide) ?_
  refine lv_goto (tgt := 18) hx hb (by decide +kernel : decode prog_14_method_68_code 14 = .ok (.goto 4, 3)) (by first | decide | rfl) ?_
  exact W.zret hx hb hr (rfl) (fun t ht _ => ⟨rfl, by rw [ht]; exact hJ.1, by rw [ht]; exact hJ.2.1⟩) hJ.2.2 (by decide +kernel : decode prog_14_method_68_code 18 = .ok (.ireturn, 1))
theorem m_I_ss (l : Launch) {w : Nat} (hw : w < 10) : Met l yI_ss (Cond.code yI_ss prog_20_method_13_code 4 (some .int) :: TB) (rmB 0 0 0 0) (PN [.int (nI w)]) (RQ (some (.int 1))) 0 0 (fun _ => False) := by
  refine va_MetF (cc := prog_20_method_13_code) (maxL := 4) (ret := (some .int)) (by decide) rfl ?_
  intro p e s m args below meth c s₁ B hml hv0
  obtain ⟨rfl, -⟩ := hv0
  have hx := B.exec
  have hb := B.bytes
  have hr := B.returns
  have hlocks := B.notSynchronized
  have hts0 := atoms_spec (ws := Cond.code yI_ss prog_20_method_13_code 4 (some .int) :: TB) B.pre
  have hts : ∀ x ∈ TB, x.before [.int (nI w)].toArray s = true := fun x hw => hts0 x (List.mem_cons_of_mem _ hw)
  have hown : s.vm.findClass "java/lang/Integer" = some m.cls := findClass_of_methodNamed B.named
  have hl := lv_entry [.int (nI w)] (n := 4) (Nat.le_of_ble_eq_true rfl)
  rw [lg_entry_eq]
  generalize (lg_sl [.int (nI w)] ++ List.replicate (4 - (lg_sl [.int (nI w)]).length) Slot.unset).toArray = ls at hl ⊢
  have hl : lv_has ls 4 [(0, .int (nI w))] := hl
  refine lv_iconst (v := 1) hx hb (by decide +kernel : decode prog_20_method_13_code 0 = .ok (.iconst 1, 1)) (by decide) ?_
  refine lv_istore_n hx hb (by decide +kernel : decode prog_20_method_13_code 1 = .ok (.istore_n 1, 1)) rfl hl (by omega) rfl fun ls hl => ?_
  replace hl : lv_has ls 4 [(1, .int 1), (0, .int (nI w))] := hl
  refine lv_iload_n hx hb (by decide +kernel : decode prog_20_method_13_code 2 = .ok (.iload_n 0, 1)) rfl (lv_at hl 1 rfl) ?_
  refine lv_if_lt (tgt := 11) hx hb (by decide +kernel : decode prog_20_method_13_code 3 = .ok (.ifCond .lt 8, 3)) (by first | decide | rfl) (fun h => absurd h (nI_pos (by omega))) (fun _ => ?_)
  refine lv_iconst (v := 0) hx hb (by decide +kernel : decode prog_20_method_13_code 6 = .ok (.iconst 0, 1)) (by decide) ?_
  refine lv_istore_n hx hb (by decide +kernel : decode prog_20_method_13_code 7 = .ok (.istore_n 1, 1)) rfl hl (by omega) rfl fun ls hl => ?_
  replace hl : lv_has ls 4 [(1, .int 0), (0, .int (nI w))] := hl
  refine lv_iload_n hx hb (by decide +kernel : decode prog_20_method_13_code 8 = .ok (.iload_n 0, 1)) rfl (lv_at hl 1 rfl) ?_
  refine lv_ineg hx hb (by decide +kernel : decode prog_20_method_13_code 9 = .ok (.ineg, 1)) ?_
  refine lv_istore_n hx hb (by decide +kernel : decode prog_20_method_13_code 10 = .ok (.istore_n 0, 1)) rfl hl (by omega) rfl fun ls hl => ?_
  replace hl : lv_has ls 4 [(0, .int (-(nI w))), (1, .int 0)] := hl
  refine lv_bipush (v := (-10)) hx hb (by decide +kernel : decode prog_20_method_13_code 11 = .ok (.bipush (-10), 2)) (by decide) ?_
  refine lv_istore_n hx hb (by decide +kernel : decode prog_20_method_13_code 13 = .ok (.istore_n 2, 1)) rfl hl (by omega) rfl fun ls hl => ?_
  replace hl : lv_has ls 4 [(2, .int (-10)), (0, .int (-(nI w))), (1, .int 0)] := hl
  refine lv_iconst (v := 1) hx hb (by decide +kernel : decode prog_20_method_13_code 14 = .ok (.iconst 1, 1)) (by decide) ?_
  refine lv_istore_n hx hb (by decide +kernel : decode prog_20_method_13_code 15 = .ok (.istore_n 3, 1)) rfl hl (by omega) rfl fun ls hl => ?_
  replace hl : lv_has ls 4 [(3, .int 1), (2, .int (-10)), (0, .int (-(nI w))), (1, .int 0)] := hl
  refine lv_iload_n hx hb (by decide +kernel : decode prog_20_method_13_code 16 = .ok (.iload_n 3, 1)) rfl (lv_at hl 0 rfl) ?_
  refine lv_bipush (v := 10) hx hb (by decide +kernel : decode prog_20_method_13_code 17 = .ok (.bipush 10, 2)) (by decide) ?_
  refine lv_icmp_ge (tgt := 42) hx hb (by decide +kernel : decode prog_20_method_13_code 19 = .ok (.if_icmp .ge 23, 3)) (by first | decide | rfl) (fun h => absurd h (by decide)) (fun _ => ?_)
  refine lv_iload_n hx hb (by decide +kernel : decode prog_20_method_13_code 22 = .ok (.iload_n 0, 1)) rfl (lv_at hl 2 rfl) ?_
  refine lv_iload_n hx hb (by decide +kernel : decode prog_20_method_13_code 23 = .ok (.iload_n 2, 1)) rfl (lv_at hl 1 rfl) ?_
  refine lv_icmp_le (tgt := 31) hx hb (by decide +kernel : decode prog_20_method_13_code 24 = .ok (.if_icmp .le 7, 3)) (by first | decide | rfl) (fun h => absurd h ((n10 hw).1)) (fun _ => ?_)
  refine lv_iload_n hx hb (by decide +kernel : decode prog_20_method_13_code 27 = .ok (.iload_n 3, 1)) rfl (lv_at hl 0 rfl) ?_
  refine lv_iload_n hx hb (by decide +kernel : decode prog_20_method_13_code 28 = .ok (.iload_n 1, 1)) rfl (lv_at hl 3 rfl) ?_
  refine lv_iadd hx hb (by decide +kernel : decode prog_20_method_13_code 29 = .ok (.iadd, 1)) ?_
  rw [show (1 : Int32) + 0 = 1 from by decide]
  exact W.iret hx hb hr (fun t ht _ => RQ_ok rfl ht) (fun q hq => by cases hq) (by decide +kernel : decode prog_20_method_13_code 30 = .ok (.ireturn, 1))
theorem m_I_gc (l : Launch) {w q : Nat} (hw : w < 10) (hq : 1 ≤ q) (hq2 : q ≤ 16) : Met l yI_gc (Cond.code yI_gc prog_20_method_12_code 7 (some .int) :: TB) (rmB 0 0 0 0) (PV DB dB b0 adK adV adT adD v f [.int (nI w), .int (nI q), .ref v]) (QV dB v (fun j => if j = q - 1 then nI (48 + w) else f j) (some (.int (nI (q - 1))))) 0 0 (fun q => q = v) := by
  refine va_MetF (cc := prog_20_method_12_code) (maxL := 7) (ret := (some .int)) (by decide) rfl ?_
  intro p e s m args below meth c s₁ B hml hv0
  obtain ⟨rfl, hK, hB, hRB⟩ := hv0
  have hx := B.exec
  have hb := B.bytes
  have hr := B.returns
  have hlocks := B.notSynchronized
  have hts0 := atoms_spec (ws := Cond.code yI_gc prog_20_method_12_code 7 (some .int) :: TB) B.pre
  have hts : ∀ x ∈ TB, x.before [.int (nI w), .int (nI q), .ref v].toArray s = true := fun x hw => hts0 x (List.mem_cons_of_mem _ hw)
  have hown : s.vm.findClass "java/lang/Integer" = some m.cls := findClass_of_methodNamed B.named
  have hl := lv_entry [.int (nI w), .int (nI q), .ref v] (n := 7) (Nat.le_of_ble_eq_true rfl)
  rw [lg_entry_eq]
  generalize (lg_sl [.int (nI w), .int (nI q), .ref v] ++ List.replicate (7 - (lg_sl [.int (nI w), .int (nI q), .ref v]).length) Slot.unset).toArray = ls at hl ⊢
  have hl : lv_has ls 7 [(0, .int (nI w)), (1, .int (nI q)), (2, .ref v)] := hl
  obtain ⟨g1, g2, g3, g4, g5⟩ := n10 hw
  refine lv_iload_n hx hb (by decide +kernel : decode prog_20_method_12_code 0 = .ok (.iload_n 1, 1)) rfl (lv_at hl 1 rfl) ?_
  refine lv_istore hx hb (by decide +kernel : decode prog_20_method_12_code 1 = .ok (.istore 5, 2)) hl (by omega) rfl fun ls hl => ?_
  replace hl : lv_has ls 7 [(5, .int (nI q)), (0, .int (nI w)), (1, .int (nI q)), (2, .ref v)] := hl
  refine lv_iload_n hx hb (by decide +kernel : decode prog_20_method_12_code 3 = .ok (.iload_n 0, 1)) rfl (lv_at hl 1 rfl) ?_
  refine lv_if_ge (tgt := 11) hx hb (by decide +kernel : decode prog_20_method_12_code 4 = .ok (.ifCond .ge 7, 3)) (by first | decide | rfl) (fun _ => ?_) (fun h => absurd (nI_pos' (by omega)) h)
  refine lv_iconst (v := 0) hx hb (by decide +kernel : decode prog_20_method_12_code 11 = .ok (.iconst 0, 1)) (by decide) ?_
  refine lv_istore hx hb (by decide +kernel : decode prog_20_method_12_code 12 = .ok (.istore 6, 2)) hl (by omega) rfl fun ls hl => ?_
  replace hl : lv_has ls 7 [(6, .int 0), (5, .int (nI q)), (0, .int (nI w)), (1, .int (nI q)), (2, .ref v)] := hl
  refine lv_iload hx hb (by decide +kernel : decode prog_20_method_12_code 14 = .ok (.iload 6, 2)) (lv_at hl 0 rfl) ?_
  refine lv_if_ne (tgt := 22) hx hb (by decide +kernel : decode prog_20_method_12_code 16 = .ok (.ifCond .ne 6, 3)) (by first | decide | rfl) (fun h => absurd rfl h) (fun _ => ?_)
  refine lv_iload_n hx hb (by decide +kernel : decode prog_20_method_12_code 19 = .ok (.iload_n 0, 1)) rfl (lv_at hl 2 rfl) ?_
  refine lv_ineg hx hb (by decide +kernel : decode prog_20_method_12_code 20 = .ok (.ineg, 1)) ?_
  refine lv_istore_n hx hb (by decide +kernel : decode prog_20_method_12_code 21 = .ok (.istore_n 0, 1)) rfl hl (by omega) rfl fun ls hl => ?_
  replace hl : lv_has ls 7 [(0, .int (-(nI w))), (6, .int 0), (5, .int (nI q)), (1, .int (nI q)), (2, .ref v)] := hl
  refine lv_iload_n hx hb (by decide +kernel : decode prog_20_method_12_code 22 = .ok (.iload_n 0, 1)) rfl (lv_at hl 0 rfl) ?_
  refine lv_bipush (v := (-100)) hx hb (by decide +kernel : decode prog_20_method_12_code 23 = .ok (.bipush (-100), 2)) (by decide) ?_
  refine lv_icmp_gt (tgt := 72) hx hb (by decide +kernel : decode prog_20_method_12_code 25 = .ok (.if_icmp .gt 47, 3)) (by first | decide | rfl) (fun _ => ?_) (fun h => absurd (g2) h)
  refine lv_aload_n hx hb (by decide +kernel : decode prog_20_method_12_code 72 = .ok (.aload_n 2, 1)) rfl (lv_at hl 4 rfl) ?_
  refine lv_iinc hx hb (by decide +kernel : decode prog_20_method_12_code 73 = .ok (.iinc 5 (-1), 3)) hl (k := 2) rfl (n_dec hq hq2) (by omega) rfl fun ls hl => ?_
  replace hl : lv_has ls 7 [(5, .int (nI (q - 1))), (0, .int (-(nI w))), (6, .int 0), (1, .int (nI q)), (2, .ref v)] := hl
  refine lv_iload hx hb (by decide +kernel : decode prog_20_method_12_code 76 = .ok (.iload 5, 2)) (lv_at hl 0 rfl) ?_
  obtain ⟨cf, kf, fi, f9, q9, cell9, z1, z2, z3, z4, z5, z6, z7, z8⟩ := hRB.2.1
  refine W.gets hx hb hown (hts _ (tb_at (h := 6081) (by decide +kernel : tat 6081 (.fieldLink "java/lang/Integer" 83 "java/lang/Integer" "DigitOnes" "[B") = true))) z1 z2 z3 z4 z5 (fun y => by rw [y] at z6; cases z6) z7 rfl (by decide +kernel : decode prog_20_method_12_code 78 = .ok (.getstatic 83, 3)) ?_
  refine lv_iload_n hx hb (by decide +kernel : decode prog_20_method_12_code 81 = .ok (.iload_n 0, 1)) rfl (lv_at hl 1 rfl) ?_
  refine lv_ineg hx hb (by decide +kernel : decode prog_20_method_12_code 82 = .ok (.ineg, 1)) ?_
  rw [show -(-(nI w)) = nI w from Int32.neg_neg]
  obtain ⟨cell3, y1, y2, y3, y4, y5, y6, y7⟩ := hRB.2.2
  refine W.bald (v := .int (dg1 w)) hx hb y1 y2 y3 (fun z => z.elim (nI_pos (by omega)) (fun z => by rw [nI_clamp (by omega)] at z; omega)) (by rw [nI_clamp (by omega), y6 w (by omega)]) rfl rfl (by decide +kernel : decode prog_20_method_12_code 83 = .ok (.baload, 1)) ?_
  rw [g5]
  refine b_bst (k := q - 1) hx hb hK hB (by omega) g4 (by decide +kernel : decode prog_20_method_12_code 84 = .ok (.bastore, 1)) fun H1 z e1 e2 e3 => ?_
  refine lv_iload_n hx hb (by decide +kernel : decode prog_20_method_12_code 85 = .ok (.iload_n 0, 1)) rfl (lv_at hl 1 rfl) ?_
  refine lv_bipush (v := (-9)) hx hb (by decide +kernel : decode prog_20_method_12_code 86 = .ok (.bipush (-9), 2)) (by decide) ?_
  refine lv_icmp_ge (tgt := 104) hx hb (by decide +kernel : decode prog_20_method_12_code 88 = .ok (.if_icmp .ge 16, 3)) (by first | decide | rfl) (fun _ => ?_) (fun h => absurd (g3) h)
  refine lv_iload hx hb (by decide +kernel : decode prog_20_method_12_code 104 = .ok (.iload 6, 2)) (lv_at hl 2 rfl) ?_
  refine lv_if_eq (tgt := 118) hx hb (by decide +kernel : decode prog_20_method_12_code 106 = .ok (.ifCond .eq 12, 3)) (by first | decide | rfl) (fun _ => ?_) (fun h => absurd (rfl) h)
  refine lv_iload hx hb (by decide +kernel : decode prog_20_method_12_code 118 = .ok (.iload 5, 2)) (lv_at hl 0 rfl) ?_
  exact W.iret hx hb hr (fun t ht _ => ⟨rfl, by rw [ht]; exact e2, by rw [ht]; exact fun q c hc hq => (e3 q hq).trans hc⟩) (fun q hq => by rw [List.mem_singleton.mp hq]; exact e1) (by decide +kernel : decode prog_20_method_12_code 120 = .ok (.ireturn, 1))
theorem m_A_api (l : Launch) (hbd : b0 ≤ bd) (hvb : b0 ≤ v) {w : Nat} (hw : w < 10) (hn : n + 1 ≤ 16) : Met l yA_api (Cond.code yA_api prog_14_method_32_code 4 (some (.object "java/lang/AbstractStringBuilder")) :: TB) (rmB 1 40 0 0) (PB DB dB b0 adK adV adT adD bd v n f [.ref bd, .int (nI w)]) (QB DB dB bd v (n + 1) (fun j => if j = n then nI (48 + w) else f j) (some (.ref bd))) 0 0 (FB bd v) := by
  refine va_MetF (cc := prog_14_method_32_code) (maxL := 4) (ret := (some (.object "java/lang/AbstractStringBuilder"))) (by decide) rfl ?_
  intro p e s m args below meth c s₁ B hml hv0
  obtain ⟨rfl, hK, hB, hRB⟩ := hv0
  have hx := B.exec
  have hb := B.bytes
  have hr := B.returns
  have hlocks := B.notSynchronized
  have hts0 := atoms_spec (ws := Cond.code yA_api prog_14_method_32_code 4 (some (.object "java/lang/AbstractStringBuilder")) :: TB) B.pre
  have hts : ∀ x ∈ TB, x.before [.ref bd, .int (nI w)].toArray s = true := fun x hw => hts0 x (List.mem_cons_of_mem _ hw)
  have hown : s.vm.findClass "java/lang/AbstractStringBuilder" = some m.cls := findClass_of_methodNamed B.named
  have hl := lv_entry [.ref bd, .int (nI w)] (n := 4) (Nat.le_of_ble_eq_true rfl)
  rw [lg_entry_eq]
  generalize (lg_sl [.ref bd, .int (nI w)] ++ List.replicate (4 - (lg_sl [.ref bd, .int (nI w)]).length) Slot.unset).toArray = ls at hl ⊢
  have hl : lv_has ls 4 [(0, .ref bd), (1, .int (nI w))] := hl
  have hJ := JB0 hB
  refine lv_aload_n hx hb (by decide +kernel : decode prog_14_method_32_code 0 = .ok (.aload_n 0, 1)) rfl (lv_at hl 0 rfl) ?_
  refine b_get (ix := 79) (k := 3) (fs := [.ref v, .int 0, .int 0, .int (nI n)]) (w := .int (nI n)) hx hb hts hown hK hJ.1.1 (by omega) (hts _ (tb_at (h := 5198) (by decide +kernel))) rfl (by decide +kernel : decode prog_14_method_32_code 1 = .ok (.getfield 79, 3)) ?_
  refine lv_istore_n hx hb (by decide +kernel : decode prog_14_method_32_code 4 = .ok (.istore_n 2, 1)) rfl hl (by omega) rfl fun ls hl => ?_
  replace hl : lv_has ls 4 [(2, .int (nI n)), (0, .ref bd), (1, .int (nI w))] := hl
  refine lv_iload_n hx hb (by decide +kernel : decode prog_14_method_32_code 5 = .ok (.iload_n 2, 1)) rfl (lv_at hl 0 rfl) ?_
  refine lv_iload_n hx hb (by decide +kernel : decode prog_14_method_32_code 6 = .ok (.iload_n 1, 1)) rfl (lv_at hl 2 rfl) ?_
  refine r_callRQ (va_runS (own := "java/lang/AbstractStringBuilder") (index := 245) (y := yI_ss) (As := [.int (nI w)]) (rest := [.int (nI n)]) ⟨hx, hb, hml, hown, hts⟩ (m_I_ss l hw) ⟨callB_of 1 hts (gw_code (tb_at (h := 6077) (by decide +kernel))) rfl rfl rfl (hts _ (tb_at (h := 1027) (by decide +kernel))) (hts _ (tb_at (h := 6075) (by decide +kernel))) (by decide +kernel) ⟨Nat.le_of_ble_eq_true rfl, Nat.le_of_ble_eq_true rfl⟩, hts _ (tb_at (h := 6076) (by decide +kernel))⟩ ⟨PN_blind, fun U _ _ => PN_at U⟩ rfl rfl hl.1 rfl (lv_room (Nat.le_of_ble_eq_true rfl)) (by decide +kernel : decode prog_14_method_32_code 7 = .ok (.invokestatic 245, 3)) ⟨Nat.le_refl _, Nat.le_refl _⟩) ?_
  refine lv_iadd hx hb (by decide +kernel : decode prog_14_method_32_code 10 = .ok (.iadd, 1)) ?_
  rw [show nI n + 1 = nI (n + 1) from nI_add n 1]
  refine lv_istore_n hx hb (by decide +kernel : decode prog_14_method_32_code 11 = .ok (.istore_n 3, 1)) rfl hl (by omega) rfl fun ls hl => ?_
  replace hl : lv_has ls 4 [(3, .int (nI (n + 1))), (2, .int (nI n)), (0, .ref bd), (1, .int (nI w))] := hl
  refine lv_aload_n hx hb (by decide +kernel : decode prog_14_method_32_code 12 = .ok (.aload_n 0, 1)) rfl (lv_at hl 2 rfl) ?_
  refine lv_iload_n hx hb (by decide +kernel : decode prog_14_method_32_code 13 = .ok (.iload_n 3, 1)) rfl (lv_at hl 0 rfl) ?_
  refine b_call (va_runV (own := "java/lang/AbstractStringBuilder") (C := "java/lang/StringBuilder") (index := 100) (y := yA_ens) (As := [.int (nI (n + 1))]) (rest := []) ⟨hx, hb, hml, hown, hts⟩ (m_A_ens l hbd hvb hn) ⟨callB_of 1 hts (gw_code (tb_at (h := 5223) (by decide +kernel))) rfl rfl rfl (hts _ (tb_at (h := 1022) (by decide +kernel))) (hts _ (tb_at (h := 5220) (by decide +kernel))) (by decide +kernel) ⟨Nat.le_of_ble_eq_true rfl, Nat.le_of_ble_eq_true rfl⟩, hts _ (tb_at (h := 5222) (by decide +kernel)), hK.sel (by decide +kernel)⟩ ⟨PB_blind, b_recv hK hJ.1, fun U hU hW => PB_at hK hJ.1 (RB_J hRB hJ hbd hvb) U hU hW⟩ rfl rfl hl.1 rfl (lv_room (Nat.le_of_ble_eq_true rfl)) (by decide +kernel : decode prog_14_method_32_code 14 = .ok (.invokevirtual 100, 3)) ⟨Nat.le_refl _, Nat.le_refl _⟩) hJ fun H1 locs1 hJ => ?_
  refine lv_aload_n hx hb (by decide +kernel : decode prog_14_method_32_code 17 = .ok (.aload_n 0, 1)) rfl (lv_at hl 2 rfl) ?_
  refine b_call (va_runV (own := "java/lang/AbstractStringBuilder") (C := "java/lang/StringBuilder") (index := 83) (y := yA_isL) (As := []) (rest := []) ⟨hx, hb, hml, hown, hts⟩ (m_A_isL l hbd hvb) ⟨callB_of 0 hts (gw_code (tb_at (h := 6017) (by decide +kernel))) rfl rfl rfl (hts _ (tb_at (h := 1022) (by decide +kernel))) (hts _ (tb_at (h := 6013) (by decide +kernel))) (by decide +kernel) ⟨Nat.le_of_ble_eq_true rfl, Nat.le_of_ble_eq_true rfl⟩, hts _ (tb_at (h := 6014) (by decide +kernel)), hts _ (tb_at (h := 6016) (by decide +kernel))⟩ ⟨PB_blind, b_recv hK hJ.1, fun U hU hW => PB_at hK hJ.1 (RB_J hRB hJ hbd hvb) U hU hW⟩ rfl rfl hl.1 rfl (lv_room (Nat.le_of_ble_eq_true rfl)) (by decide +kernel : decode prog_14_method_32_code 18 = .ok (.invokevirtual 83, 3)) ⟨Nat.le_refl _, Nat.le_refl _⟩) hJ fun H1 locs1 hJ => ?_
  refine lv_if_eq (tgt := 37) hx hb (by decide +kernel : decode prog_14_method_32_code 21 = .ok (.ifCond .eq 16, 3)) (by first | decide | rfl) (fun h => absurd h (by decide)) (fun _ => ?_)
  refine lv_iload_n hx hb (by decide +kernel : decode prog_14_method_32_code 24 = .ok (.iload_n 1, 1)) rfl (lv_at hl 3 rfl) ?_
  refine lv_iload_n hx hb (by decide +kernel : decode prog_14_method_32_code 25 = .ok (.iload_n 3, 1)) rfl (lv_at hl 0 rfl) ?_
  refine lv_aload_n hx hb (by decide +kernel : decode prog_14_method_32_code 26 = .ok (.aload_n 0, 1)) rfl (lv_at hl 2 rfl) ?_
  refine b_get (ix := 15) (k := 0) (fs := [.ref v, .int 0, .int 0, .int (nI n)]) (w := .ref v) hx hb hts hown hK hJ.1.1 (by omega) (hts _ (tb_at (h := 5196) (by decide +kernel))) rfl (by decide +kernel : decode prog_14_method_32_code 27 = .ok (.getfield 15, 3)) ?_
  refine v_call (va_runS (own := "java/lang/AbstractStringBuilder") (index := 248) (y := yI_gc) (As := [.int (nI w), .int (nI (n + 1)), .ref v]) (rest := []) ⟨hx, hb, hml, hown, hts⟩ (m_I_gc l hw (by omega) hn) ⟨callB_of 3 hts (gw_code (tb_at (h := 6080) (by decide +kernel))) rfl rfl rfl (hts _ (tb_at (h := 1027) (by decide +kernel))) (hts _ (tb_at (h := 6078) (by decide +kernel))) (by decide +kernel) ⟨Nat.le_of_ble_eq_true rfl, Nat.le_of_ble_eq_true rfl⟩, hts _ (tb_at (h := 6079) (by decide +kernel))⟩ ⟨PV_blind, fun U hU hW => PV_at hK hJ.1.2.1 (RB_J hRB hJ hbd hvb) U hU hW⟩ rfl rfl hl.1 rfl (lv_room (Nat.le_of_ble_eq_true rfl)) (by decide +kernel : decode prog_14_method_32_code 30 = .ok (.invokestatic 248, 3)) ⟨Nat.le_refl _, Nat.le_refl _⟩) hJ fun H1 locs1 hJ => ?_
  refine lv_pop hx hb (by decide +kernel : decode prog_14_method_32_code 33 = .ok (.pop, 1)) rfl ?_
  refine lv_goto (tgt := 48) hx hb (by decide +kernel : decode prog_14_method_32_code 34 = .ok (.goto 14, 3)) (by first | decide | rfl) ?_
  refine lv_aload_n hx hb (by decide +kernel : decode prog_14_method_32_code 48 = .ok (.aload_n 0, 1)) rfl (lv_at hl 2 rfl) ?_
  refine lv_iload_n hx hb (by decide +kernel : decode prog_14_method_32_code 49 = .ok (.iload_n 3, 1)) rfl (lv_at hl 0 rfl) ?_
  refine b_cnt (k := n + 1) hx hb hts hown hK hJ (by decide +kernel : decode prog_14_method_32_code 50 = .ok (.putfield 79, 3)) fun H1 locs1 hJ => ?_
  refine lv_aload_n hx hb (by decide +kernel : decode prog_14_method_32_code 53 = .ok (.aload_n 0, 1)) rfl (lv_at hl 2 rfl) ?_
  exact W.aret hx hb hr (Or.inl ⟨_, rfl⟩) (Or.inr ⟨_, rfl⟩) (fun t ht _ => ⟨rfl, by rw [ht]; exact hJ.1, by rw [ht]; exact hJ.2.1⟩) hJ.2.2 (by decide +kernel : decode prog_14_method_32_code 54 = .ok (.areturn, 1))
theorem m_B_api (l : Launch) (hbd : b0 ≤ bd) (hvb : b0 ≤ v) {w : Nat} (hw : w < 10) (hn : n + 1 ≤ 16) : Met l yB_api (Cond.code yB_api prog_25_method_15_code 2 (some (.object "java/lang/StringBuilder")) :: TB) (rmB 2 80 0 0) (PB DB dB b0 adK adV adT adD bd v n f [.ref bd, .int (nI w)]) (QB DB dB bd v (n + 1) (fun j => if j = n then nI (48 + w) else f j) (some (.ref bd))) 0 0 (FB bd v) := by
  refine va_MetF (cc := prog_25_method_15_code) (maxL := 2) (ret := (some (.object "java/lang/StringBuilder"))) (by decide) rfl ?_
  intro p e s m args below meth c s₁ B hml hv0
  obtain ⟨rfl, hK, hB, hRB⟩ := hv0
  have hx := B.exec
  have hb := B.bytes
  have hr := B.returns
  have hlocks := B.notSynchronized
  have hts0 := atoms_spec (ws := Cond.code yB_api prog_25_method_15_code 2 (some (.object "java/lang/StringBuilder")) :: TB) B.pre
  have hts : ∀ x ∈ TB, x.before [.ref bd, .int (nI w)].toArray s = true := fun x hw => hts0 x (List.mem_cons_of_mem _ hw)
  have hown : s.vm.findClass "java/lang/StringBuilder" = some m.cls := findClass_of_methodNamed B.named
  have hl := lv_entry [.ref bd, .int (nI w)] (n := 2) (Nat.le_of_ble_eq_true rfl)
  rw [lg_entry_eq]
  generalize (lg_sl [.ref bd, .int (nI w)] ++ List.replicate (2 - (lg_sl [.ref bd, .int (nI w)]).length) Slot.unset).toArray = ls at hl ⊢
  have hl : lv_has ls 2 [(0, .ref bd), (1, .int (nI w))] := hl
  have hJ := JB0 hB
  refine lv_aload_n hx hb (by decide +kernel : decode prog_25_method_15_code 0 = .ok (.aload_n 0, 1)) rfl (lv_at hl 0 rfl) ?_
  refine lv_iload_n hx hb (by decide +kernel : decode prog_25_method_15_code 1 = .ok (.iload_n 1, 1)) rfl (lv_at hl 1 rfl) ?_
  refine b_call (va_runSU (own := "java/lang/StringBuilder") (C := "java/lang/StringBuilder") (index := 53) (y := yA_api) (As := [.int (nI w)]) (rest := []) hK.1.2 ⟨hx, hb, hml, hown, hts⟩ (m_A_api l hbd hvb hw hn) (va_cwSU 1 hts (gwSU (tb_at (h := 6072) (by decide +kernel)) (tb_at (h := 10082) (by decide +kernel)) (tb_at (h := 5207) (by decide +kernel)) (tb_at (h := 6073) (by decide +kernel)) (tb_at (h := 1022) (by decide +kernel)) (tb_at (h := 6074) (by decide +kernel))) rfl rfl rfl (by decide +kernel) ⟨Nat.le_of_ble_eq_true rfl, Nat.le_of_ble_eq_true rfl⟩) ⟨PB_blind, b_recv hK hJ.1, fun U hU hW => PB_at hK hJ.1 (RB_J hRB hJ hbd hvb) U hU hW⟩ rfl rfl hl.1 rfl (lv_room (Nat.le_of_ble_eq_true rfl)) (by decide +kernel : decode prog_25_method_15_code 2 = .ok (.invokespecial 53, 3)) ⟨Nat.le_refl _, Nat.le_refl _⟩) hJ fun H1 locs1 hJ => ?_
  refine lv_pop hx hb (by decide +kernel : decode prog_25_method_15_code 5 = .ok (.pop, 1)) rfl ?_
  refine lv_aload_n hx hb (by decide +kernel : decode prog_25_method_15_code 6 = .ok (.aload_n 0, 1)) rfl (lv_at hl 0 rfl) ?_
  exact W.aret hx hb hr (Or.inl ⟨_, rfl⟩) (Or.inr ⟨_, rfl⟩) (fun t ht _ => ⟨rfl, by rw [ht]; exact hJ.1, by rw [ht]; exact hJ.2.1⟩) hJ.2.2 (by decide +kernel : decode prog_25_method_15_code 7 = .ok (.areturn, 1))
theorem m_S_gb (l : Launch) (hvb : b0 ≤ v) {i : Nat} (hi : i < 26) (hn : n + lenS.getD i 0 ≤ 16) : Met l yS_gb (Cond.code yS_gb prog_24_method_147_code 4 none :: TB) (rmB 1 40 0 0) (PV DB dB b0 adK adV adT adD v f [.ref (adK i), .ref v, .int (nI n), .int 0]) (QV dB v (va_cpy (fun j => (bytS.getD i []).getD j 0) f 0 n (lenS.getD i 0)) none) 0 0 (fun q => q = v) := by
  refine va_MetF (cc := prog_24_method_147_code) (maxL := 4) (ret := none) (by decide) rfl ?_
  intro p e s m args below meth c s₁ B hml hv0
  obtain ⟨rfl, hK, hB, hRB⟩ := hv0
  have hx := B.exec
  have hb := B.bytes
  have hr := B.returns
  have hlocks := B.notSynchronized
  have hts0 := atoms_spec (ws := Cond.code yS_gb prog_24_method_147_code 4 none :: TB) B.pre
  have hts : ∀ x ∈ TB, x.before [.ref (adK i), .ref v, .int (nI n), .int 0].toArray s = true := fun x hw => hts0 x (List.mem_cons_of_mem _ hw)
  have hown : s.vm.findClass "java/lang/String" = some m.cls := findClass_of_methodNamed B.named
  have hl := lv_entry [.ref (adK i), .ref v, .int (nI n), .int 0] (n := 4) (Nat.le_of_ble_eq_true rfl)
  rw [lg_entry_eq]
  generalize (lg_sl [.ref (adK i), .ref v, .int (nI n), .int 0] ++ List.replicate (4 - (lg_sl [.ref (adK i), .ref v, .int (nI n), .int 0]).length) Slot.unset).toArray = ls at hl ⊢
  have hl : lv_has ls 4 [(0, .ref (adK i)), (1, .ref v), (2, .int (nI n)), (3, .int 0)] := hl
  have hO := RB_RO hRB
  obtain ⟨cellK, k1, k2', k3, -⟩ := (hO.1.1 i hi).1
  obtain ⟨cf2, kk2, i2, f2, cell2, h1, h2, h3, h4, h5, h6⟩ := (hO.1.1 i hi).2.2.1
  obtain ⟨cell3, g1, g2, g3, g4, g5, g6, g7⟩ := (hO.1.1 i hi).2.2.2
  refine lv_aload_n hx hb (by decide +kernel : decode prog_24_method_147_code 0 = .ok (.aload_n 0, 1)) rfl (lv_at hl 0 rfl) ?_
  refine r_callRQ (va_runV (own := "java/lang/String") (C := "java/lang/String") (index := 335) (y := yS_coder) (As := []) (rest := []) ⟨hx, hb, hml, hown, hts⟩ (m_coder l hi) ⟨callB_of 0 hts (gw_code (tb_at (h := 3029) (by decide +kernel))) rfl rfl rfl (hts _ (tb_at (h := 1012) (by decide +kernel))) (hts _ (tb_at (h := 3026) (by decide +kernel))) (by decide +kernel) ⟨Nat.le_of_ble_eq_true rfl, Nat.le_of_ble_eq_true rfl⟩, hts _ (tb_at (h := 3027) (by decide +kernel)), hts _ (tb_at (h := 3028) (by decide +kernel))⟩ ⟨PS_blind, ⟨cellK, k1, k2', k3⟩, fun U hU hW => PS_at hO U hU hW⟩ rfl rfl hl.1 rfl (lv_room (Nat.le_of_ble_eq_true rfl)) (by decide +kernel : decode prog_24_method_147_code 1 = .ok (.invokevirtual 335, 3)) ⟨Nat.le_refl _, Nat.le_refl _⟩) ?_
  refine lv_iload_n hx hb (by decide +kernel : decode prog_24_method_147_code 4 = .ok (.iload_n 3, 1)) rfl (lv_at hl 3 rfl) ?_
  refine lv_icmp_ne (tgt := 28) hx hb (by decide +kernel : decode prog_24_method_147_code 5 = .ok (.if_icmp .ne 23, 3)) (by first | decide | rfl) (fun h => absurd rfl h) (fun _ => ?_)
  refine lv_aload_n hx hb (by decide +kernel : decode prog_24_method_147_code 8 = .ok (.aload_n 0, 1)) rfl (lv_at hl 0 rfl) ?_
  refine W.getf hx hb hown (hts _ (tb_at (h := 10101) (by decide +kernel : tat 10101 (.fieldLink "java/lang/String" 9 "java/lang/String" "value" "[B") = true))) h1 h2 h3 h4 (v := .ref (adV i)) h5 rfl rfl (by decide +kernel : decode prog_24_method_147_code 9 = .ok (.getfield 9, 3)) ?_
  refine lv_iconst (v := 0) hx hb (by decide +kernel : decode prog_24_method_147_code 12 = .ok (.iconst 0, 1)) (by decide) ?_
  refine lv_aload_n hx hb (by decide +kernel : decode prog_24_method_147_code 13 = .ok (.aload_n 1, 1)) rfl (lv_at hl 1 rfl) ?_
  refine lv_iload_n hx hb (by decide +kernel : decode prog_24_method_147_code 14 = .ok (.iload_n 2, 1)) rfl (lv_at hl 2 rfl) ?_
  refine lv_iload_n hx hb (by decide +kernel : decode prog_24_method_147_code 15 = .ok (.iload_n 3, 1)) rfl (lv_at hl 3 rfl) ?_
  refine lv_ishl hx hb (by decide +kernel : decode prog_24_method_147_code 16 = .ok (.ishl, 1)) ?_
  rw [(n17 (by omega : n ≤ 16)).2]
  refine lv_aload_n hx hb (by decide +kernel : decode prog_24_method_147_code 17 = .ok (.aload_n 0, 1)) rfl (lv_at hl 0 rfl) ?_
  refine W.getf hx hb hown (hts _ (tb_at (h := 10101) (by decide +kernel : tat 10101 (.fieldLink "java/lang/String" 9 "java/lang/String" "value" "[B") = true))) h1 h2 h3 h4 (v := .ref (adV i)) h5 rfl rfl (by decide +kernel : decode prog_24_method_147_code 18 = .ok (.getfield 9, 3)) ?_
  refine W.alen hx hb g1 g2 g5 rfl rfl (by decide +kernel : decode prog_24_method_147_code 21 = .ok (.arraylength, 1)) ?_
  have hb32 := (gb_eq i hi).1
  have hcn : (nI n).toNatClampNeg = n := nI_clamp (by omega)
  have hcl : (Int32.ofNat (lenS.getD i 0)).toNatClampNeg = lenS.getD i 0 := nI_clamp (by omega)
  refine vk_copyt (own := "java/lang/String") (index := 212) (A := fun q => q = v) (ws := [(v, .inl (dB, (16, .inl f)))]) (D := DB) (cl := crB) (tys := [(dB, .byte)]) (f := fun j => (bytS.getD i []).getD j 0) (n0 := lenS.getD i 0) hx hb (hml.trans hl.1.symm) hown (hts _ (tb_at (h := 6066) (by decide +kernel))) (hts _ (tb_at (h := 3131) (by decide +kernel))) (hts _ (tb_at (h := 3130) (by decide +kernel))) (hts _ (tb_at (h := 1017) (by decide +kernel))) (BK_K hK) (fun k q hq => ?_) ⟨fun a b x y hx hy _ => ?_, fun k q hq => ?_⟩ ⟨Nat.le_refl _, fun _ _ _ => rfl, fun q hq => by cases hq⟩ (va_T.narrow (hRB.1.1.1 i hi).2.2.2 (fun q hq => by rw [hq]; first | done | exact hvb)) 0 0 rfl rfl (by decide) (nI_pos (by omega)) (nI_pos (by omega)) (by rw [hcl]; show 0 + _ ≤ _; omega) (by rw [hcn, hcl]; exact hn) (fun j hj => ?_) (Nat.le_of_ble_eq_true rfl) (Nat.le_of_ble_eq_true rfl) (by decide +kernel : decode prog_24_method_147_code 22 = .ok (.invokestatic 212, 3)) fun H1 locs1 e1 e2 e3 => ?_
  · have hz : k < 1 := (List.getElem?_eq_some_iff.mp hq).1
    rw [show k = 0 by omega] at hq
    cases hq
    exact hB
  · have h1 : a < 1 := (List.getElem?_eq_some_iff.mp hx).1
    have h2 : b < 1 := (List.getElem?_eq_some_iff.mp hy).1
    omega
  · have hz : k < 1 := (List.getElem?_eq_some_iff.mp hq).1
    rw [show k = 0 by omega] at hq
    cases hq
    rfl
  · rw [hcl] at hj
    have := (gb_eq i hi).2 j hj
    show fits .byte (.int ((bytS.getD i []).getD (0 + j) 0)) = true
    rwa [Nat.zero_add]
  refine lv_goto (tgt := 43) hx hb (by decide +kernel : decode prog_24_method_147_code 25 = .ok (.goto 18, 3)) (by first | decide | rfl) ?_
  have e4 : H1[v]? = some (arrV dB 16 (fun j => .int ((va_cpy (fun j => (bytS.getD i []).getD j 0) f 0 n (lenS.getD i 0)) j))) := by
    have e5 := e1 0 _ rfl
    rw [hcn, hcl] at e5
    exact e5
  have hls : ∀ q ∈ locs1, q.base = v := e3.2.2
  have hfr : ∀ (q : Nat) (c : Cell), s.heap[q]? = some c → q ≠ v → H1[q]? = some c := fun q c hc hq => (e3.2.1 q (Array.getElem?_eq_some_iff.mp hc).1 hq).trans hc
  exact W.vret hx hb hr (fun t ht _ => ⟨rfl, by rw [ht]; exact e4, by rw [ht]; exact hfr⟩) hls (by decide +kernel : decode prog_24_method_147_code 43 = .ok (.return_, 1))
theorem m_A_inf (l : Launch) (hbd : b0 ≤ bd) (hvb : b0 ≤ v) {i : Nat} (hi : i < 26) : Met l yA_inf (Cond.code yA_inf prog_14_method_71_code 2 none :: TB) (rmB 1 40 0 0) (PB DB dB b0 adK adV adT adD bd v n f [.ref bd, .ref (adK i)]) (QB DB dB bd v (n) (f) none) 0 0 (FB bd v) := by
  refine va_MetF (cc := prog_14_method_71_code) (maxL := 2) (ret := none) (by decide) rfl ?_
  intro p e s m args below meth c s₁ B hml hv0
  obtain ⟨rfl, hK, hB, hRB⟩ := hv0
  have hx := B.exec
  have hb := B.bytes
  have hr := B.returns
  have hlocks := B.notSynchronized
  have hts0 := atoms_spec (ws := Cond.code yA_inf prog_14_method_71_code 2 none :: TB) B.pre
  have hts : ∀ x ∈ TB, x.before [.ref bd, .ref (adK i)].toArray s = true := fun x hw => hts0 x (List.mem_cons_of_mem _ hw)
  have hown : s.vm.findClass "java/lang/AbstractStringBuilder" = some m.cls := findClass_of_methodNamed B.named
  have hl := lv_entry [.ref bd, .ref (adK i)] (n := 2) (Nat.le_of_ble_eq_true rfl)
  rw [lg_entry_eq]
  generalize (lg_sl [.ref bd, .ref (adK i)] ++ List.replicate (2 - (lg_sl [.ref bd, .ref (adK i)]).length) Slot.unset).toArray = ls at hl ⊢
  have hl : lv_has ls 2 [(0, .ref bd), (1, .ref (adK i))] := hl
  have hJ := JB0 hB
  have hO := RB_RO hRB
  obtain ⟨cellK, k1, k2', k3, -⟩ := (hO.1.1 i hi).1
  obtain ⟨cf, kf, fi, f9, q9, cell9, z1, z2, z3, z4, z5, z6, z7, z8⟩ := (RB_J hRB hJ hbd hvb).1.2.2.1
  refine W.gets hx hb hown (hts _ (tb_at (h := 5188) (by decide +kernel : tat 5188 (.fieldLink "java/lang/AbstractStringBuilder" 18 "java/lang/String" "COMPACT_STRINGS" "Z") = true))) z1 z2 z3 z4 z5 (fun y => by rw [y] at z6; cases z6) z7 rfl (by decide +kernel : decode prog_14_method_71_code 0 = .ok (.getstatic 18, 3)) ?_
  refine lv_if_eq (tgt := 21) hx hb (by decide +kernel : decode prog_14_method_71_code 3 = .ok (.ifCond .eq 18, 3)) (by first | decide | rfl) (fun h => absurd h (by decide)) (fun _ => ?_)
  refine lv_aload_n hx hb (by decide +kernel : decode prog_14_method_71_code 6 = .ok (.aload_n 0, 1)) rfl (lv_at hl 0 rfl) ?_
  refine b_get (ix := 22) (k := 1) (fs := [.ref v, .int 0, .int 0, .int (nI n)]) (w := .int 0) hx hb hts hown hK hJ.1.1 (by omega) (hts _ (tb_at (h := 5197) (by decide +kernel))) rfl (by decide +kernel : decode prog_14_method_71_code 7 = .ok (.getfield 22, 3)) ?_
  refine lv_aload_n hx hb (by decide +kernel : decode prog_14_method_71_code 10 = .ok (.aload_n 1, 1)) rfl (lv_at hl 1 rfl) ?_
  refine r_callRQ (va_runV (own := "java/lang/AbstractStringBuilder") (C := "java/lang/String") (index := 40) (y := yS_coder) (As := []) (rest := [.int 0]) ⟨hx, hb, hml, hown, hts⟩ (m_coder l hi) ⟨callB_of 0 hts (gw_code (tb_at (h := 3029) (by decide +kernel))) rfl rfl rfl (hts _ (tb_at (h := 1012) (by decide +kernel))) (hts _ (tb_at (h := 6042) (by decide +kernel))) (by decide +kernel) ⟨Nat.le_of_ble_eq_true rfl, Nat.le_of_ble_eq_true rfl⟩, hts _ (tb_at (h := 3027) (by decide +kernel)), hts _ (tb_at (h := 3028) (by decide +kernel))⟩ ⟨PS_blind, ⟨cellK, k1, k2', k3⟩, fun U hU hW => PS_at hO U hU hW⟩ rfl rfl hl.1 rfl (lv_room (Nat.le_of_ble_eq_true rfl)) (by decide +kernel : decode prog_14_method_71_code 11 = .ok (.invokevirtual 40, 3)) ⟨Nat.le_refl _, Nat.le_refl _⟩) ?_
  refine lv_icmp_eq (tgt := 21) hx hb (by decide +kernel : decode prog_14_method_71_code 14 = .ok (.if_icmp .eq 7, 3)) (by first | decide | rfl) (fun _ => ?_) (fun h => absurd (rfl) h)
  exact W.vret hx hb hr (fun t ht _ => ⟨rfl, by rw [ht]; exact hJ.1, by rw [ht]; exact hJ.2.1⟩) hJ.2.2 (by decide +kernel : decode prog_14_method_71_code 21 = .ok (.return_, 1))
theorem m_A_put (l : Launch) (hbd : b0 ≤ bd) (hvb : b0 ≤ v) {i : Nat} (hi : i < 26) (hn : n + lenS.getD i 0 ≤ 16) : Met l yA_put (Cond.code yA_put prog_14_method_73_code 3 none :: TB) (rmB 2 80 0 0) (PB DB dB b0 adK adV adT adD bd v n f [.ref bd, .int (nI n), .ref (adK i)]) (QB DB dB bd v (n) (va_cpy (fun j => (bytS.getD i []).getD j 0) f 0 n (lenS.getD i 0)) none) 0 0 (FB bd v) := by
  refine va_MetF (cc := prog_14_method_73_code) (maxL := 3) (ret := none) (by decide) rfl ?_
  intro p e s m args below meth c s₁ B hml hv0
  obtain ⟨rfl, hK, hB, hRB⟩ := hv0
  have hx := B.exec
  have hb := B.bytes
  have hr := B.returns
  have hlocks := B.notSynchronized
  have hts0 := atoms_spec (ws := Cond.code yA_put prog_14_method_73_code 3 none :: TB) B.pre
  have hts : ∀ x ∈ TB, x.before [.ref bd, .int (nI n), .ref (adK i)].toArray s = true := fun x hw => hts0 x (List.mem_cons_of_mem _ hw)
  have hown : s.vm.findClass "java/lang/AbstractStringBuilder" = some m.cls := findClass_of_methodNamed B.named
  have hl := lv_entry [.ref bd, .int (nI n), .ref (adK i)] (n := 3) (Nat.le_of_ble_eq_true rfl)
  rw [lg_entry_eq]
  generalize (lg_sl [.ref bd, .int (nI n), .ref (adK i)] ++ List.replicate (3 - (lg_sl [.ref bd, .int (nI n), .ref (adK i)]).length) Slot.unset).toArray = ls at hl ⊢
  have hl : lv_has ls 3 [(0, .ref bd), (1, .int (nI n)), (2, .ref (adK i))] := hl
  have hJ := JB0 hB
  have hO := RB_RO hRB
  obtain ⟨cellK, k1, k2', k3, -⟩ := (hRB.1.1.1 i hi).1
  refine lv_aload_n hx hb (by decide +kernel : decode prog_14_method_73_code 0 = .ok (.aload_n 0, 1)) rfl (lv_at hl 0 rfl) ?_
  refine lv_aload_n hx hb (by decide +kernel : decode prog_14_method_73_code 1 = .ok (.aload_n 2, 1)) rfl (lv_at hl 2 rfl) ?_
  refine b_call (va_runV (own := "java/lang/AbstractStringBuilder") (C := "java/lang/StringBuilder") (index := 397) (y := yA_inf) (As := [.ref (adK i)]) (rest := []) ⟨hx, hb, hml, hown, hts⟩ (m_A_inf l hbd hvb hi) ⟨callB_of 1 hts (gw_code (tb_at (h := 6041) (by decide +kernel))) rfl rfl rfl (hts _ (tb_at (h := 1022) (by decide +kernel))) (hts _ (tb_at (h := 6038) (by decide +kernel))) (by decide +kernel) ⟨Nat.le_of_ble_eq_true rfl, Nat.le_of_ble_eq_true rfl⟩, hts _ (tb_at (h := 6040) (by decide +kernel)), hK.sel (by decide +kernel)⟩ ⟨PB_blind, b_recv hK hJ.1, fun U hU hW => PB_at hK hJ.1 (RB_J hRB hJ hbd hvb) U hU hW⟩ rfl rfl hl.1 rfl (lv_room (Nat.le_of_ble_eq_true rfl)) (by decide +kernel : decode prog_14_method_73_code 2 = .ok (.invokevirtual 397, 3)) ⟨Nat.le_refl _, Nat.le_refl _⟩) hJ fun H1 locs1 hJ => ?_
  refine lv_aload_n hx hb (by decide +kernel : decode prog_14_method_73_code 5 = .ok (.aload_n 2, 1)) rfl (lv_at hl 2 rfl) ?_
  refine lv_aload_n hx hb (by decide +kernel : decode prog_14_method_73_code 6 = .ok (.aload_n 0, 1)) rfl (lv_at hl 0 rfl) ?_
  refine b_get (ix := 15) (k := 0) (fs := [.ref v, .int 0, .int 0, .int (nI n)]) (w := .ref v) hx hb hts hown hK hJ.1.1 (by omega) (hts _ (tb_at (h := 5196) (by decide +kernel))) rfl (by decide +kernel : decode prog_14_method_73_code 7 = .ok (.getfield 15, 3)) ?_
  refine lv_iload_n hx hb (by decide +kernel : decode prog_14_method_73_code 10 = .ok (.iload_n 1, 1)) rfl (lv_at hl 1 rfl) ?_
  refine lv_aload_n hx hb (by decide +kernel : decode prog_14_method_73_code 11 = .ok (.aload_n 0, 1)) rfl (lv_at hl 0 rfl) ?_
  refine b_get (ix := 22) (k := 1) (fs := [.ref v, .int 0, .int 0, .int (nI n)]) (w := .int 0) hx hb hts hown hK hJ.1.1 (by omega) (hts _ (tb_at (h := 5197) (by decide +kernel))) rfl (by decide +kernel : decode prog_14_method_73_code 12 = .ok (.getfield 22, 3)) ?_
  obtain ⟨cellK, k1, k2', k3, -⟩ := ((RB_J hRB hJ hbd hvb).1.1.1 i hi).1
  refine v_call (va_runV (own := "java/lang/AbstractStringBuilder") (C := "java/lang/String") (index := 399) (y := yS_gb) (As := [.ref v, .int (nI n), .int 0]) (rest := []) ⟨hx, hb, hml, hown, hts⟩ (m_S_gb l hvb hi hn) ⟨callB_of 3 hts (gw_code (tb_at (h := 6065) (by decide +kernel))) rfl rfl rfl (hts _ (tb_at (h := 1012) (by decide +kernel))) (hts _ (tb_at (h := 6062) (by decide +kernel))) (by decide +kernel) ⟨Nat.le_of_ble_eq_true rfl, Nat.le_of_ble_eq_true rfl⟩, hts _ (tb_at (h := 6063) (by decide +kernel)), hts _ (tb_at (h := 6064) (by decide +kernel))⟩ ⟨PV_blind, ⟨cellK, k1, k2', k3⟩, fun U hU hW => PV_at hK hJ.1.2.1 (RB_J hRB hJ hbd hvb) U hU hW⟩ rfl rfl hl.1 rfl (lv_room (Nat.le_of_ble_eq_true rfl)) (by decide +kernel : decode prog_14_method_73_code 15 = .ok (.invokevirtual 399, 3)) ⟨Nat.le_refl _, Nat.le_refl _⟩) hJ fun H1 locs1 hJ => ?_
  exact W.vret hx hb hr (fun t ht _ => ⟨rfl, by rw [ht]; exact hJ.1, by rw [ht]; exact hJ.2.1⟩) hJ.2.2 (by decide +kernel : decode prog_14_method_73_code 18 = .ok (.return_, 1))
theorem m_A_aps (l : Launch) (hbd : b0 ≤ bd) (hvb : b0 ≤ v) {i : Nat} (hi : i < 26) (hn : n + lenS.getD i 0 ≤ 16) : Met l yA_aps (Cond.code yA_aps prog_14_method_22_code 3 (some (.object "java/lang/AbstractStringBuilder")) :: TB) (rmB 3 120 0 0) (PB DB dB b0 adK adV adT adD bd v n f [.ref bd, .ref (adK i)]) (QB DB dB bd v (n + lenS.getD i 0) (va_cpy (fun j => (bytS.getD i []).getD j 0) f 0 n (lenS.getD i 0)) (some (.ref bd))) 0 0 (FB bd v) := by
  refine va_MetF (cc := prog_14_method_22_code) (maxL := 3) (ret := (some (.object "java/lang/AbstractStringBuilder"))) (by decide) rfl ?_
  intro p e s m args below meth c s₁ B hml hv0
  obtain ⟨rfl, hK, hB, hRB⟩ := hv0
  have hx := B.exec
  have hb := B.bytes
  have hr := B.returns
  have hlocks := B.notSynchronized
  have hts0 := atoms_spec (ws := Cond.code yA_aps prog_14_method_22_code 3 (some (.object "java/lang/AbstractStringBuilder")) :: TB) B.pre
  have hts : ∀ x ∈ TB, x.before [.ref bd, .ref (adK i)].toArray s = true := fun x hw => hts0 x (List.mem_cons_of_mem _ hw)
  have hown : s.vm.findClass "java/lang/AbstractStringBuilder" = some m.cls := findClass_of_methodNamed B.named
  have hl := lv_entry [.ref bd, .ref (adK i)] (n := 3) (Nat.le_of_ble_eq_true rfl)
  rw [lg_entry_eq]
  generalize (lg_sl [.ref bd, .ref (adK i)] ++ List.replicate (3 - (lg_sl [.ref bd, .ref (adK i)]).length) Slot.unset).toArray = ls at hl ⊢
  have hl : lv_has ls 3 [(0, .ref bd), (1, .ref (adK i))] := hl
  have hJ := JB0 hB
  have hO := RB_RO hRB
  obtain ⟨cellK, k1, k2', k3, -⟩ := (hO.1.1 i hi).1
  refine lv_aload_n hx hb (by decide +kernel : decode prog_14_method_22_code 0 = .ok (.aload_n 1, 1)) rfl (lv_at hl 1 rfl) ?_
  refine lv_ifnonnull (tgt := 9) hx hb (by decide +kernel : decode prog_14_method_22_code 1 = .ok (.ifnonnull 8, 3)) (by decide) ?_
  refine lv_aload_n hx hb (by decide +kernel : decode prog_14_method_22_code 9 = .ok (.aload_n 1, 1)) rfl (lv_at hl 1 rfl) ?_
  refine r_callRQ (va_runV (own := "java/lang/AbstractStringBuilder") (C := "java/lang/String") (index := 32) (y := yS_len) (As := []) (rest := []) ⟨hx, hb, hml, hown, hts⟩ (m_len l hi) ⟨callB_of 0 hts (gw_code (tb_at (h := 3025) (by decide +kernel))) rfl rfl rfl (hts _ (tb_at (h := 1012) (by decide +kernel))) (hts _ (tb_at (h := 6033) (by decide +kernel))) (by decide +kernel) ⟨Nat.le_of_ble_eq_true rfl, Nat.le_of_ble_eq_true rfl⟩, hts _ (tb_at (h := 3023) (by decide +kernel)), hts _ (tb_at (h := 3024) (by decide +kernel))⟩ ⟨PS_blind, ⟨cellK, k1, k2', k3⟩, fun U hU hW => PS_at hO U hU hW⟩ rfl rfl hl.1 rfl (lv_room (Nat.le_of_ble_eq_true rfl)) (by decide +kernel : decode prog_14_method_22_code 10 = .ok (.invokevirtual 32, 3)) ⟨Nat.le_refl _, Nat.le_refl _⟩) ?_
  rw [show Int32.ofInt (((strs.getD i []).length : Nat) : Int) = nI (lenS.getD i 0) from by rw [← (str_len hi).1]; rfl]
  refine lv_istore_n hx hb (by decide +kernel : decode prog_14_method_22_code 13 = .ok (.istore_n 2, 1)) rfl hl (by omega) rfl fun ls hl => ?_
  replace hl : lv_has ls 3 [(2, .int (nI (lenS.getD i 0))), (0, .ref bd), (1, .ref (adK i))] := hl
  refine lv_aload_n hx hb (by decide +kernel : decode prog_14_method_22_code 14 = .ok (.aload_n 0, 1)) rfl (lv_at hl 1 rfl) ?_
  refine lv_aload_n hx hb (by decide +kernel : decode prog_14_method_22_code 15 = .ok (.aload_n 0, 1)) rfl (lv_at hl 1 rfl) ?_
  refine b_get (ix := 79) (k := 3) (fs := [.ref v, .int 0, .int 0, .int (nI n)]) (w := .int (nI n)) hx hb hts hown hK hJ.1.1 (by omega) (hts _ (tb_at (h := 5198) (by decide +kernel))) rfl (by decide +kernel : decode prog_14_method_22_code 16 = .ok (.getfield 79, 3)) ?_
  refine lv_iload_n hx hb (by decide +kernel : decode prog_14_method_22_code 19 = .ok (.iload_n 2, 1)) rfl (lv_at hl 0 rfl) ?_
  refine lv_iadd hx hb (by decide +kernel : decode prog_14_method_22_code 20 = .ok (.iadd, 1)) ?_
  rw [nI_add]
  refine b_call (va_runV (own := "java/lang/AbstractStringBuilder") (C := "java/lang/StringBuilder") (index := 100) (y := yA_ens) (As := [.int (nI (n + lenS.getD i 0))]) (rest := []) ⟨hx, hb, hml, hown, hts⟩ (m_A_ens l hbd hvb hn) ⟨callB_of 1 hts (gw_code (tb_at (h := 5223) (by decide +kernel))) rfl rfl rfl (hts _ (tb_at (h := 1022) (by decide +kernel))) (hts _ (tb_at (h := 5220) (by decide +kernel))) (by decide +kernel) ⟨Nat.le_of_ble_eq_true rfl, Nat.le_of_ble_eq_true rfl⟩, hts _ (tb_at (h := 5222) (by decide +kernel)), hK.sel (by decide +kernel)⟩ ⟨PB_blind, b_recv hK hJ.1, fun U hU hW => PB_at hK hJ.1 (RB_J hRB hJ hbd hvb) U hU hW⟩ rfl rfl hl.1 rfl (lv_room (Nat.le_of_ble_eq_true rfl)) (by decide +kernel : decode prog_14_method_22_code 21 = .ok (.invokevirtual 100, 3)) ⟨Nat.le_refl _, Nat.le_refl _⟩) hJ fun H1 locs1 hJ => ?_
  refine lv_aload_n hx hb (by decide +kernel : decode prog_14_method_22_code 24 = .ok (.aload_n 0, 1)) rfl (lv_at hl 1 rfl) ?_
  refine lv_aload_n hx hb (by decide +kernel : decode prog_14_method_22_code 25 = .ok (.aload_n 0, 1)) rfl (lv_at hl 1 rfl) ?_
  refine b_get (ix := 79) (k := 3) (fs := [.ref v, .int 0, .int 0, .int (nI n)]) (w := .int (nI n)) hx hb hts hown hK hJ.1.1 (by omega) (hts _ (tb_at (h := 5198) (by decide +kernel))) rfl (by decide +kernel : decode prog_14_method_22_code 26 = .ok (.getfield 79, 3)) ?_
  refine lv_aload_n hx hb (by decide +kernel : decode prog_14_method_22_code 29 = .ok (.aload_n 1, 1)) rfl (lv_at hl 2 rfl) ?_
  refine b_call (va_runV (own := "java/lang/AbstractStringBuilder") (C := "java/lang/StringBuilder") (index := 208) (y := yA_put) (As := [.int (nI n), .ref (adK i)]) (rest := []) ⟨hx, hb, hml, hown, hts⟩ (m_A_put l hbd hvb hi hn) ⟨callB_of 2 hts (gw_code (tb_at (h := 6037) (by decide +kernel))) rfl rfl rfl (hts _ (tb_at (h := 1022) (by decide +kernel))) (hts _ (tb_at (h := 6034) (by decide +kernel))) (by decide +kernel) ⟨Nat.le_of_ble_eq_true rfl, Nat.le_of_ble_eq_true rfl⟩, hts _ (tb_at (h := 6036) (by decide +kernel)), hK.sel (by decide +kernel)⟩ ⟨PB_blind, b_recv hK hJ.1, fun U hU hW => PB_at hK hJ.1 (RB_J hRB hJ hbd hvb) U hU hW⟩ rfl rfl hl.1 rfl (lv_room (Nat.le_of_ble_eq_true rfl)) (by decide +kernel : decode prog_14_method_22_code 30 = .ok (.invokevirtual 208, 3)) ⟨Nat.le_refl _, Nat.le_refl _⟩) hJ fun H1 locs1 hJ => ?_
  refine lv_aload_n hx hb (by decide +kernel : decode prog_14_method_22_code 33 = .ok (.aload_n 0, 1)) rfl (lv_at hl 1 rfl) ?_
  refine lv_dup hx hb (by decide +kernel : decode prog_14_method_22_code 34 = .ok (.dup, 1)) rfl ?_
  refine b_get (ix := 79) (k := 3) (fs := [.ref v, .int 0, .int 0, .int (nI n)]) (w := .int (nI n)) hx hb hts hown hK hJ.1.1 (by omega) (hts _ (tb_at (h := 5198) (by decide +kernel))) rfl (by decide +kernel : decode prog_14_method_22_code 35 = .ok (.getfield 79, 3)) ?_
  refine lv_iload_n hx hb (by decide +kernel : decode prog_14_method_22_code 38 = .ok (.iload_n 2, 1)) rfl (lv_at hl 0 rfl) ?_
  refine lv_iadd hx hb (by decide +kernel : decode prog_14_method_22_code 39 = .ok (.iadd, 1)) ?_
  rw [nI_add]
  refine b_cnt (k := n + lenS.getD i 0) hx hb hts hown hK hJ (by decide +kernel : decode prog_14_method_22_code 40 = .ok (.putfield 79, 3)) fun H1 locs1 hJ => ?_
  refine lv_aload_n hx hb (by decide +kernel : decode prog_14_method_22_code 43 = .ok (.aload_n 0, 1)) rfl (lv_at hl 1 rfl) ?_
  exact W.aret hx hb hr (Or.inl ⟨_, rfl⟩) (Or.inr ⟨_, rfl⟩) (fun t ht _ => ⟨rfl, by rw [ht]; exact hJ.1, by rw [ht]; exact hJ.2.1⟩) hJ.2.2 (by decide +kernel : decode prog_14_method_22_code 44 = .ok (.areturn, 1))
theorem m_B_aps (l : Launch) (hbd : b0 ≤ bd) (hvb : b0 ≤ v) {i : Nat} (hi : i < 26) (hn : n + lenS.getD i 0 ≤ 16) : Met l yB_aps (Cond.code yB_aps prog_25_method_7_code 2 (some (.object "java/lang/StringBuilder")) :: TB) (rmB 4 160 0 0) (PB DB dB b0 adK adV adT adD bd v n f [.ref bd, .ref (adK i)]) (QB DB dB bd v (n + lenS.getD i 0) (va_cpy (fun j => (bytS.getD i []).getD j 0) f 0 n (lenS.getD i 0)) (some (.ref bd))) 0 0 (FB bd v) := by
  refine va_MetF (cc := prog_25_method_7_code) (maxL := 2) (ret := (some (.object "java/lang/StringBuilder"))) (by decide) rfl ?_
  intro p e s m args below meth c s₁ B hml hv0
  obtain ⟨rfl, hK, hB, hRB⟩ := hv0
  have hx := B.exec
  have hb := B.bytes
  have hr := B.returns
  have hlocks := B.notSynchronized
  have hts0 := atoms_spec (ws := Cond.code yB_aps prog_25_method_7_code 2 (some (.object "java/lang/StringBuilder")) :: TB) B.pre
  have hts : ∀ x ∈ TB, x.before [.ref bd, .ref (adK i)].toArray s = true := fun x hw => hts0 x (List.mem_cons_of_mem _ hw)
  have hown : s.vm.findClass "java/lang/StringBuilder" = some m.cls := findClass_of_methodNamed B.named
  have hl := lv_entry [.ref bd, .ref (adK i)] (n := 2) (Nat.le_of_ble_eq_true rfl)
  rw [lg_entry_eq]
  generalize (lg_sl [.ref bd, .ref (adK i)] ++ List.replicate (2 - (lg_sl [.ref bd, .ref (adK i)]).length) Slot.unset).toArray = ls at hl ⊢
  have hl : lv_has ls 2 [(0, .ref bd), (1, .ref (adK i))] := hl
  have hJ := JB0 hB
  refine lv_aload_n hx hb (by decide +kernel : decode prog_25_method_7_code 0 = .ok (.aload_n 0, 1)) rfl (lv_at hl 0 rfl) ?_
  refine lv_aload_n hx hb (by decide +kernel : decode prog_25_method_7_code 1 = .ok (.aload_n 1, 1)) rfl (lv_at hl 1 rfl) ?_
  refine b_call (va_runSU (own := "java/lang/StringBuilder") (C := "java/lang/StringBuilder") (index := 29) (y := yA_aps) (As := [.ref (adK i)]) (rest := []) hK.1.2 ⟨hx, hb, hml, hown, hts⟩ (m_A_aps l hbd hvb hi hn) (va_cwSU 1 hts (gwSU (tb_at (h := 5213) (by decide +kernel)) (tb_at (h := 10075) (by decide +kernel)) (tb_at (h := 5207) (by decide +kernel)) (tb_at (h := 5214) (by decide +kernel)) (tb_at (h := 1022) (by decide +kernel)) (tb_at (h := 5215) (by decide +kernel))) rfl rfl rfl (by decide +kernel) ⟨Nat.le_of_ble_eq_true rfl, Nat.le_of_ble_eq_true rfl⟩) ⟨PB_blind, b_recv hK hJ.1, fun U hU hW => PB_at hK hJ.1 (RB_J hRB hJ hbd hvb) U hU hW⟩ rfl rfl hl.1 rfl (lv_room (Nat.le_of_ble_eq_true rfl)) (by decide +kernel : decode prog_25_method_7_code 2 = .ok (.invokespecial 29, 3)) ⟨Nat.le_refl _, Nat.le_refl _⟩) hJ fun H1 locs1 hJ => ?_
  refine lv_pop hx hb (by decide +kernel : decode prog_25_method_7_code 5 = .ok (.pop, 1)) rfl ?_
  refine lv_aload_n hx hb (by decide +kernel : decode prog_25_method_7_code 6 = .ok (.aload_n 0, 1)) rfl (lv_at hl 0 rfl) ?_
  exact W.aret hx hb hr (Or.inl ⟨_, rfl⟩) (Or.inr ⟨_, rfl⟩) (fun t ht _ => ⟨rfl, by rw [ht]; exact hJ.1, by rw [ht]; exact hJ.2.1⟩) hJ.2.2 (by decide +kernel : decode prog_25_method_7_code 7 = .ok (.areturn, 1))
theorem m_A_len (l : Launch) (hbd : b0 ≤ bd) (hvb : b0 ≤ v) : Met l yA_len (Cond.code yA_len prog_14_method_6_code 1 (some .int) :: TB) (rmB 0 0 0 0) (PB DB dB b0 adK adV adT adD bd v n f [.ref bd]) (QB DB dB bd v (n) (f) (some (.int (nI n)))) 0 0 (FB bd v) := by
  refine va_MetF (cc := prog_14_method_6_code) (maxL := 1) (ret := (some .int)) (by decide) rfl ?_
  intro p e s m args below meth c s₁ B hml hv0
  obtain ⟨rfl, hK, hB, hRB⟩ := hv0
  have hx := B.exec
  have hb := B.bytes
  have hr := B.returns
  have hlocks := B.notSynchronized
  have hts0 := atoms_spec (ws := Cond.code yA_len prog_14_method_6_code 1 (some .int) :: TB) B.pre
  have hts : ∀ x ∈ TB, x.before [.ref bd].toArray s = true := fun x hw => hts0 x (List.mem_cons_of_mem _ hw)
  have hown : s.vm.findClass "java/lang/AbstractStringBuilder" = some m.cls := findClass_of_methodNamed B.named
  have hl := lv_entry [.ref bd] (n := 1) (Nat.le_of_ble_eq_true rfl)
  rw [lg_entry_eq]
  generalize (lg_sl [.ref bd] ++ List.replicate (1 - (lg_sl [.ref bd]).length) Slot.unset).toArray = ls at hl ⊢
  have hl : lv_has ls 1 [(0, .ref bd)] := hl
  have hJ := JB0 hB
  refine lv_aload_n hx hb (by decide +kernel : decode prog_14_method_6_code 0 = .ok (.aload_n 0, 1)) rfl (lv_at hl 0 rfl) ?_
  refine b_get (ix := 79) (k := 3) (fs := [.ref v, .int 0, .int 0, .int (nI n)]) (w := .int (nI n)) hx hb hts hown hK hJ.1.1 (by omega) (hts _ (tb_at (h := 5198) (by decide +kernel))) rfl (by decide +kernel : decode prog_14_method_6_code 1 = .ok (.getfield 79, 3)) ?_
  exact W.iret hx hb hr (fun t ht _ => ⟨rfl, by rw [ht]; exact hJ.1, by rw [ht]; exact hJ.2.1⟩) hJ.2.2 (by decide +kernel : decode prog_14_method_6_code 4 = .ok (.ireturn, 1))
theorem m_B_len (l : Launch) (hbd : b0 ≤ bd) (hvb : b0 ≤ v) : Met l yB_len (Cond.code yB_len prog_25_method_93_code 1 (some .int) :: TB) (rmB 1 40 0 0) (PB DB dB b0 adK adV adT adD bd v n f [.ref bd]) (QB DB dB bd v (n) (f) (some (.int (nI n)))) 0 0 (FB bd v) := by
  refine va_MetF (cc := prog_25_method_93_code) (maxL := 1) (ret := (some .int)) (by decide) rfl ?_
  intro p e s m args below meth c s₁ B hml hv0
  obtain ⟨rfl, hK, hB, hRB⟩ := hv0
  have hx := B.exec
  have hb := B.bytes
  have hr := B.returns
  have hlocks := B.notSynchronized
  have hts0 := atoms_spec (ws := Cond.code yB_len prog_25_method_93_code 1 (some .int) :: TB) B.pre
  have hts : ∀ x ∈ TB, x.before [.ref bd].toArray s = true := fun x hw => hts0 x (List.mem_cons_of_mem _ hw)
  have hown : s.vm.findClass "java/lang/StringBuilder" = some m.cls := findClass_of_methodNamed B.named
  have hl := lv_entry [.ref bd] (n := 1) (Nat.le_of_ble_eq_true rfl)
  rw [lg_entry_eq]
  generalize (lg_sl [.ref bd] ++ List.replicate (1 - (lg_sl [.ref bd]).length) Slot.unset).toArray = ls at hl ⊢
  have hl : lv_has ls 1 [(0, .ref bd)] := hl
  have hJ := JB0 hB
  refine lv_aload_n hx hb (by decide +kernel : decode prog_25_method_93_code 0 = .ok (.aload_n 0, 1)) rfl (lv_at hl 0 rfl) ?_
  refine b_call (va_runSU (own := "java/lang/StringBuilder") (C := "java/lang/StringBuilder") (index := 343) (y := yA_len) (As := []) (rest := []) hK.1.2 ⟨hx, hb, hml, hown, hts⟩ (m_A_len l hbd hvb) (va_cwSU 0 hts (gwSU (tb_at (h := 6100) (by decide +kernel)) (tb_at (h := 10083) (by decide +kernel)) (tb_at (h := 5207) (by decide +kernel)) (tb_at (h := 6101) (by decide +kernel)) (tb_at (h := 1022) (by decide +kernel)) (tb_at (h := 6102) (by decide +kernel))) rfl rfl rfl (by decide +kernel) ⟨Nat.le_of_ble_eq_true rfl, Nat.le_of_ble_eq_true rfl⟩) ⟨PB_blind, b_recv hK hJ.1, fun U hU hW => PB_at hK hJ.1 (RB_J hRB hJ hbd hvb) U hU hW⟩ rfl rfl hl.1 rfl (lv_room (Nat.le_of_ble_eq_true rfl)) (by decide +kernel : decode prog_25_method_93_code 1 = .ok (.invokespecial 343, 3)) ⟨Nat.le_refl _, Nat.le_refl _⟩) hJ fun H1 locs1 hJ => ?_
  exact W.iret hx hb hr (fun t ht _ => ⟨rfl, by rw [ht]; exact hJ.1, by rw [ht]; exact hJ.2.1⟩) hJ.2.2 (by decide +kernel : decode prog_25_method_93_code 4 = .ok (.ireturn, 1))
theorem m_A_chr (l : Launch) (hbd : b0 ≤ bd) (hvb : b0 ≤ v) {j : Nat} {x : Int32} (hj : j < n) (hn : n ≤ 16) (hby : ((f j &&& 255).toUInt32 % 65536).toInt32 = x) (hnr : narrow .char (.int x) = .int x) : Met l yA_chr (Cond.code yA_chr prog_14_method_14_code 5 (some .char) :: TB) (rmB 2 80 0 0) (PB DB dB b0 adK adV adT adD bd v n f [.ref bd, .int (nI j)]) (QB DB dB bd v (n) (f) (some (.int x))) 0 0 (FB bd v) := by
  refine va_MetF (cc := prog_14_method_14_code) (maxL := 5) (ret := (some .char)) (by decide) rfl ?_
  intro p e s m args below meth c s₁ B hml hv0
  obtain ⟨rfl, hK, hB, hRB⟩ := hv0
  have hx := B.exec
  have hb := B.bytes
  have hr := B.returns
  have hlocks := B.notSynchronized
  have hts0 := atoms_spec (ws := Cond.code yA_chr prog_14_method_14_code 5 (some .char) :: TB) B.pre
  have hts : ∀ x ∈ TB, x.before [.ref bd, .int (nI j)].toArray s = true := fun x hw => hts0 x (List.mem_cons_of_mem _ hw)
  have hown : s.vm.findClass "java/lang/AbstractStringBuilder" = some m.cls := findClass_of_methodNamed B.named
  have hl := lv_entry [.ref bd, .int (nI j)] (n := 5) (Nat.le_of_ble_eq_true rfl)
  rw [lg_entry_eq]
  generalize (lg_sl [.ref bd, .int (nI j)] ++ List.replicate (5 - (lg_sl [.ref bd, .int (nI j)]).length) Slot.unset).toArray = ls at hl ⊢
  have hl : lv_has ls 5 [(0, .ref bd), (1, .int (nI j))] := hl
  have hJ := JB0 hB
  refine lv_aload_n hx hb (by decide +kernel : decode prog_14_method_14_code 0 = .ok (.aload_n 0, 1)) rfl (lv_at hl 0 rfl) ?_
  refine b_get (ix := 22) (k := 1) (fs := [.ref v, .int 0, .int 0, .int (nI n)]) (w := .int 0) hx hb hts hown hK hJ.1.1 (by omega) (hts _ (tb_at (h := 5197) (by decide +kernel))) rfl (by decide +kernel : decode prog_14_method_14_code 1 = .ok (.getfield 22, 3)) ?_
  refine lv_istore_n hx hb (by decide +kernel : decode prog_14_method_14_code 4 = .ok (.istore_n 2, 1)) rfl hl (by omega) rfl fun ls hl => ?_
  replace hl : lv_has ls 5 [(2, .int 0), (0, .ref bd), (1, .int (nI j))] := hl
  refine lv_aload_n hx hb (by decide +kernel : decode prog_14_method_14_code 5 = .ok (.aload_n 0, 1)) rfl (lv_at hl 1 rfl) ?_
  refine b_get (ix := 15) (k := 0) (fs := [.ref v, .int 0, .int 0, .int (nI n)]) (w := .ref v) hx hb hts hown hK hJ.1.1 (by omega) (hts _ (tb_at (h := 5196) (by decide +kernel))) rfl (by decide +kernel : decode prog_14_method_14_code 6 = .ok (.getfield 15, 3)) ?_
  refine lv_astore_n hx hb (by decide +kernel : decode prog_14_method_14_code 9 = .ok (.astore_n 3, 1)) rfl hl (by omega) rfl fun ls hl => ?_
  replace hl : lv_has ls 5 [(3, .ref v), (2, .int 0), (0, .ref bd), (1, .int (nI j))] := hl
  refine lv_aload_n hx hb (by decide +kernel : decode prog_14_method_14_code 10 = .ok (.aload_n 0, 1)) rfl (lv_at hl 2 rfl) ?_
  refine b_get (ix := 79) (k := 3) (fs := [.ref v, .int 0, .int 0, .int (nI n)]) (w := .int (nI n)) hx hb hts hown hK hJ.1.1 (by omega) (hts _ (tb_at (h := 5198) (by decide +kernel))) rfl (by decide +kernel : decode prog_14_method_14_code 11 = .ok (.getfield 79, 3)) ?_
  refine lv_aload_n hx hb (by decide +kernel : decode prog_14_method_14_code 14 = .ok (.aload_n 3, 1)) rfl (lv_at hl 0 rfl) ?_
  refine W.alen (n := 16) hx hb hJ.1.2.1 (hK.2.1 _ _) (by rw [arrV_size]; rfl) rfl rfl (by decide +kernel : decode prog_14_method_14_code 15 = .ok (.arraylength, 1)) ?_
  refine lv_iload_n hx hb (by decide +kernel : decode prog_14_method_14_code 16 = .ok (.iload_n 2, 1)) rfl (lv_at hl 1 rfl) ?_
  refine lv_ishr hx hb (by decide +kernel : decode prog_14_method_14_code 17 = .ok (.ishr, 1)) ?_
  rw [show (16 : Int32) >>> ((0 : Int32) &&& 31) = 16 from by decide]
  refine va_mmin (own := "java/lang/AbstractStringBuilder") (index := 138) hx hb (hml.trans hl.1.symm) hown (hts _ (tb_at (h := 6110) (by decide +kernel))) (hts _ (tb_at (h := 6010) (by decide +kernel))) (hts _ (tb_at (h := 1016) (by decide +kernel))) (hts _ (tb_at (h := 6011) (by decide +kernel))) (Nat.le_of_ble_eq_true rfl) (Nat.le_of_ble_eq_true rfl) (Nat.le_refl _) (Nat.le_refl _) (by decide +kernel : decode prog_14_method_14_code 18 = .ok (.invokestatic 138, 3)) ?_
  rw [(n17 hn).1]
  refine lv_istore hx hb (by decide +kernel : decode prog_14_method_14_code 21 = .ok (.istore 4, 2)) hl (by omega) rfl fun ls hl => ?_
  replace hl : lv_has ls 5 [(4, .int (nI n)), (3, .ref v), (2, .int 0), (0, .ref bd), (1, .int (nI j))] := hl
  refine lv_iload_n hx hb (by decide +kernel : decode prog_14_method_14_code 23 = .ok (.iload_n 1, 1)) rfl (lv_at hl 4 rfl) ?_
  refine lv_iload hx hb (by decide +kernel : decode prog_14_method_14_code 24 = .ok (.iload 4, 2)) (lv_at hl 0 rfl) ?_
  refine r_callRQ (va_runS (own := "java/lang/AbstractStringBuilder") (index := 144) (y := yS_chk) (As := [.int (nI j), .int (nI n)]) (rest := []) ⟨hx, hb, hml, hown, hts⟩ (m_chk l (nI_pos (by omega)) (nI_lt hj (by omega))) ⟨callB_of 2 hts (gw_code (tb_at (h := 3045) (by decide +kernel))) rfl rfl rfl (hts _ (tb_at (h := 1012) (by decide +kernel))) (hts _ (tb_at (h := 6111) (by decide +kernel))) (by decide +kernel) ⟨Nat.le_of_ble_eq_true rfl, Nat.le_of_ble_eq_true rfl⟩, hts _ (tb_at (h := 3044) (by decide +kernel))⟩ ⟨PS_blind, fun U hU hW => PS_at (RB_RO (RB_J hRB hJ hbd hvb)) U hU hW⟩ rfl rfl hl.1 rfl (lv_room (Nat.le_of_ble_eq_true rfl)) (by decide +kernel : decode prog_14_method_14_code 26 = .ok (.invokestatic 144, 3)) ⟨Nat.le_refl _, Nat.le_refl _⟩) ?_
  refine lv_iload_n hx hb (by decide +kernel : decode prog_14_method_14_code 29 = .ok (.iload_n 2, 1)) rfl (lv_at hl 2 rfl) ?_
  refine lv_if_ne (tgt := 42) hx hb (by decide +kernel : decode prog_14_method_14_code 30 = .ok (.ifCond .ne 12, 3)) (by first | decide | rfl) (fun h => absurd rfl h) (fun _ => ?_)
  refine lv_aload_n hx hb (by decide +kernel : decode prog_14_method_14_code 33 = .ok (.aload_n 3, 1)) rfl (lv_at hl 1 rfl) ?_
  refine lv_iload_n hx hb (by decide +kernel : decode prog_14_method_14_code 34 = .ok (.iload_n 1, 1)) rfl (lv_at hl 4 rfl) ?_
  refine W.bald (v := .int (f j)) hx hb hJ.1.2.1 (hK.2.1 _ _) (fun q => by cases q) (fun z => z.elim (nI_pos (by omega)) (fun z => by rw [nI_clamp (by omega), arrV_size] at z; omega)) (by rw [nI_clamp (by omega), arrV_read _ _ (by omega)]) rfl rfl (by decide +kernel : decode prog_14_method_14_code 35 = .ok (.baload, 1)) ?_
  refine lv_sipush (v := 255) hx hb (by decide +kernel : decode prog_14_method_14_code 36 = .ok (.sipush 255, 3)) (by decide) ?_
  refine lv_iand hx hb (by decide +kernel : decode prog_14_method_14_code 39 = .ok (.iand, 1)) ?_
  refine lv_i2c hx hb (by decide +kernel : decode prog_14_method_14_code 40 = .ok (.i2c, 1)) hby ?_
  exact W.zret hx hb hr (hnr) (fun t ht _ => ⟨rfl, by rw [ht]; exact hJ.1, by rw [ht]; exact hJ.2.1⟩) hJ.2.2 (by decide +kernel : decode prog_14_method_14_code 41 = .ok (.ireturn, 1))
theorem m_B_chr (l : Launch) (hbd : b0 ≤ bd) (hvb : b0 ≤ v) {j : Nat} {x : Int32} (hj : j < n) (hn : n ≤ 16) (hby : ((f j &&& 255).toUInt32 % 65536).toInt32 = x) (hnr : narrow .char (.int x) = .int x) : Met l yB_chr (Cond.code yB_chr prog_25_method_88_code 2 (some .char) :: TB) (rmB 3 120 0 0) (PB DB dB b0 adK adV adT adD bd v n f [.ref bd, .int (nI j)]) (QB DB dB bd v (n) (f) (some (.int x))) 0 0 (FB bd v) := by
  refine va_MetF (cc := prog_25_method_88_code) (maxL := 2) (ret := (some .char)) (by decide) rfl ?_
  intro p e s m args below meth c s₁ B hml hv0
  obtain ⟨rfl, hK, hB, hRB⟩ := hv0
  have hx := B.exec
  have hb := B.bytes
  have hr := B.returns
  have hlocks := B.notSynchronized
  have hts0 := atoms_spec (ws := Cond.code yB_chr prog_25_method_88_code 2 (some .char) :: TB) B.pre
  have hts : ∀ x ∈ TB, x.before [.ref bd, .int (nI j)].toArray s = true := fun x hw => hts0 x (List.mem_cons_of_mem _ hw)
  have hown : s.vm.findClass "java/lang/StringBuilder" = some m.cls := findClass_of_methodNamed B.named
  have hl := lv_entry [.ref bd, .int (nI j)] (n := 2) (Nat.le_of_ble_eq_true rfl)
  rw [lg_entry_eq]
  generalize (lg_sl [.ref bd, .int (nI j)] ++ List.replicate (2 - (lg_sl [.ref bd, .int (nI j)]).length) Slot.unset).toArray = ls at hl ⊢
  have hl : lv_has ls 2 [(0, .ref bd), (1, .int (nI j))] := hl
  have hJ := JB0 hB
  refine lv_aload_n hx hb (by decide +kernel : decode prog_25_method_88_code 0 = .ok (.aload_n 0, 1)) rfl (lv_at hl 0 rfl) ?_
  refine lv_iload_n hx hb (by decide +kernel : decode prog_25_method_88_code 1 = .ok (.iload_n 1, 1)) rfl (lv_at hl 1 rfl) ?_
  refine b_call (va_runSU (own := "java/lang/StringBuilder") (C := "java/lang/StringBuilder") (index := 329) (y := yA_chr) (As := [.int (nI j)]) (rest := []) hK.1.2 ⟨hx, hb, hml, hown, hts⟩ (m_A_chr l hbd hvb hj hn hby hnr) (va_cwSU 1 hts (gwSU (tb_at (h := 6107) (by decide +kernel)) (tb_at (h := 10084) (by decide +kernel)) (tb_at (h := 5207) (by decide +kernel)) (tb_at (h := 6108) (by decide +kernel)) (tb_at (h := 1022) (by decide +kernel)) (tb_at (h := 6109) (by decide +kernel))) rfl rfl rfl (by decide +kernel) ⟨Nat.le_of_ble_eq_true rfl, Nat.le_of_ble_eq_true rfl⟩) ⟨PB_blind, b_recv hK hJ.1, fun U hU hW => PB_at hK hJ.1 (RB_J hRB hJ hbd hvb) U hU hW⟩ rfl rfl hl.1 rfl (lv_room (Nat.le_of_ble_eq_true rfl)) (by decide +kernel : decode prog_25_method_88_code 2 = .ok (.invokespecial 329, 3)) ⟨Nat.le_refl _, Nat.le_refl _⟩) hJ fun H1 locs1 hJ => ?_
  exact W.zret hx hb hr (hnr) (fun t ht _ => ⟨rfl, by rw [ht]; exact hJ.1, by rw [ht]; exact hJ.2.1⟩) hJ.2.2 (by decide +kernel : decode prog_25_method_88_code 5 = .ok (.ireturn, 1))
theorem m_A_init (l : Launch) (hbd : b0 ≤ bd) {z : Nat} (hz : bd < z) : Met l yA_init (Cond.code yA_init prog_14_method_2_code 2 none :: TB) (rmB 1 40 1 16) (PI DB dB b0 adK adV adT adD bd z [.ref bd, .int 16]) (QI DB dB bd z) 1 16 (fun q => q = bd ∨ z ≤ q) := by
  refine va_MetF (cc := prog_14_method_2_code) (maxL := 2) (ret := none) (by decide) rfl ?_
  intro p e s m args below meth c s₁ B hml hv0
  obtain ⟨rfl, hK, hat, hRB, hsz⟩ := hv0
  have hx := B.exec
  have hb := B.bytes
  have hr := B.returns
  have hlocks := B.notSynchronized
  have hts0 := atoms_spec (ws := Cond.code yA_init prog_14_method_2_code 2 none :: TB) B.pre
  have hts : ∀ x ∈ TB, x.before [.ref bd, .int 16].toArray s = true := fun x hw => hts0 x (List.mem_cons_of_mem _ hw)
  have hown : s.vm.findClass "java/lang/AbstractStringBuilder" = some m.cls := findClass_of_methodNamed B.named
  have hl := lv_entry [.ref bd, .int 16] (n := 2) (Nat.le_of_ble_eq_true rfl)
  rw [lg_entry_eq]
  generalize (lg_sl [.ref bd, .int 16] ++ List.replicate (2 - (lg_sl [.ref bd, .int 16]).length) Slot.unset).toArray = ls at hl ⊢
  have hl : lv_has ls 2 [(0, .ref bd), (1, .int 16)] := hl
  refine lv_aload_n hx hb (by decide +kernel : decode prog_14_method_2_code 0 = .ok (.aload_n 0, 1)) rfl (lv_at hl 0 rfl) ?_
  refine W.objInit hx hb hown (hts _ (tb_at (h := 5187) (by decide +kernel))) (hts _ tb_oi) (hts _ tb_oc) rfl (hl.1.trans hml.symm) rfl (by decide +kernel : decode prog_14_method_2_code 1 = .ok (.invokespecial 3, 3)) (Nat.le_of_ble_eq_true rfl) (Nat.le_of_ble_eq_true rfl) ?_
  obtain ⟨cf, kf, fi, f9, q9, cell9, z1, z2, z3, z4, z5, z6, z7, z8⟩ := hRB.1.2.2.1
  refine W.gets hx hb hown (hts _ (tb_at (h := 5188) (by decide +kernel : tat 5188 (.fieldLink "java/lang/AbstractStringBuilder" 18 "java/lang/String" "COMPACT_STRINGS" "Z") = true))) z1 z2 z3 z4 z5 (fun y => by rw [y] at z6; cases z6) z7 rfl (by decide +kernel : decode prog_14_method_2_code 4 = .ok (.getstatic 18, 3)) ?_
  refine lv_if_eq (tgt := 25) hx hb (by decide +kernel : decode prog_14_method_2_code 7 = .ok (.ifCond .eq 18, 3)) (by first | decide | rfl) (fun h => absurd h (by decide)) (fun _ => ?_)
  refine lv_aload_n hx hb (by decide +kernel : decode prog_14_method_2_code 10 = .ok (.aload_n 0, 1)) rfl (lv_at hl 0 rfl) ?_
  refine lv_iload_n hx hb (by decide +kernel : decode prog_14_method_2_code 11 = .ok (.iload_n 1, 1)) rfl (lv_at hl 1 rfl) ?_
  refine va_newaK (atype := .byte) (N := 16) hx hb (hts _ (tb_at (h := 3120) (by decide +kernel))) rfl (by decide +kernel : decode prog_14_method_2_code 12 = .ok (.newarray .byte, 2)) rfl (by decide) (by decide) (by decide) (Nat.le_refl _) (Nat.le_refl _) hsz fun H1 cA y1 y2 y3 y4 y5 => ?_
  have hcA : cA = dB := Option.some.inj (y5.symm.trans hK.2.2.1)
  subst hcA
  refine b_put (ix := 15) (k := 0) (fs := [.null, .int 0, .int 0, .int 0]) (w := .ref z) hx hb hts hown hK (hat.kept (y3 bd hz)) (by omega) (hts _ (tb_at (h := 5196) (by decide +kernel))) rfl rfl (by show 0 < 4; omega) (by decide +kernel : decode prog_14_method_2_code 14 = .ok (.putfield 15, 3)) fun H2 l2 u1 u2 u3 u4 => ?_
  refine lv_aload_n hx hb (by decide +kernel : decode prog_14_method_2_code 17 = .ok (.aload_n 0, 1)) rfl (lv_at hl 0 rfl) ?_
  refine lv_iconst (v := 0) hx hb (by decide +kernel : decode prog_14_method_2_code 18 = .ok (.iconst 0, 1)) (by decide) ?_
  refine b_put (ix := 22) (k := 1) (fs := [.ref z, .int 0, .int 0, .int 0]) (w := .int 0) hx hb hts hown hK u2 (by omega) (hts _ (tb_at (h := 5197) (by decide +kernel))) rfl rfl (by show 1 < 4; omega) (by decide +kernel : decode prog_14_method_2_code 19 = .ok (.putfield 22, 3)) fun H3 l3 w1 w2 w3 w4 => ?_
  refine lv_goto (tgt := 38) hx hb (by decide +kernel : decode prog_14_method_2_code 22 = .ok (.goto 16, 3)) (by first | decide | rfl) ?_
  have hv : H3[z]? = some (arrV cA 16 (fun _ => .int 0)) := by rw [w4 z (by omega), u4 z (by omega)]; exact y1
  have hfr : ∀ (q : Nat) (c : Cell), s.heap[q]? = some c → q ≠ bd → H3[q]? = some c := fun q c hc hq => by
    have := (Array.getElem?_eq_some_iff.mp hc).1
    rw [w4 q hq, u4 q hq, y3 q (by omega)]
    exact hc
  exact W.vret hx hb hr (fun t ht _ => ⟨rfl, by rw [ht]; exact ⟨w2, hv, by omega⟩, by rw [ht]; exact hfr⟩) (fun q hq => by
    rcases List.mem_append.mp hq with h | h
    · rw [List.mem_singleton.mp h]; exact Or.inl u1
    · rw [List.mem_singleton.mp h]; exact Or.inl w1) (by decide +kernel : decode prog_14_method_2_code 38 = .ok (.return_, 1))
theorem m_B_init (l : Launch) (hbd : b0 ≤ bd) {z : Nat} (hz : bd < z) : Met l yB_init (Cond.code yB_init prog_25_method_1_code 1 none :: TB) (rmB 2 80 1 16) (PI DB dB b0 adK adV adT adD bd z [.ref bd]) (QI DB dB bd z) 1 16 (fun q => q = bd ∨ z ≤ q) := by
  refine va_MetF (cc := prog_25_method_1_code) (maxL := 1) (ret := none) (by decide) rfl ?_
  intro p e s m args below meth c s₁ B hml hv0
  obtain ⟨rfl, hK, hat, hRB, hsz⟩ := hv0
  have hx := B.exec
  have hb := B.bytes
  have hr := B.returns
  have hlocks := B.notSynchronized
  have hts0 := atoms_spec (ws := Cond.code yB_init prog_25_method_1_code 1 none :: TB) B.pre
  have hts : ∀ x ∈ TB, x.before [.ref bd].toArray s = true := fun x hw => hts0 x (List.mem_cons_of_mem _ hw)
  have hown : s.vm.findClass "java/lang/StringBuilder" = some m.cls := findClass_of_methodNamed B.named
  have hl := lv_entry [.ref bd] (n := 1) (Nat.le_of_ble_eq_true rfl)
  rw [lg_entry_eq]
  generalize (lg_sl [.ref bd] ++ List.replicate (1 - (lg_sl [.ref bd]).length) Slot.unset).toArray = ls at hl ⊢
  have hl : lv_has ls 1 [(0, .ref bd)] := hl
  refine lv_aload_n hx hb (by decide +kernel : decode prog_25_method_1_code 0 = .ok (.aload_n 0, 1)) rfl (lv_at hl 0 rfl) ?_
  refine lv_bipush (v := 16) hx hb (by decide +kernel : decode prog_25_method_1_code 1 = .ok (.bipush 16, 2)) (by decide) ?_
  refine i_call (va_runI (own := "java/lang/StringBuilder") (index := 1) (y := yA_init) (b := bd) (As := [.int 16]) (rest := []) ⟨hx, hb, hml, hown, hts⟩ (m_A_init l hbd hz) ⟨callB_of 1 hts (gw_code (tb_at (h := 5186) (by decide +kernel))) rfl rfl rfl (hts _ (tb_at (h := 1022) (by decide +kernel))) (hts _ (tb_at (h := 5184) (by decide +kernel))) (by decide +kernel) ⟨Nat.le_of_ble_eq_true rfl, Nat.le_of_ble_eq_true rfl⟩, rfl, hts _ (tb_at (h := 5185) (by decide +kernel))⟩ ⟨PI_blind, fun U hU hW => PI_at hK hat hRB hsz U hU hW⟩ rfl rfl hl.1 rfl (lv_room (Nat.le_of_ble_eq_true rfl)) (by decide +kernel : decode prog_25_method_1_code 3 = .ok (.invokespecial 1, 3)) ⟨Nat.le_refl _, Nat.le_refl _⟩) fun H1 locs1 y1 y2 y3 => ?_
  exact W.vret hx hb hr (fun t ht _ => ⟨rfl, by rw [ht]; exact y1, by rw [ht]; exact y2⟩) (fun q hq => (y3 q hq).elim (fun h => by cases h) id) (by decide +kernel : decode prog_25_method_1_code 6 = .ok (.return_, 1))
end BLD
