/-! the machine does what wp says: the worlds, and one instruction at a time -/
def okv (V : HD → Prop) : AV → Prop
  | .inl x => in32 x
  | .inr (.inl x) => in64 x
  | .inr (.inr h) => V h
/-- every number of the store is in range -/
def Cn (σ : ST) : Prop := ∀ t k i s, if t = 40 ∧ s = 8 then in64 (σ t k i s) else in32 (σ t k i s)
def cNn (ci : Nat) : Nat := match crC[ci]? with
  | some q => q.2.2
  | none => 0
def cTl : List (Nat → FieldType) := [cT0, cT1, cT2, cT3, cT4, cT5, cT6, cT7, cT8, cT9, cT10]
def cTy (ci : Nat) : Nat → FieldType := cTl.getD ci cT0
def TB : List Cond := lw_tbl.filter goodWord
theorem tb_in {w : Cond} (h : w ∈ lw_tbl ∧ goodWord w = true) : w ∈ TB := List.mem_filter.mpr h
theorem tb_at {h : Nat} {w : Cond} (hh : tat h w = true) : w ∈ TB := tb_in (tat_in hh)
theorem tb_good {w : Cond} (h : w ∈ TB) : (w.onTables && w.keeps) = true ∨ ∃ ty, w = .arrayClass ty := good_of_word (List.mem_filter.mp h).2
/-- a class's words, names, types -/
def okC (ci : Nat) : Bool := (u_ws (cRn ci) (cFd ci) (cNn ci)).all (fun w => decide (w ∈ lw_tbl) && goodWord w) && ((List.range (cNn ci)).all (fun k => decide (parseFieldDescriptor (cFd ci k).2.2.1 = some (cTy ci k)) && decide ((cFd ci k).1 = cRn ci)) &&
  ((List.range (cNn ci)).all (fun a => (List.range (cNn ci)).all (fun b => Nat.beq a b || decide ((cFd ci a).2.1 ≠ (cFd ci b).2.1)))))
def okT (t : Nat) : Bool := Nat.beq (nfd t) (cNn (cof t)) && (List.range (nfd t)).all (fun k => match kd t k with
  | 0 => decide (cTy (cof t) k = .int) && decide ((cFd (cof t) k).2.2.2 = false)
  | 1 => decide (cTy (cof t) k = .boolean) && decide ((cFd (cof t) k).2.2.2 = false)
  | 2 => decide (cTy (cof t) k = .long) && (decide ((cFd (cof t) k).2.2.2 = false) && (Nat.beq t 40 && Nat.beq k 8))
  | _ => true)
theorem okC_ : (List.range 11).all okC = true := by decide +kernel
theorem okT_ : [0, 1, 5, 11, 12, 14, 17, 21, 25, 26, 40].all okT = true := by decide +kernel
theorem cof_tags {t : Nat} (h : cof t < 11) : t ∈ [0, 1, 5, 11, 12, 14, 17, 21, 25, 26, 40] := by
  unfold cof at h
  split at h <;> first | decide | omega
theorem okC_at {ci : Nat} (h : ci < 11) : okC ci = true := List.all_eq_true.mp okC_ ci (List.mem_range.mpr h)
theorem okT_at {t : Nat} (h : cof t < 11) : okT t = true := List.all_eq_true.mp okT_ t (cof_tags h)
theorem crC_at {ci : Nat} (h : ci < 11) : crC[ci]? = some (cRn ci, cFd ci, cNn ci) := by
  rcases (by omega : ci = 0 ∨ ci = 1 ∨ ci = 2 ∨ ci = 3 ∨ ci = 4 ∨ ci = 5 ∨ ci = 6 ∨ ci = 7 ∨ ci = 8 ∨ ci = 9 ∨ ci = 10) with rfl | rfl | rfl | rfl | rfl | rfl | rfl | rfl | rfl | rfl | rfl <;> rfl
theorem c_in {ci : Nat} (h : ci < 11) : ∀ w ∈ u_ws (cRn ci) (cFd ci) (cNn ci), w ∈ TB := by
  have h1 := okC_at h
  simp only [okC, Bool.and_eq_true] at h1
  intro w hw
  have h2 := List.all_eq_true.mp h1.1 w hw
  simp only [Bool.and_eq_true, decide_eq_true_eq] at h2
  exact tb_in h2
theorem c_ty {ci k : Nat} (h : ci < 11) (hk : k < cNn ci) : parseFieldDescriptor (cFd ci k).2.2.1 = some (cTy ci k) ∧ (cFd ci k).1 = cRn ci := by
  have h1 := okC_at h
  simp only [okC, Bool.and_eq_true] at h1
  have h2 := List.all_eq_true.mp h1.2.1 k (List.mem_range.mpr hk)
  simp only [Bool.and_eq_true, decide_eq_true_eq] at h2
  exact h2
theorem c_nm {ci : Nat} (h : ci < 11) : ∀ a, a < cNn ci → ∀ b, b < cNn ci → a ≠ b → (cFd ci a).2.1 ≠ (cFd ci b).2.1 := by
  intro a ha b hb hab
  have h1 := okC_at h
  simp only [okC, Bool.and_eq_true] at h1
  have h2 := List.all_eq_true.mp (List.all_eq_true.mp h1.2.2 a (List.mem_range.mpr ha)) b (List.mem_range.mpr hb)
  simp only [Bool.or_eq_true, decide_eq_true_eq] at h2
  rcases h2 with h2 | h2
  · exact absurd (Nat.eq_of_beq_eq_true h2) hab
  · exact h2
theorem t_n {t : Nat} (h : cof t < 11) : nfd t = cNn (cof t) := by
  have h1 := okT_at h
  simp only [okT, Bool.and_eq_true] at h1
  exact Nat.eq_of_beq_eq_true h1.1
theorem t_0 {t k : Nat} (h : cof t < 11) (hk : k < nfd t) (h0 : kd t k = 0) : cTy (cof t) k = .int ∧ (cFd (cof t) k).2.2.2 = false := by
  have h1 := okT_at h
  simp only [okT, Bool.and_eq_true] at h1
  have h2 := List.all_eq_true.mp h1.2 k (List.mem_range.mpr hk)
  rw [h0] at h2
  simpa only [Bool.and_eq_true, decide_eq_true_eq] using h2
theorem t_1 {t k : Nat} (h : cof t < 11) (hk : k < nfd t) (h0 : kd t k = 1) : cTy (cof t) k = .boolean ∧ (cFd (cof t) k).2.2.2 = false := by
  have h1 := okT_at h
  simp only [okT, Bool.and_eq_true] at h1
  have h2 := List.all_eq_true.mp h1.2 k (List.mem_range.mpr hk)
  rw [h0] at h2
  simpa only [Bool.and_eq_true, decide_eq_true_eq] using h2
theorem t_2 {t k : Nat} (h : cof t < 11) (hk : k < nfd t) (h0 : kd t k = 2) : cTy (cof t) k = .long ∧ (cFd (cof t) k).2.2.2 = false ∧ t = 40 ∧ k = 8 := by
  have h1 := okT_at h
  simp only [okT, Bool.and_eq_true] at h1
  have h2 := List.all_eq_true.mp h1.2 k (List.mem_range.mpr hk)
  rw [h0] at h2
  simp only [Bool.and_eq_true, decide_eq_true_eq] at h2
  exact ⟨h2.1, h2.2.1, Nat.eq_of_beq_eq_true h2.2.2.1, Nat.eq_of_beq_eq_true h2.2.2.2⟩
/-! ### the worlds -/
def oval (ad : HD → Nat) (σ : ST) (t : Nat) (k i : Int) (b : Nat) : Value := conc ad (gfv σ t k i b (b : Int))
def ofs (ad : HD → Nat) (σ : ST) (t : Nat) (k i : Int) : List Value := (List.range (nfd t)).map (oval ad σ t k i)
theorem ofs_get {ad : HD → Nat} {σ : ST} {t b : Nat} {k i : Int} (hb : b < nfd t) : (ofs ad σ t k i)[b]? = some (oval ad σ t k i b) := by
  unfold ofs
  simp [hb]
/-- a cell of the store, as the heap has it -/
def RC (D : va_G) (dA : Nat → ClassId) (ad : HD → Nat) (σ : ST) (H : Heap) (t : Nat) (k i : Int) : Prop :=
  (cof t < 11 → va_at D crC (ad (t, k, i), .inr (cof t, ofs ad σ t k i)) H) ∧
  (ek t = 0 → H[ad (t, k, i)]? = some (arrV (dA 0) (al t).toNat (fun j => .int (Int32.ofInt (σ t k i (j : Int)))))) ∧
  (ek t = 1 → H[ad (t, k, i)]? = some (arrV (dA 1) (al t).toNat (fun j => .int (Int32.ofInt (bz (σ t k i (j : Int))))))) ∧
  (ek t = 3 → H[ad (t, k, i)]? = some (arrV (dA t) (al t).toNat (fun j => .ref (ad (cha t k (j : Int))))))
theorem RC.kept {D : va_G} {dA : Nat → ClassId} {ad : HD → Nat} {σ σ' : ST} {H H1 : Heap} {t : Nat} {k i : Int} (h : RC D dA ad σ H t k i) (hq : H1[ad (t, k, i)]? = H[ad (t, k, i)]?) (hs : ∀ s, σ' t k i s = σ t k i s) : RC D dA ad σ' H1 t k i := by
  have e1 : ofs ad σ' t k i = ofs ad σ t k i := by
    unfold ofs
    apply List.map_congr_left
    intro b _
    unfold oval gfv
    simp only [hs]
  refine ⟨fun z => ?_, fun z => ?_, fun z => ?_, fun z => ?_⟩
  · rw [e1]; exact (h.1 z).kept hq
  · rw [hq, h.2.1 z]; simp only [hs]
  · rw [hq, h.2.2.1 z]; simp only [hs]
  · rw [hq, h.2.2.2 z]
def Rel (D : va_G) (dA : Nat → ClassId) (ad : HD → Nat) (VW : HD → Prop) (σ : ST) (H : Heap) : Prop := ∀ t k i, VW (t, k, i) → RC D dA ad σ H t k i
/-- which cells may be written: both objects and what they hold -/
def A0 (b0 : Nat) : Nat → Prop := fun q => b0 ≤ q ∧ q < b0 + 2761
/-- what the names of the cells are like: apart, behind b0, with what they hold -/
def EV (ad : HD → Nat) (VW : HD → Prop) (b0 : Nat) (adK adT : Nat → Nat) : Prop :=
  (∀ h h', VW h → VW h' → ad h = ad h' → h = h') ∧ (∀ h, VW h → A0 b0 (ad h)) ∧ (∀ t k i b, VW (t, k, i) → kd t b = 3 → VW (chf t k i b)) ∧
  (∀ t k i j, VW (t, k, i) → ek t = 3 → 0 ≤ j → j < al t → VW (cha t k j)) ∧ (∀ k i, ad (70, k, i) = adK k.toNat) ∧ (∀ t k i, ek t = 7 → ad (t, k, i) = adT t)
def Vv (VW : HD → Prop) (h : HD) : Prop := VW h ∨ (h.1 = 70 ∧ 0 ≤ h.2.1 ∧ h.2.1 < (strs.length : Int)) ∨ ek h.1 = 7
def lenS : List Nat := strs.map List.length
def bytS : List (List Int32) := strs.map (fun l => l.map Int32.ofInt)
/-- what the tables say at a method's start -/
def VS (D : va_G) (dA : Nat → ClassId) (adK : Nat → Nat) (s : State) : Prop :=
  (∀ (c : Nat) (q : vw_C), crC[c]? = some q → u_Kn s q.1 q.2.1 q.2.2 (D.1 c) (D.2 c)) ∧ ArrOfT s (dA 0) .int ∧ ArrOfT s (dA 1) .boolean ∧ (∀ t, ek t = 3 → ∃ n, ArrOfT s (dA t) (.object n)) ∧
  (∀ z ∈ cSS, vk_R (cRn z.1) z.2.1 (cTx.getD z.2.2.1.toNat "") (adK z.2.2.1.toNat) s) ∧ (∀ z ∈ cGS, va_Nw (.fieldLinkNest (cRn z.1) z.2.1 "ClosedRooms" (cSt z.2.2.1) "[I" "ClosedRooms") s) ∧
  ∀ z ∈ cCS, z.2.2.2.1 ≠ 0 → va_Nw (.methodLinkNest (cRn z.1) z.2.1 (xY z.2.2.1) "ClosedRooms") s
/-- what the heap holds of what nobody writes -/
def RO (b0 : Nat) (adK adV adT : Nat → Nat) (s : State) (H : Heap) : Prop :=
  vk_S 26 lenS bytS adK adV (A0 b0) s H ∧ (∀ t, ek t = 7 → va_Z "ClosedRooms" (cSt t) "[I" (.ref (adT t)) (A0 b0) s H ∧ va_T .int (adT t) (al t).toNat (fun j => .int (Int32.ofInt (stv t (j : Int)))) (A0 b0) s H) ∧
  va_Z "java/lang/String" "COMPACT_STRINGS" "Z" (.int 1) (A0 b0) s H ∧ va_Zq "jdk/internal/util/Preconditions" "SIOOBE_FORMATTER" "Ljava/util/function/BiFunction;" (A0 b0) s H
theorem VS.warm {D : va_G} {dA : Nat → ClassId} {adK : Nat → Nat} {s U : State} (hW : s.WarmedH U.vm) (h : VS D dA adK s) : VS D dA adK U := by
  obtain ⟨h1, h2, h3, h4, h5, h6, h7⟩ := h
  have hv := hW.alike
  refine ⟨fun c q hq => u_Kn_moved hv (h1 c q hq), arrOfT_moved hv h2, arrOfT_moved hv h3, fun t ht => ?_, fun z hz => (h5 z hz).warm hW, fun z hz => (h6 z hz).warmF hW, fun z hz hn => (h7 z hz hn).warmM hW⟩
  obtain ⟨n, hn⟩ := h4 t ht
  exact ⟨n, arrOfT_moved hv hn⟩
theorem VS.same {D : va_G} {dA : Nat → ClassId} {adK : Nat → Nat} {s U : State} (hv : U.vm = s.vm) (h : VS D dA adK s) : VS D dA adK U := by
  obtain ⟨h1, h2, h3, h4, h5, h6, h7⟩ := h
  have ha : s.vm.Alike U.vm := by rw [hv]; exact Vm.Alike.refl _
  refine ⟨fun c q hq => u_Kn_moved ha (h1 c q hq), arrOfT_moved ha h2, arrOfT_moved ha h3, fun t ht => ?_, fun z hz => (h5 z hz).same hv, fun z hz => (h6 z hz).same rfl hv.symm, fun z hz hn => (h7 z hz hn).same rfl hv.symm⟩
  obtain ⟨n, hn⟩ := h4 t ht
  exact ⟨n, arrOfT_moved ha hn⟩
theorem RO.moved {b0 : Nat} {adK adV adT : Nat → Nat} {s U : State} {H : Heap} (hv : s.vm.Alike U.vm) (h : RO b0 adK adV adT s H) : RO b0 adK adV adT U H :=
  ⟨h.1.moved hv, fun t ht => ⟨(h.2.1 t ht).1.moved hv, (h.2.1 t ht).2.moved hv⟩, h.2.2.1.moved hv, h.2.2.2.elim (fun z => Or.inl (z.moved hv)) (fun ⟨t, z⟩ => Or.inr ⟨t, z.moved hv⟩)⟩
theorem RO.kept {b0 : Nat} {adK adV adT : Nat → Nat} {s : State} {H H1 : Heap} (h : RO b0 adK adV adT s H) (hq : ∀ a : Nat, a < H.size → ¬ A0 b0 a → H1[a]? = H[a]?) : RO b0 adK adV adT s H1 :=
  ⟨h.1.kept hq, fun t ht => ⟨(h.2.1 t ht).1.kept hq, (h.2.1 t ht).2.kept hq⟩, h.2.2.1.kept hq, h.2.2.2.elim (fun z => Or.inl (z.kept hq)) (fun ⟨t, z⟩ => Or.inr ⟨t, z.kept hq⟩)⟩
section SND
variable {D : va_G} {dA : Nat → ClassId} {ad : HD → Nat} {VW : HD → Prop} {b0 : Nat} {adK adV adT : Nat → Nat}
variable {p : Program} {l : Launch} {e : Env} {s : State} {m : MethodId} {args : Array Value} {below : List Frame} {meth : Method} {c : Code}
/-- how a method ends -/
def SQ (D : va_G) (dA : Nat → ClassId) (ad : HD → Nat) (VW : HD → Prop) (b0 : Nat) (adK adV adT : Nat → Nat) (Q : Option AV → ST → Prop) : Array Value → State → Outcome → State → Prop := fun _ _ o t =>
  ∃ r σ', o = .returned (r.map (conc ad)) ∧ Q r σ' ∧ Rel D dA ad VW σ' t.heap ∧ RO b0 adK adV adT t t.heap ∧ Cn σ' ∧ ∀ v, r = some v → okv (Vv VW) v
def RMx (a : Nat) : Room := { frames := iF a, cells := 0, slots := 0, locals := iL a }
/-- the frame of a method's own -/
def FX (a : Nat) (p : Program) (s : State) (m : MethodId) (args : Array Value) (meth : Method) (c : Code) : Prop :=
  p.tables.exec = Jvm.exec ∧ c.code = iB a ∧ c.maxLocals = mxl a ∧ s.vm.findClass (cRn (iO a)) = some m.cls ∧ (∀ w ∈ TB, w.before args s = true) ∧ meth.sig.returnType = iR a ∧ meth.locks = false
def IV (D : va_G) (dA : Nat → ClassId) (ad : HD → Nat) (VW : HD → Prop) (b0 : Nat) (adK adV adT : Nat → Nat) (a : Nat) (s : State) (σ : ST) (H : Heap) (locs : List Loc) (ls : Array Slot) (L : LV) (st : List AV) : Prop :=
  Rel D dA ad VW σ H ∧ RO b0 adK adV adT s H ∧ Cn σ ∧ LH ad (mxl a) ls L ∧ NL (hlm a) L ∧ (∀ i v, L.getD i none = some v → okv (Vv VW) v) ∧ (∀ v ∈ st, okv (Vv VW) v) ∧ ∀ q ∈ locs, A0 b0 q.base
/-- from this place on the method ends as Q says -/
def WG (D : va_G) (dA : Nat → ClassId) (ad : HD → Nat) (VW : HD → Prop) (b0 : Nat) (adK adV adT : Nat → Nat) (p : Program) (l : Launch) (e : Env) (s : State) (m : MethodId) (args : Array Value) (below : List Frame) (meth : Method) (c : Code) (a : Nat) (Q : Option AV → ST → Prop) (pc : Nat) (L : LV) (st : List AV) (σ : ST) : Prop :=
  ∀ (H : Heap) (locs : List Loc) (ls : Array Slot), IV D dA ad VW b0 adK adV adT a s σ H locs ls L st →
    W p l e (RMx a) s m args below meth c H locs 0 0 (MQ below (SQ D dA ad VW b0 adK adV adT Q) args s 0 0 (A0 b0)) (F0 m pc ls (st.map (conc ad)))
theorem okcons {V : HD → Prop} {v : AV} {st : List AV} (h : okv V v) (hs : ∀ v ∈ st, okv V v) : ∀ w ∈ v :: st, okv V w := fun w hw => (List.mem_cons.mp hw).elim (fun e => e ▸ h) (hs w)
theorem Cn_in {σ : ST} (h : Cn σ) {t : Nat} {k i s : Int} (hn : ¬ (t = 40 ∧ s = 8)) : in32 (σ t k i s) := by
  have h1 := h t k i s
  rwa [if_neg hn] at h1
theorem Cn_64 {σ : ST} (h : Cn σ) {k i : Int} : in64 (σ 40 k i 8) := by
  have h1 := h 40 k i 8
  rwa [if_pos ⟨rfl, rfl⟩] at h1
theorem Cn_up {σ : ST} (h : Cn σ) {t : Nat} {k i s x : Int} (hx : if t = 40 ∧ s = 8 then in64 x else in32 x) : Cn (up σ t k i s x) := by
  intro t' k' i' s'
  unfold up
  by_cases e : t' = t ∧ k' = k ∧ i' = i ∧ s' = s
  · rw [if_pos e, e.1, e.2.2.2]
    exact hx
  · rw [if_neg e]
    exact h t' k' i' s'
theorem up_ne {σ : ST} {t t' : Nat} {k i s x k' i' s' : Int} (h : ¬ (t' = t ∧ k' = k ∧ i' = i)) : up σ t k i s x t' k' i' s' = σ t' k' i' s' := by
  unfold up
  rw [if_neg fun e => h ⟨e.1, e.2.1, e.2.2.1⟩]
theorem up_at {σ : ST} {t : Nat} {k i s x s' : Int} : up σ t k i s x t k i s' = if s' = s then x else σ t k i s' := by
  unfold up
  by_cases e : s' = s
  · rw [if_pos ⟨rfl, rfl, rfl, e⟩, if_pos e]
  · rw [if_neg (fun z => e z.2.2.2), if_neg e]
/-- one cell was written -/
theorem Rel_set (hE : EV ad VW b0 adK adT) {σ σ' : ST} {H H1 : Heap} {t : Nat} {k i : Int} (hR : Rel D dA ad VW σ H) (hV : VW (t, k, i)) (hq : ∀ q : Nat, q ≠ ad (t, k, i) → H1[q]? = H[q]?) (hs : ∀ t' k' i' s', ¬ (t' = t ∧ k' = k ∧ i' = i) → σ' t' k' i' s' = σ t' k' i' s') (hn : RC D dA ad σ' H1 t k i) : Rel D dA ad VW σ' H1 := by
  intro t' k' i' hV'
  by_cases e : t' = t ∧ k' = k ∧ i' = i
  · obtain ⟨rfl, rfl, rfl⟩ := e
    exact hn
  · refine (hR t' k' i' hV').kept (hq _ fun z => e ?_) (fun s' => hs t' k' i' s' e)
    have := hE.1 _ _ hV' hV z
    simp only [Prod.mk.injEq] at this
    exact this
theorem RO_put (hE : EV ad VW b0 adK adT) {H H1 : Heap} {h : HD} (hV : VW h) (hq : ∀ q : Nat, q ≠ ad h → H1[q]? = H[q]?) (hO : RO b0 adK adV adT s H) : RO b0 adK adV adT s H1 :=
  hO.kept fun a _ hA => hq a fun z => hA (by rw [z]; exact hE.2.1 h hV)
/-- an object's handle -/
theorem V_obj {t : Nat} {k i : Int} (h : Vv VW (t, k, i)) (hc : cof t < 11) : VW (t, k, i) := by
  rcases h with h | h | h
  · exact h
  · exfalso
    have h1 : t = 70 := h.1
    subst h1
    exact absurd hc (by decide)
  · exfalso
    have h1 : ek t = 7 := h
    have h2 := cof_tags hc
    simp only [List.mem_cons, List.not_mem_nil, or_false] at h2
    rcases h2 with rfl | rfl | rfl | rfl | rfl | rfl | rfl | rfl | rfl | rfl | rfl <;> exact absurd h1 (by decide)
theorem V_arr {t : Nat} {k i : Int} (h : Vv VW (t, k, i)) (hc : ek t ≠ 7 ∧ ek t ≠ 9) : VW (t, k, i) := by
  rcases h with h | h | h
  · exact h
  · exfalso
    have h1 : t = 70 := h.1
    subst h1
    exact hc.2 (by decide)
  · exact absurd h hc.1
end SND
