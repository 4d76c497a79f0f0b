/-! the law's own frame: one case of its switch -/
theorem Met_framed {l : Launch} {y : MethodName} {ws : List Cond} {rm : Room} {Pc : Array Value → State → Prop} {Qc : Array Value → State → Outcome → State → Prop} {mc ms : Nat} {free : Addr → Prop} (h : Met l y ws rm Pc Qc mc ms free) : Met l y ws rm Pc (fun a s o t => Qc a s o t ∧ ∀ (q : Nat) (c : Cell), s.heap[q]? = some c → ¬ free q → t.heap[q]? = some c) mc ms free := by
  intro p e ha hf hc s m args below hs happ hP hK
  obtain ⟨n, o, h1, h2, h3, hQ, L, hF, hL⟩ := h p e ha hf hc s m args below hs happ hP hK
  refine ⟨n, o, h1, h2, h3, ⟨hQ, fun q c hq hn => ?_⟩, L, hF, hL⟩
  obtain ⟨-, -, hsame⟩ := hF
  obtain ⟨-, -, -, -, -, hcell⟩ := hsame
  obtain ⟨c', e1, e2, e3, e4⟩ := hcell q c hq
  have e5 : c'.slots = c.slots := Array.ext_getElem? fun i => e4 i fun hm => hn (hL _ hm)
  rw [e5] at e2
  exact e1.trans (congrArg some e2)
def lD (pc : Nat) (ins : Instr) (len : Nat) : Bool := decide (decode code pc = .ok (ins, len))
theorem lD_of {pc len : Nat} {ins : Instr} (h : lD pc ins len = true) : decode code pc = .ok (ins, len) := of_decide_eq_true h
def adI (h : HD) : Nat := h.1
def ra (a : Nat) : AV := .inr (.inr (a, 0, 0))
def LF (p : Program) (s : State) (m : MethodId) (b : Nat) (meth : Method) (c : Code) : Prop := p.tables.exec = Jvm.exec ∧ c.code = code ∧ c.maxLocals = 7 ∧ s.vm.findClass "ClosedRoomsLaw" = some m.cls ∧ ∀ w ∈ TB, w.before #[Value.ref b] s = true
def LL (b b0 : Nat) (i : Int) : LV := [some (ra b), some (ra b0), some (ra (b0 + 2749)), some (ra (b0 + 2761)), some (.inl i), none, none]
/-- a method of the tables, called from one that isn't in them -/
def xM (own : String) (F Lo ix a h n cl : Nat) : Bool := Nat.blt a 334 && (tat h (.methodLink own ix (iY a)) && (!(iSt a) && (Nat.ble (iF a + 1) F && (Nat.ble (8 + (mxl a + 11) + iL a) Lo && (decide ((parseMethodDescriptor (iY a).desc).map (fun d => d.parameters.length) = some n) && (Nat.beq (iO a) cl && Nat.ble (n + 1) (mth a).2.1))))))
def lM (ix a h n cl : Nat) : Bool := xM "ClosedRoomsLaw" 13 496 ix a h n cl
def argA (xs : Nat → Int32) (i k : Nat) : Nat → List AV
  | 0 => []
  | n + 1 => .inl (xs (i + k)).toInt :: argA xs i (k + 1) n
theorem argA_len (xs : Nat → Int32) (i : Nat) : ∀ (n k : Nat), (argA xs i k n).length = n
  | 0, _ => rfl
  | n + 1, k => congrArg Nat.succ (argA_len xs i n (k + 1))
theorem argA_cats (xs : Nat → Int32) (i : Nat) : ∀ (n k : Nat), cats (argA xs i k n) = n
  | 0, _ => rfl
  | n + 1, k => by
    show 1 + cats (argA xs i (k + 1) n) = n + 1
    rw [argA_cats xs i n (k + 1)]
    omega
theorem i32_in (x : Int32) : in32 x.toInt := ⟨Int32.le_toInt x, Int32.toInt_lt x⟩
theorem argA_ok {V : HD → Prop} (xs : Nat → Int32) (i : Nat) : ∀ (n k : Nat), ∀ w ∈ argA xs i k n, okv V w
  | 0, _, w, h => by cases h
  | n + 1, k, w, h => by
    rcases List.mem_cons.mp h with rfl | h
    · exact i32_in _
    · exact argA_ok xs i n (k + 1) w h
def lA (pc k : Nat) : Bool := lD pc (.aload_n 0) 1 && (lD (pc + 1) (.iload 4) 2 && (lD (pc + 3) (.iconst (k : Int)) 1 && (lD (pc + 4) .iadd 1 && lD (pc + 5) .iaload 1)))
def lAs (pc k : Nat) : Nat → Bool
  | 0 => true
  | n + 1 => lA pc k && lAs (pc + 6) (k + 1) n
def lBl (r : Fin 4) (pc n ix : Nat) : Bool := lD pc (.aload_n r) 1 && (lAs (pc + 1) 1 n && lD (pc + 1 + 6 * n) (.invokevirtual ix) 3)
section XCL
variable {D : va_G} {dA : Nat → ClassId} {b0 : Nat} {adK adV adT : Nat → Nat}
variable {p : Program} {l : Launch} {e : Env} {R : Room} {s : State} {m : MethodId} {args : Array Value} {below : List Frame} {meth : Method} {c : Code} {H : Heap} {locs : List Loc} {cells slots : Nat} {Q : State → Prop}
variable {cc : ByteArray} {pc nL : Nat} {ls : Array Slot} {rest : List Value} {own : String}
theorem x_call {F Lo a ix h n cl t : Nat} {k i : Int} {ar : List AV} {σ : ST} {Q1 : Option AV → ST → Prop} (hx : p.tables.exec = Jvm.exec) (hb : c.code = cc) (hml : c.maxLocals = nL) (hown : s.vm.findClass own = some m.cls) (hts : ∀ w ∈ TB, w.before args s = true) (hS : VS D dA adK s) (hR : Rel D dA (adr b0 adK adT) VW0 σ H) (hO : RO b0 adK adV adT s H) (hC : Cn σ) (hV : VW0 (t, k, i)) (hct : cof t = cl) (hcl : cl < 11) (hM : xM own F Lo ix a h n cl = true) (har : ar.length = n) (hcat : cats ar = n) (hok : ∀ w ∈ ar, okv (Vv VW0) w) (hw : wpM a (.inr (.inr (t, k, i)) :: ar) σ Q1)
    (hR1 : F ≤ R.frames ∧ Lo ≤ R.locals) (hrest : (rest.map fun v => v.category).sum ≤ 8) (hsz : ls.size = nL) (hf : cells ≤ R.cells ∧ slots ≤ R.slots) (hdg : decode cc pc = .ok (.invokevirtual ix, 3))
    (kk : ∀ (r : Option AV) (σ' : ST) (H1 : Heap) (L : List Loc), Q1 r σ' → Rel D dA (adr b0 adK adT) VW0 σ' H1 → RO b0 adK adV adT s H1 → Cn σ' → (∀ v, r = some v → okv (Vv VW0) v) → (∀ (q : Nat) (c : Cell), H[q]? = some c → ¬ A0 b0 q → H1[q]? = some c) → (∀ q ∈ L, A0 b0 q.base) → W p l e R s m args below meth c H1 (locs ++ L) cells slots Q (F0 m (pc + 3) ls ((r.map (conc (adr b0 adK adT))).toList ++ rest))) :
    W p l e R s m args below meth c H locs cells slots Q (F0 m pc ls ((ar.map (conc (adr b0 adK adT))).reverse ++ .ref (adr b0 adK adT (t, k, i)) :: rest)) := by
  simp only [xM, Bool.and_eq_true, Nat.blt_eq, decide_eq_true_eq, Bool.not_eq_true'] at hM
  obtain ⟨ha, hl, hst, h1, h2, h3, h4, h5⟩ := hM
  replace h1 := Nat.le_of_ble_eq_true h1
  replace h2 := Nat.le_of_ble_eq_true h2
  replace h4 := Nat.eq_of_beq_eq_true h4
  obtain ⟨⟨w1, w2, w3, w4, w5⟩, w6⟩ := okW_at ha
  rcases w6 with ⟨w6, -⟩ | ⟨w6, w7, w8⟩
  · rw [hst] at w6; cases w6
  have hE := EV0 b0 adK adT
  have hag : agk a (.inr (.inr (t, k, i)) :: ar) = true := by
    have e1 : cats (.inr (.inr (t, k, i)) :: ar) = n + 1 := by
      show 1 + cats ar = n + 1
      omega
    unfold agk
    rw [e1, h5, List.length_cons, har, Nat.beq_refl, Bool.or_true]
    rfl
  have hav : ∀ w ∈ (.inr (.inr (t, k, i)) :: ar : List AV), okv (Vv VW0) w := fun w hw => (List.mem_cons.mp hw).elim (fun e => by rw [e]; exact Or.inl hV) (hok w)
  have hMt := Met_framed (sound (D := D) (dA := dA) (adV := adV) l hE ha hag hav hw)
  have hct' : cof t < 11 := by omega
  have hr := va_runV (p := p) (e := e) (R := R) (s := s) (m := m) (args := args) (below := below) (meth := meth) (c := c) (H := H) (locs := locs) (cells := cells) (slots := slots) (g := F0 m pc ls ((ar.map (conc (adr b0 adK adT))).reverse ++ .ref (adr b0 adK adT (t, k, i)) :: rest)) (C := (iY a).cls) (b := adr b0 adK adT (t, k, i)) (n := n) (As := ar.map (conc (adr b0 adK adT))) (rest := rest) ⟨hx, hb, hml, hown, hts⟩ hMt
    ⟨callB_of n hts (gw_in ha) rfl rfl rfl (hts _ w2) (hts _ (tb_at hl)) ⟨w5.1, w5.2, h3⟩ ⟨Nat.le_trans h1 hR1.1, Nat.le_trans h2 hR1.2⟩, hts _ w7, hts _ w8⟩
    ⟨PX_blind, (by rw [← w3, h4, ← hct]; exact recv hS hR hV hct'), fun U hU hW => PX_at hS hR hO hC U hU hW⟩ rfl (by rw [List.length_map]; exact har) hsz rfl (by show 2 * 0 + _ ≤ 8; omega) hdg ⟨hf.1, hf.2⟩
  intro T hT X
  obtain ⟨v, st₀, t', T', L, h0, X', hL, e1, e2, ⟨⟨r, σ', hv, hq, hR, hO, hC, hk⟩, hfr⟩, st⟩ := hr T hT X
  have hv' : v = r.map (conc (adr b0 adK adT)) := by injection hv
  subst hv'
  have hal : t'.vm.Alike s.vm := by
    rw [← e2]
    exact X'.warmed.alike.symm
  obtain ⟨t2, a1, b1⟩ := kk r σ' T'.heap L hq (by rw [e1]; exact hR) (by rw [e1]; exact hO.moved hal) hC hk (fun q c hq hn => by rw [e1]; exact hfr q c (by rw [h0]; exact hq) hn) hL T' rfl X'
  exact ⟨t2, st t2 a1, b1⟩
end XCL
section LAW
variable {D : va_G} {dA : Nat → ClassId} {b0 : Nat} {adK adV adT : Nat → Nat}
variable {p : Program} {l : Launch} {e : Env} {R : Room} {s : State} {m : MethodId} {b : Nat} {below : List Frame} {meth : Method} {c : Code} {H : Heap} {locs : List Loc} {cells slots : Nat} {Q : State → Prop}
variable {pc : Nat} {ls : Array Slot} {rest : List Value} {L : Nat} {xs : Nat → Int32}
/-- a call of the law's -/
theorem l_call {a ix h n cl t : Nat} {k i : Int} {ar : List AV} {σ : ST} {Q1 : Option AV → ST → Prop} (hF : LF p s m b meth c) (hS : VS D dA adK s) (hR : Rel D dA (adr b0 adK adT) VW0 σ H) (hO : RO b0 adK adV adT s H) (hC : Cn σ) (hV : VW0 (t, k, i)) (hct : cof t = cl) (hcl : cl < 11) (hM : lM ix a h n cl = true) (har : ar.length = n) (hcat : cats ar = n) (hok : ∀ w ∈ ar, okv (Vv VW0) w) (hw : wpM a (.inr (.inr (t, k, i)) :: ar) σ Q1)
    (hR1 : R.frames = 13 ∧ R.locals = 496) (hrest : (rest.map fun v => v.category).sum ≤ 8) (hsz : ls.size = 7) (hf : cells ≤ R.cells ∧ slots ≤ R.slots) (hlc : ∀ q ∈ locs, A0 b0 q.base) (hdg : decode code pc = .ok (.invokevirtual ix, 3))
    (kk : ∀ (r : Option AV) (σ' : ST) (H1 : Heap) (locs1 : List Loc), Q1 r σ' → Rel D dA (adr b0 adK adT) VW0 σ' H1 → RO b0 adK adV adT s H1 → Cn σ' → (∀ v, r = some v → okv (Vv VW0) v) → (∀ (q : Nat) (c : Cell), H[q]? = some c → ¬ A0 b0 q → H1[q]? = some c) → (∀ q ∈ locs1, A0 b0 q.base) → W p l e R s m #[Value.ref b] below meth c H1 locs1 cells slots Q (F0 m (pc + 3) ls ((r.map (conc (adr b0 adK adT))).toList ++ rest))) :
    W p l e R s m #[Value.ref b] below meth c H locs cells slots Q (F0 m pc ls ((ar.map (conc (adr b0 adK adT))).reverse ++ .ref (adr b0 adK adT (t, k, i)) :: rest)) := by
  obtain ⟨hx, hb, hml, hown, hts⟩ := hF
  exact x_call hx hb hml hown hts hS hR hO hC hV hct hcl hM har hcat hok hw ⟨by omega, by omega⟩ hrest hsz hf hdg fun r σ' H1 L q1 q2 q3 q4 q5 q6 q7 => kk r σ' H1 _ q1 q2 q3 q4 q5 q6 fun q hq => (List.mem_append.mp hq).elim (hlc q) (q7 q)
/-- the script's ints are laid on the stack -/
theorem l_args {hx : p.tables.exec = Jvm.exec} {hb : c.code = code} {i : Nat} {ad : HD → Nat} (hX : va_X b L xs s H) (hL : L ≤ 3072) (h0 : ls[0]? = some (.val (.ref b))) (h4 : ls[4]? = some (.val (.int (Int32.ofInt (i : Int))))) : ∀ (n k pc : Nat) (st : List Value), i + k + n ≤ L + 0 → lAs pc k n = true →
    W p l e R s m #[Value.ref b] below meth c H locs cells slots Q (F0 m (pc + 6 * n) ls (((argA xs i k n).map (conc ad)).reverse ++ st)) → W p l e R s m #[Value.ref b] below meth c H locs cells slots Q (F0 m pc ls st)
  | 0, k, pc, st, _, _, kk => kk
  | n + 1, k, pc, st, hin, hck, kk => by
    simp only [lAs, lA, Bool.and_eq_true] at hck
    obtain ⟨⟨d1, d2, d3, d4, d5⟩, hck⟩ := hck
    obtain ⟨scr, c1, c2, c3, c5, c6⟩ := hX
    have hlt : i + k < L := by omega
    have e1 : Int32.ofInt (i : Int) + Int32.ofInt (k : Int) = Int32.ofInt ((i + k : Nat) : Int) := by
      rw [← Int32.ofInt_add]
      rfl
    have h32 : in32 ((i + k : Nat) : Int) := ⟨by omega, by omega⟩
    have hcl := n_clamp (j := ((i + k : Nat) : Int)) (by omega) h32
    refine lv_aload_n hx hb (lD_of d1) rfl h0 (lv_iload hx hb (lD_of d2) h4 (lv_iconst hx hb (lD_of d3) rfl (lv_iadd hx hb (lD_of d4) ?_)))
    rw [e1]
    refine W.iald (v := .int (xs (i + k))) hx hb c1 c2 c3 (by rw [c5]; exact n_in (by omega) h32 (by omega)) (by rw [hcl, Int.toNat_natCast]; exact c6 _ hlt) rfl rfl (lD_of d5) ?_
    refine l_args (hx := hx) (hb := hb) (ad := ad) ⟨scr, c1, c2, c3, c5, c6⟩ hL h0 h4 n (k + 1) (pc + 6) (.int (xs (i + k)) :: st) (by omega) hck ?_
    have e2 : (((argA xs i k (n + 1)).map (conc ad)).reverse ++ st) = ((argA xs i (k + 1) n).map (conc ad)).reverse ++ .int (xs (i + k)) :: st := by
      show (((.int (Int32.ofInt (xs (i + k)).toInt)) :: (argA xs i (k + 1) n).map (conc ad)).reverse ++ st) = _
      rw [Int32.ofInt_toInt, List.reverse_cons, List.append_assoc]
      rfl
    rw [e2] at kk
    rwa [show pc + 6 * (n + 1) = pc + 6 + 6 * n by omega] at kk
/-- what holds between two calls of the law's -/
def LI (D : va_G) (dA : Nat → ClassId) (b0 : Nat) (adK adV adT : Nat → Nat) (b L : Nat) (xs : Nat → Int32) (dL : ClassId) (s : State) (σ : ST) (n : Int) (H : Heap) : Prop :=
  Rel D dA (adr b0 adK adT) VW0 σ H ∧ RO b0 adK adV adT s H ∧ Cn σ ∧ INV σ n ∧ va_X b L xs s H ∧ (∃ f, H[b0 + 2761]? = some (arrV dL 1 f)) ∧ ∀ (q : Nat) (c : Cell), s.heap[q]? = some c → H[q]? = some c
theorem old_kept {H1 : Heap} (h : ∀ (q : Nat) (c : Cell), s.heap[q]? = some c → H[q]? = some c) (hb0 : s.heap.size = b0) (hfr : ∀ (q : Nat) (c : Cell), H[q]? = some c → ¬ A0 b0 q → H1[q]? = some c) : ∀ (q : Nat) (c : Cell), s.heap[q]? = some c → H1[q]? = some c := fun q c hq => hfr q c (h q c hq) (fun z => by have z1 := z.1; have h1 := (Array.getElem?_eq_some_iff.mp hq).1; omega)
theorem X_kept {H1 : Heap} (hX : va_X b L xs s H) (hbl : b < b0) (hfr : ∀ (q : Nat) (c : Cell), H[q]? = some c → ¬ A0 b0 q → H1[q]? = some c) : va_X b L xs s H1 := by
  obtain ⟨scr, c1, c2⟩ := hX
  exact ⟨scr, hfr _ _ c1 (fun h => absurd h.1 (by omega)), c2⟩
theorem out_kept {H1 : Heap} {x : Cell} (h : H[b0 + 2761]? = some x) (hfr : ∀ (q : Nat) (c : Cell), H[q]? = some c → ¬ A0 b0 q → H1[q]? = some c) : H1[b0 + 2761]? = some x := hfr _ _ h (fun h => absurd h.2 (by omega))
theorem vw_X : VW0 (0, 0, 0) := ⟨by decide, by decide⟩
theorem vw_Z : VW0 (40, 0, 0) := ⟨by decide, by decide⟩
theorem ad_X : adr b0 adK adT (0, 0, 0) = b0 := (adr_V vw_X).trans (Nat.add_zero _)
theorem ad_Z : adr b0 adK adT (40, 0, 0) = b0 + 2749 := adr_V vw_Z
def lCk (q : Nat × Nat × Nat × Nat × Nat × Nat × Nat × Nat) : Bool := match q with
  | (pc, n, ixX, mX, hX, ixZ, mZ, hZ) => lBl 1 pc n ixX && (lBl 2 (pc + 4 + 6 * n) n ixZ && (lD (pc + 8 + 12 * n) (.if_icmp .eq (2056 - ((pc + 8 + 12 * n : Nat) : Int))) 3 && (lM ixX mX hX n 0 && (lM ixZ mZ hZ n 10 && Nat.ble n 5))))
def LLs (b b0 : Nat) (ls : Array Slot) (i : Nat) : Prop := LH adI 7 ls (LL b b0 (i : Int))
theorem LLs.g {i : Nat} (h : LLs b b0 ls i) : ls.size = 7 ∧ ls[0]? = some (.val (.ref b)) ∧ ls[1]? = some (.val (.ref b0)) ∧ ls[2]? = some (.val (.ref (b0 + 2749))) ∧ ls[3]? = some (.val (.ref (b0 + 2761))) ∧ ls[4]? = some (.val (.int (Int32.ofInt (i : Int)))) :=
  ⟨h.1, (h.2.2 0 (ra b) rfl).2, (h.2.2 1 (ra b0) rfl).2, (h.2.2 2 (ra (b0 + 2749)) rfl).2, (h.2.2 3 (ra (b0 + 2761)) rfl).2, (h.2.2 4 (.inl (i : Int)) rfl).2⟩
/-- one case: the same call on both, and the answers are one -/
theorem l_case {pc n ixX mX hX ixZ mZ hZ i : Nat} {nn : Int} {σ : ST} {dL : ClassId} (hck : lCk (pc, n, ixX, mX, hX, ixZ, mZ, hZ) = true) (hpr : PRf mX mZ (argA xs i 1 n)) (hF : LF p s m b meth c) (hS : VS D dA adK s) (hI : LI D dA b0 adK adV adT b L xs dL s σ nn H) (hn : nn + 20 ≤ 100000) (hb0 : s.heap.size = b0) (hbl : b < b0) (hL : L ≤ 3072) (hi : i + 6 ≤ L) (hls : LLs b b0 ls i)
    (hR1 : R.frames = 13 ∧ R.locals = 496) (hf : cells ≤ R.cells ∧ slots ≤ R.slots)
    (kk : ∀ (σ' : ST) (H1 : Heap), LI D dA b0 adK adV adT b L xs dL s σ' (nn + 20) H1 → W p l e R s m #[Value.ref b] below meth c H1 [] cells slots Q (F0 m 2056 ls [])) :
    W p l e R s m #[Value.ref b] below meth c H [] cells slots Q (F0 m pc ls []) := by
  obtain ⟨hR, hO, hC, hV, hX1, ⟨f, hout⟩, hold⟩ := hI
  obtain ⟨g0, g1, g2, g3, g4, g5⟩ := hls.g
  simp only [lCk, lBl, Bool.and_eq_true] at hck
  obtain ⟨⟨a1, a2, a3⟩, ⟨z1, z2, z3⟩, j1, mx, mz, n5⟩ := hck
  replace n5 := Nat.le_of_ble_eq_true n5
  obtain ⟨hx, hb, hml, hown, hts⟩ := id hF
  refine lv_aload_n hx hb (lD_of a1) rfl g2 (l_args (hx := hx) (hb := hb) (ad := adr b0 adK adT) hX1 hL g1 g5 n 1 (pc + 1) _ (by omega) a2 ?_)
  rw [show (Value.ref b0 :: [] : List Value) = Value.ref (adr b0 adK adT (0, 0, 0)) :: [] by rw [ad_X]]
  refine l_call (l := l) (adV := adV) hF hS hR hO hC vw_X rfl (by decide) mx (argA_len xs i n 1) (argA_cats xs i n 1) (argA_ok xs i n 1) (hpr σ nn hV hn (fun r r' s => r = r' ∧ INV s (nn + 20)) (fun r s h => ⟨rfl, h⟩)) hR1 (by decide) g0 hf (fun q h => by cases h) (lD_of a3) fun r σ1 H1 locs1 hq hR' hO' hC' ho hfr hl1 => ?_
  rcases r with _ | v | v | v <;> first | exact hq.elim | skip
  replace hq : wpM mZ (zz :: argA xs i 1 n) σ1 (asI fun r' s' => v = r' ∧ INV s' (nn + 20)) := hq
  have hX2 := X_kept hX1 hbl hfr
  have hv32 : in32 v := ho _ rfl
  refine va_forget (fun q h => by rw [hb0]; exact (hl1 q h).1) ?_
  rw [show pc + 1 + 6 * n + 3 = pc + 4 + 6 * n by omega]
  refine lv_aload_n hx hb (lD_of z1) rfl g3 (l_args (hx := hx) (hb := hb) (ad := adr b0 adK adT) hX2 hL g1 g5 n 1 (pc + 4 + 6 * n + 1) _ (by omega) z2 ?_)
  rw [show (Value.ref (b0 + 2749) :: ((Option.map (conc (adr b0 adK adT)) (some (.inl v : AV))).toList ++ []) : List Value) = Value.ref (adr b0 adK adT (40, 0, 0)) :: [.int (Int32.ofInt v)] by rw [ad_Z]; rfl]
  refine l_call (l := l) (adV := adV) hF hS hR' hO' hC' vw_Z rfl (by decide) mz (argA_len xs i n 1) (argA_cats xs i n 1) (argA_ok xs i n 1) hq hR1 (by show 1 ≤ 8; decide) g0 hf (fun q h => by cases h) (lD_of z3) fun r2 σ2 H2 locs2 hq2 hR2 hO2 hC2 ho2 hfr2 hl2 => ?_
  rcases r2 with _ | v2 | v2 | v2 <;> first | exact hq2.elim | skip
  obtain ⟨rfl, hV2⟩ := (hq2 : v = v2 ∧ INV σ2 (nn + 20))
  refine va_forget (fun q h => by rw [hb0]; exact (hl2 q h).1) ?_
  rw [show pc + 4 + 6 * n + 1 + 6 * n + 3 = pc + 8 + 12 * n by omega]
  refine lv_icmp_eq (tgt := 2056) hx hb (lD_of j1) (by omega) (fun _ => ?_) (fun q => absurd rfl q)
  exact kk σ2 H2 ⟨hR2, hO2, hC2, hV2, X_kept hX2 hbl hfr2, ⟨f, out_kept (out_kept hout hfr) hfr2⟩, old_kept (old_kept hold hb0 hfr) hb0 hfr2⟩
end LAW
/-! the cases of the law's switch; written by gen/law2.py -/
def lwT : List (Nat × Nat × Nat × Nat × Nat × Nat × Nat × Nat) := [
  (268, 5, 19, m_X_feed, 2198, 23, m_Z_feed, 7111),
  (341, 1, 24, m_X_end, 2209, 28, m_Z_end, 7118),
  (366, 1, 29, m_X_fault, 2213, 33, m_Z_fault, 7125),
  (391, 1, 34, m_X_text, 3121, 37, m_Z_text, 7217),
  (416, 1, 38, m_X_rule, 3158, 41, m_Z_rule, 9146),
  (441, 2, 42, m_X_page, 3162, 45, m_Z_page, 9150),
  (478, 2, 46, m_X_version, 3175, 49, m_Z_version, 9154),
  (515, 0, 0, 0, 0, 0, 0, 0),
  (583, 2, 60, m_X_mapped, 3184, 63, m_Z_mapped, 9166),
  (620, 2, 64, m_X_core, 3196, 67, m_Z_core, 9170),
  (657, 3, 68, m_X_seen, 3204, 72, m_Z_seen, 9174),
  (706, 2, 73, m_X_copyOf, 3208, 76, m_Z_copyOf, 9178),
  (743, 1, 77, m_X_create, 3216, 80, m_Z_create, 8001),
  (768, 0, 81, m_X_slots, 4229, 84, m_Z_slots, 9057),
  (781, 5, 85, m_X_add, 4233, 88, m_Z_add, 9061),
  (854, 2, 89, m_X_extend, 4237, 92, m_Z_extend, 9065),
  (891, 2, 93, m_X_seal, 5001, 96, m_Z_seal, 9070),
  (928, 3, 97, m_X_enter, 5005, 100, m_Z_enter, 9074),
  (977, 1, 101, m_X_leave, 5009, 104, m_Z_leave, 9078),
  (1002, 1, 105, m_X_trap, 5013, 108, m_Z_trap, 9082),
  (1027, 3, 109, m_X_resume, 5017, 112, m_Z_resume, 9086),
  (1076, 3, 113, m_X_touch, 5021, 116, m_Z_touch, 9090),
  (1125, 1, 117, m_X_block, 5025, 120, m_Z_block, 9094),
  (1150, 1, 121, m_X_track, 5029, 124, m_Z_track, 9098),
  (1175, 3, 125, m_X_evict, 5033, 128, m_Z_evict, 9102),
  (1224, 3, 129, m_X_load, 5037, 132, m_Z_load, 9106),
  (1273, 1, 133, m_X_remove, 5041, 136, m_Z_remove, 9110),
  (1298, 3, 137, m_X_map, 5045, 140, m_Z_map, 9114),
  (1347, 1, 141, m_X_twice, 5049, 144, m_Z_twice, 9118),
  (1372, 2, 145, m_X_change, 5053, 148, m_Z_change, 9122),
  (1409, 1, 149, m_X_drop, 5057, 152, m_Z_drop, 9126),
  (1434, 2, 153, m_X_tell, 5061, 156, m_Z_tell, 9130),
  (1471, 2, 157, m_X_report, 5065, 160, m_Z_report, 9182),
  (1508, 4, 161, m_X_proves, 5078, 165, m_Z_proves, 9190),
  (1569, 1, 166, m_X_status, 5082, 169, m_Z_status, 9134),
  (1594, 0, 170, m_X_undo, 5086, 173, m_Z_undo, 9138),
  (1607, 2, 174, m_X_log, 5090, 177, m_Z_log, 9142),
  (1644, 0, 178, m_X_old, 5098, 181, m_Z_old, 9194),
  (1657, 1, 182, m_X_twins, 5112, 185, m_Z_twins, 9202),
  (1682, 1, 186, m_X_waits, 5116, 189, m_Z_waits, 9206),
  (1707, 1, 190, m_X_leaks, 5122, 193, m_Z_leaks, 9210),
  (1732, 1, 194, m_X_lies, 5130, 197, m_Z_lies, 9214),
  (1757, 0, 198, m_X_victim, 5135, 201, m_Z_victim, 9218),
  (1770, 1, 202, m_X_paper, 5144, 205, m_Z_paper, 9225),
  (1795, 2, 206, m_X_alike, 5171, 210, m_Z_alike, 9237),
  (1832, 0, 0, 0, 0, 0, 0, 0),
  (1869, 3, 215, m_X_step, 6113, 218, m_Z_step, 10011),
  (1918, 2, 219, m_X_run, 6119, 222, m_Z_run, 10015),
  (1955, 1, 223, m_X_perform, 6130, 226, m_Z_perform, 10023),
  (1980, 1, 227, m_X_all, 6138, 230, m_Z_all, 10027),
  (2005, 0, 231, m_X_image, 6172, 234, m_Z_image, 10059),
  (2018, 0, 235, m_X_back, 6182, 238, m_Z_back, 10066),
  (2031, 1, 239, m_X_count, 6186, 242, m_Z_count, 10070)]
theorem lwT_ok : (List.range 53).all (fun j => Nat.beq j 7 || (Nat.beq j 45 || lCk (lwT.getD j (0, 0, 0, 0, 0, 0, 0, 0)))) = true := by decide +kernel
def lwO : Array Int := #[228, 301, 326, 351, 376, 401, 438, 475, 543, 580, 617, 666, 703, 728, 741, 814, 851, 888, 937, 962, 987, 1036, 1085, 1110, 1135, 1184, 1233, 1258, 1307, 1332, 1369, 1394, 1431, 1468, 1529, 1554, 1567, 1604, 1617, 1642, 1667, 1692, 1717, 1730, 1755, 1792, 1829, 1878, 1915, 1940, 1965, 1978, 1991]
theorem l_sw : decode code 40 = .ok (.tableswitch 2016 0 52 lwO, 228) := by decide +kernel
theorem lwO_ok : (List.range 53).all (fun j => decide (lwO[j]? = some (((lwT.getD j (0, 0, 0, 0, 0, 0, 0, 0)).1 : Int) - 40))) = true := by decide +kernel
theorem l_pr (xs : Nat → Int32) (i : Nat) : ∀ j : Nat, j < 53 → j ≠ 7 → j ≠ 45 → PRf (lwT.getD j (0, 0, 0, 0, 0, 0, 0, 0)).2.2.2.1 (lwT.getD j (0, 0, 0, 0, 0, 0, 0, 0)).2.2.2.2.2.2.1 (argA xs i 1 (lwT.getD j (0, 0, 0, 0, 0, 0, 0, 0)).2.1)
  | 0, _, _, _ => PR_feed _ _ _ _ _
  | 1, _, _, _ => PR_end _
  | 2, _, _, _ => PR_fault _
  | 3, _, _, _ => PR_text _
  | 4, _, _, _ => PR_rule _
  | 5, _, _, _ => PR_page _ _
  | 6, _, _, _ => PR_version _ _
  | 7, _, h, _ => absurd rfl h
  | 8, _, _, _ => PR_mapped _ _
  | 9, _, _, _ => PR_core _ _
  | 10, _, _, _ => PR_seen _ _ _
  | 11, _, _, _ => PR_copyOf _ _
  | 12, _, _, _ => PR_create _
  | 13, _, _, _ => PR_slots
  | 14, _, _, _ => PR_add _ _ _ _ _
  | 15, _, _, _ => PR_extend _ _
  | 16, _, _, _ => PR_seal _ _
  | 17, _, _, _ => PR_enter _ _ _
  | 18, _, _, _ => PR_leave _
  | 19, _, _, _ => PR_trap _
  | 20, _, _, _ => PR_resume _ _ _
  | 21, _, _, _ => PR_touch _ _ _
  | 22, _, _, _ => PR_block _
  | 23, _, _, _ => PR_track _
  | 24, _, _, _ => PR_evict _ _ _
  | 25, _, _, _ => PR_load _ _ _
  | 26, _, _, _ => PR_remove _
  | 27, _, _, _ => PR_map _ _ _
  | 28, _, _, _ => PR_twice _
  | 29, _, _, _ => PR_change _ _
  | 30, _, _, _ => PR_drop _
  | 31, _, _, _ => PR_tell _ _
  | 32, _, _, _ => PR_report _ _
  | 33, _, _, _ => PR_proves _ _ _ _
  | 34, _, _, _ => PR_status _
  | 35, _, _, _ => PR_undo
  | 36, _, _, _ => PR_log _ _
  | 37, _, _, _ => PR_old
  | 38, _, _, _ => PR_twins _
  | 39, _, _, _ => PR_waits _
  | 40, _, _, _ => PR_leaks _
  | 41, _, _, _ => PR_lies _
  | 42, _, _, _ => PR_victim
  | 43, _, _, _ => PR_paper _
  | 44, _, _, _ => PR_alike _ _
  | 45, _, _, h => absurd rfl h
  | 46, _, _, _ => PR_step _ _ _
  | 47, _, _, _ => PR_run _ _
  | 48, _, _, _ => PR_perform _
  | 49, _, _, _ => PR_all _
  | 50, _, _, _ => PR_image
  | 51, _, _, _ => PR_back
  | 52, _, _, _ => PR_count _
  | j + 53, h, _, _ => absurd h (by omega)
theorem and_63 (z : Int) : 0 ≤ i_and z 63 ∧ i_and z 63 ≤ 63 := by
  have h1 : (Int32.ofInt z &&& Int32.ofInt 63).toBitVec.toNat ≤ 63 := by
    rw [Int32.toBitVec_and, BitVec.toNat_and]
    exact Nat.le_trans Nat.and_le_right (by decide)
  have h2 : (Int32.ofInt z &&& Int32.ofInt 63).toBitVec.toInt = ((Int32.ofInt z &&& Int32.ofInt 63).toBitVec.toNat : Int) := BitVec.toInt_eq_toNat_of_lt (by omega)
  have h3 : i_and z 63 = (Int32.ofInt z &&& Int32.ofInt 63).toBitVec.toInt := rfl
  omega
theorem LL_cat {b b0 : Nat} {i : Int} {j : Nat} {w : AV} (hj : (LL b b0 i).getD j none = some w) : cat w = 1 := by
  rcases j with _ | _ | _ | _ | _ | _ | _ | j <;> cases hj <;> rfl
section LOOP
variable {D : va_G} {dA : Nat → ClassId} {b0 : Nat} {adK adV adT : Nat → Nat}
variable {p : Program} {l : Launch} {e : Env} {R : Room} {s : State} {m : MethodId} {b : Nat} {below : List Frame} {meth : Method} {c : Code} {Q : State → Prop}
variable {L : Nat} {xs : Nat → Int32} {dL : ClassId}
/-- one case of the switch, whichever: from its place to the loop's end -/
def LCase (D : va_G) (dA : Nat → ClassId) (b0 : Nat) (adK adV adT : Nat → Nat) (p : Program) (l : Launch) (e : Env) (R : Room) (s : State) (m : MethodId) (b : Nat) (below : List Frame) (meth : Method) (c : Code) (Q : State → Prop) (L : Nat) (xs : Nat → Int32) (dL : ClassId) (pc : Nat) : Prop :=
  ∀ (σ : ST) (nn : Int) (H : Heap) (i : Nat) (ls : Array Slot) (cells slots : Nat), LI D dA b0 adK adV adT b L xs dL s σ nn H → nn + 20 ≤ 100000 → i + 6 ≤ L → LLs b b0 ls i → cells + 12 ≤ R.cells ∧ slots + 240 ≤ R.slots →
    (∀ (σ' : ST) (H1 : Heap) (ls1 : Array Slot), LI D dA b0 adK adV adT b L xs dL s σ' (nn + 20) H1 → LLs b b0 ls1 i → W p l e R s m #[Value.ref b] below meth c H1 [] (cells + 12) (slots + 240) Q (F0 m 2056 ls1 [])) → W p l e R s m #[Value.ref b] below meth c H [] cells slots Q (F0 m pc ls [])
theorem l_case' {pc n ixX mX hX ixZ mZ hZ : Nat} (hck : lCk (pc, n, ixX, mX, hX, ixZ, mZ, hZ) = true) (hpr : ∀ i, PRf mX mZ (argA xs i 1 n)) (hF : LF p s m b meth c) (hS : VS D dA adK s) (hb0 : s.heap.size = b0) (hbl : b < b0) (hL : L ≤ 3072) (hR1 : R.frames = 13 ∧ R.locals = 496) : LCase D dA b0 adK adV adT p l e R s m b below meth c Q L xs dL pc := by
  intro σ nn H i ls cells slots hI hn hi hls hf kk
  refine l_case hck (hpr i) hF hS hI hn hb0 hbl hL hi hls hR1 ⟨by omega, by omega⟩ fun σ' H1 hI1 => ?_
  exact W.widen (by omega) (by omega) (kk σ' H1 ls hI1 hls)
theorem LLs_inc {ls ls' : Array Slot} {i : Nat} {v : Int32} (h : LLs b b0 ls i) (hv : v = Int32.ofInt ((i + 6 : Nat) : Int)) (hl' : lv_has ls' 7 ((4, Value.int v) :: (lvs adI 7 (LL b b0 (i : Int))).filter (fun q => !(q.1 == 4) && !(q.1 + 1 == 4 && q.2.category == 2)))) : LLs b b0 ls' (i + 6) := by
  subst hv
  have h1 := has_LH (hl := false) (ad := adI) (v := .inl ((i + 6 : Nat) : Int)) (i := 4) (n := 7) (fun _ j w hj => LL_cat hj) (by decide) (fun j w hj => (h.2.2 j w hj).1) hl'
  exact h1
/-- the loop -/
theorem l_loop (hF : LF p s m b meth c) (hS : VS D dA adK s) (hb0 : s.heap.size = b0) (hbl : b < b0) (hL : L ≤ 3072) (hR1 : R.frames = 13 ∧ R.locals = 496) (h7 : LCase D dA b0 adK adV adT p l e R s m b below meth c Q L xs dL 515) (h45 : LCase D dA b0 adK adV adT p l e R s m b below meth c Q L xs dL 1832)
    (hend : ∀ (σ : ST) (nn : Int) (H : Heap) (ls : Array Slot) (cells slots : Nat), cells ≤ R.cells → slots ≤ R.slots → W p l e R s m #[Value.ref b] below meth c H [] cells slots Q (F0 m 2062 ls [])) :
    ∀ (f : Nat) (σ : ST) (nn : Int) (H : Heap) (i : Nat) (ls : Array Slot) (cells slots : Nat), L + 6 ≤ i + f → i ≤ L → LI D dA b0 adK adV adT b L xs dL s σ nn H → LLs b b0 ls i → nn + 20 * f ≤ 100000 → cells + 12 * f ≤ R.cells → slots + 240 * f ≤ R.slots → W p l e R s m #[Value.ref b] below meth c H [] cells slots Q (F0 m 23 ls [])
  | 0, σ, nn, H, i, ls, cells, slots, h1, h2, _, _, _, _, _ => absurd h1 (by omega)
  | f + 1, σ, nn, H, i, ls, cells, slots, h1, h2, hI, hls, hn, hc, hs => by
    obtain ⟨hx, hb, hml, hown, hts⟩ := id hF
    obtain ⟨g0, g1, g2, g3, g4, g5⟩ := hls.g
    obtain ⟨hRl, hO, hC, hV, hX, hout, hold⟩ := id hI
    obtain ⟨scr, c1, c2, c3, c5, c6⟩ := id hX
    have hi32 : in32 (i : Int) := ⟨by omega, by omega⟩
    have hL32 : in32 ((L : Int) - 6) := ⟨by omega, by omega⟩
    refine lv_iload hx hb (lD_of (ins := .iload 4) (len := 2) (by decide +kernel)) g5 (lv_aload_n hx hb (lD_of (ins := .aload_n 0) (len := 1) (by decide +kernel)) rfl g1 ?_)
    refine W.alen (n := Int32.ofInt (L : Int)) hx hb c1 c2 (by rw [c5]; rfl) rfl rfl (lD_of (ins := .arraylength) (len := 1) (by decide +kernel)) ?_
    refine lv_bipush hx hb (lD_of (ins := .bipush 6) (len := 2) (by decide +kernel)) (n_bip ⟨by decide, by decide⟩) (lv_isub hx hb (lD_of (ins := .isub) (len := 1) (by decide +kernel)) ?_)
    rw [show Int32.ofInt (L : Int) - Int32.ofInt 6 = Int32.ofInt ((L : Int) - 6) from (Int32.ofInt_sub _ _).symm]
    refine lv_icmp_gt (tgt := 2062) hx hb (lD_of (ins := .if_icmp .gt 2032) (len := 3) (by decide +kernel)) (by decide) (fun _ => hend σ nn H ls cells slots (by omega) (by omega)) (fun q => ?_)
    rw [n_lt hL32 hi32] at q
    have hi6 : i + 6 ≤ L := by omega
    refine lv_aload_n hx hb (lD_of (ins := .aload_n 0) (len := 1) (by decide +kernel)) rfl g1 (lv_iload hx hb (lD_of (ins := .iload 4) (len := 2) (by decide +kernel)) g5 ?_)
    have hcl := n_clamp (j := (i : Int)) (by omega) hi32
    refine W.iald (v := .int (xs i)) hx hb c1 c2 c3 (by rw [c5]; exact n_in (by omega) hi32 (by omega)) (by rw [hcl, Int.toNat_natCast]; exact c6 _ (by omega)) rfl rfl (lD_of (ins := .iaload) (len := 1) (by decide +kernel)) ?_
    refine lv_bipush hx hb (lD_of (ins := .bipush 63) (len := 2) (by decide +kernel)) (n_bip ⟨by decide, by decide⟩) (lv_iand hx hb (lD_of (ins := .iand) (len := 1) (by decide +kernel)) ?_)
    have hand := and_63 (xs i).toInt
    have hv : (xs i &&& Int32.ofInt 63).toInt = i_and (xs i).toInt 63 := by
      unfold i_and
      rw [Int32.ofInt_toInt]
    have hnext : ∀ (σ' : ST) (H1 : Heap) (ls1 : Array Slot), LI D dA b0 adK adV adT b L xs dL s σ' (nn + 20) H1 → LLs b b0 ls1 i → W p l e R s m #[Value.ref b] below meth c H1 [] (cells + 12) (slots + 240) Q (F0 m 2056 ls1 []) := by
      intro σ' H1 ls1 hI1 hl1
      obtain ⟨k, hk1⟩ := List.getElem?_of_mem (lvs_mem (ad := adI) (n := 7) (L := LL b b0 (i : Int)) (i := 4) (v := .inl (i : Int)) (by decide) rfl)
      refine lv_iinc (v := Int32.ofInt ((i + 6 : Nat) : Int)) hx hb (lD_of (ins := .iinc 4 6) (len := 3) (by decide +kernel)) (LH_has hl1) (k := k) hk1 (by rw [← Int32.ofInt_add]; rfl) (by decide) rfl fun ls' hl' => ?_
      refine lv_goto (tgt := 23) hx hb (lD_of (ins := .goto (-2036)) (len := 3) (by decide +kernel)) (by decide) ?_
      exact l_loop hF hS hb0 hbl hL hR1 h7 h45 hend f σ' (nn + 20) H1 (i + 6) ls' (cells + 12) (slots + 240) (by omega) (by omega) hI1 (LLs_inc hl1 rfl hl') (by omega) (by omega) (by omega)
    by_cases hin : i_and (xs i).toInt 63 < 53
    · obtain ⟨j, hj⟩ := Int.eq_ofNat_of_zero_le hand.1
      have hj53 : j < 53 := by omega
      have ho := of_decide_eq_true (List.all_eq_true.mp lwO_ok j (List.mem_range.mpr hj53))
      have hck := List.all_eq_true.mp lwT_ok j (List.mem_range.mpr hj53)
      have hp := l_pr xs
      generalize hz : lwT.getD j (0, 0, 0, 0, 0, 0, 0, 0) = zt at ho hck
      obtain ⟨pc, n, ixX, mX, hX', ixZ, mZ, hZ⟩ := zt
      refine lv_tableIn (off := (pc : Int) - 40) (tgt := pc) hx hb l_sw (by rw [hv]; omega) (by rw [hv]; omega) (by rw [hv, hj, show ((j : Int) - 0).toNat = j by omega]; exact ho) (by show ((40 : Nat) : Int) + ((pc : Int) - 40) = pc; omega) ?_
      have hcase : LCase D dA b0 adK adV adT p l e R s m b below meth c Q L xs dL pc := by
        by_cases e7 : j = 7
        · subst e7
          have e1 : pc = 515 := congrArg Prod.fst hz.symm
          rw [e1]
          exact h7
        · by_cases e45 : j = 45
          · subst e45
            have e1 : pc = 1832 := congrArg Prod.fst hz.symm
            rw [e1]
            exact h45
          · refine l_case' (n := n) (ixX := ixX) (mX := mX) (hX := hX') (ixZ := ixZ) (mZ := mZ) (hZ := hZ) ?_ (fun i => ?_) hF hS hb0 hbl hL hR1
            · have nb : ∀ {a b : Nat}, a ≠ b → Nat.beq a b = false := fun {a b} h => by
                cases hq : Nat.beq a b with
                | false => rfl
                | true => exact absurd (Nat.eq_of_beq_eq_true hq) h
              rw [nb e7, nb e45] at hck
              exact hck
            · have h := hp i j hj53 e7 e45
              rw [hz] at h
              exact h
      exact hcase σ nn H i ls cells slots hI (by omega) hi6 hls ⟨by omega, by omega⟩ hnext
    · refine lv_tableOut (tgt := 2056) hx hb l_sw (by rw [hv]; omega) (by decide) ?_
      exact W.widen (by omega) (by omega) (hnext σ H ls ⟨hRl, hO, hC, hV.mono (by omega) (by omega), hX, hout, hold⟩ hls)
end LOOP
