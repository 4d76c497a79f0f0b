/-! the law's own frame: one case of its switch -/
theorem Met_framed {l : Launch} {y : MethodName} {ws : List Cond} {rm : Room} {Pc : Array Value → State → Prop} {Qc : Array Value → State → Outcome → State → Prop} {mc ms : Nat} {free : Addr → Prop} (h : Met l y ws rm Pc Qc mc ms free) : Met l y ws rm Pc (fun a s o t => Qc a s o t ∧ ∀ (q : Nat) (c : Cell), s.heap[q]? = some c → ¬ free q → t.heap[q]? = some c) mc ms free := by
  intro p e ha hf hc s m args below hs happ hP hK
  obtain ⟨n, o, h1, h2, h3, hQ, L, hF, hL⟩ := h p e ha hf hc s m args below hs happ hP hK
  refine ⟨n, o, h1, h2, h3, ⟨hQ, fun q c hq hn => ?_⟩, L, hF, hL⟩
  obtain ⟨-, -, hsame⟩ := hF
  obtain ⟨-, -, -, -, -, hcell⟩ := hsame
  obtain ⟨c', e1, e2, e3, e4⟩ := hcell q c hq
  have e5 : c'.slots = c.slots := Array.ext_getElem? fun i => e4 i fun hm => hn (hL _ hm)
  rw [e5] at e2
  exact e1.trans (congrArg some e2)
def lD (pc : Nat) (ins : Instr) (len : Nat) : Bool := decide (decode code pc = .ok (ins, len))
theorem lD_of {pc len : Nat} {ins : Instr} (h : lD pc ins len = true) : decode code pc = .ok (ins, len) := of_decide_eq_true h
def adI (h : HD) : Nat := h.1
def ra (a : Nat) : AV := .inr (.inr (a, 0, 0))
def LF (p : Program) (s : State) (m : MethodId) (b : Nat) (meth : Method) (c : Code) : Prop := p.tables.exec = Jvm.exec ∧ c.code = code ∧ c.maxLocals = 7 ∧ s.vm.findClass "ClosedRoomsLaw" = some m.cls ∧ ∀ w ∈ TB, w.before #[Value.ref b] s = true
def LL (b b0 : Nat) (i : Int) : LV := [some (ra b), some (ra b0), some (ra (b0 + 2749)), some (ra (b0 + 2761)), some (.inl i), none, none]
/-- a method of the tables, called from one that isn't in them -/
def xM (own : String) (F Lo ix a h n cl : Nat) : Bool := Nat.blt a 334 && (tat h (.methodLink own ix (iY a)) && (!(iSt a) && (Nat.ble (iF a + 1) F && (Nat.ble (8 + (mxl a + 11) + iL a) Lo && (decide ((parseMethodDescriptor (iY a).desc).map (fun d => d.parameters.length) = some n) && (Nat.beq (iO a) cl && Nat.ble (n + 1) (mth a).2.1))))))
def lM (ix a h n cl : Nat) : Bool := xM "ClosedRoomsLaw" 13 496 ix a h n cl
def argA (xs : Nat → Int32) (i k : Nat) : Nat → List AV
  | 0 => []
  | n + 1 => .inl (xs (i + k)).toInt :: argA xs i (k + 1) n
theorem argA_len (xs : Nat → Int32) (i : Nat) : ∀ (n k : Nat), (argA xs i k n).length = n
  | 0, _ => rfl
  | n + 1, k => congrArg Nat.succ (argA_len xs i n (k + 1))
theorem argA_cats (xs : Nat → Int32) (i : Nat) : ∀ (n k : Nat), cats (argA xs i k n) = n
  | 0, _ => rfl
  | n + 1, k => by
    show 1 + cats (argA xs i (k + 1) n) = n + 1
    rw [argA_cats xs i n (k + 1)]
    omega
theorem i32_in (x : Int32) : in32 x.toInt := ⟨Int32.le_toInt x, Int32.toInt_lt x⟩
theorem argA_ok {V : HD → Prop} (xs : Nat → Int32) (i : Nat) : ∀ (n k : Nat), ∀ w ∈ argA xs i k n, okv V w
  | 0, _, w, h => by cases h
  | n + 1, k, w, h => by
    rcases List.mem_cons.mp h with rfl | h
    · exact i32_in _
    · exact argA_ok xs i n (k + 1) w h
def lA (pc k : Nat) : Bool := lD pc (.aload_n 0) 1 && (lD (pc + 1) (.iload 4) 2 && (lD (pc + 3) (.iconst (k : Int)) 1 && (lD (pc + 4) .iadd 1 && lD (pc + 5) .iaload 1)))
def lAs (pc k : Nat) : Nat → Bool
  | 0 => true
  | n + 1 => lA pc k && lAs (pc + 6) (k + 1) n
def lBl (r : Fin 4) (pc n ix : Nat) : Bool := lD pc (.aload_n r) 1 && (lAs (pc + 1) 1 n && lD (pc + 1 + 6 * n) (.invokevirtual ix) 3)
section XCL
variable {D : va_G} {dA : Nat → ClassId} {b0 : Nat} {adK adV adT : Nat → Nat}
variable {p : Program} {l : Launch} {e : Env} {R : Room} {s : State} {m : MethodId} {args : Array Value} {below : List Frame} {meth : Method} {c : Code} {H : Heap} {locs : List Loc} {cells slots : Nat} {Q : State → Prop}
variable {cc : ByteArray} {pc nL : Nat} {ls : Array Slot} {rest : List Value} {own : String}
theorem x_call {F Lo a ix h n cl t : Nat} {k i : Int} {ar : List AV} {σ : ST} {Q1 : Option AV → ST → Prop} (hx : p.tables.exec = Jvm.exec) (hb : c.code = cc) (hml : c.maxLocals = nL) (hown : s.vm.findClass own = some m.cls) (hts : ∀ w ∈ TB, w.before args s = true) (hS : VS D dA adK s) (hR : Rel D dA (adr b0 adK adT) VW0 σ H) (hO : RO b0 adK adV adT s H) (hC : Cn σ) (hV : VW0 (t, k, i)) (hct : cof t = cl) (hcl : cl < 11) (hM : xM own F Lo ix a h n cl = true) (har : ar.length = n) (hcat : cats ar = n) (hok : ∀ w ∈ ar, okv (Vv VW0) w) (hw : wpM a (.inr (.inr (t, k, i)) :: ar) σ Q1)
    (hR1 : F ≤ R.frames ∧ Lo ≤ R.locals) (hrest : (rest.map fun v => v.category).sum ≤ 8) (hsz : ls.size = nL) (hf : cells ≤ R.cells ∧ slots ≤ R.slots) (hdg : decode cc pc = .ok (.invokevirtual ix, 3))
    (kk : ∀ (r : Option AV) (σ' : ST) (H1 : Heap) (L : List Loc), Q1 r σ' → Rel D dA (adr b0 adK adT) VW0 σ' H1 → RO b0 adK adV adT s H1 → Cn σ' → (∀ v, r = some v → okv (Vv VW0) v) → (∀ (q : Nat) (c : Cell), H[q]? = some c → ¬ A0 b0 q → H1[q]? = some c) → (∀ q ∈ L, A0 b0 q.base) → W p l e R s m args below meth c H1 (locs ++ L) cells slots Q (F0 m (pc + 3) ls ((r.map (conc (adr b0 adK adT))).toList ++ rest))) :
    W p l e R s m args below meth c H locs cells slots Q (F0 m pc ls ((ar.map (conc (adr b0 adK adT))).reverse ++ .ref (adr b0 adK adT (t, k, i)) :: rest)) := by
  simp only [xM, Bool.and_eq_true, Nat.blt_eq, decide_eq_true_eq, Bool.not_eq_true'] at hM
  obtain ⟨ha, hl, hst, h1, h2, h3, h4, h5⟩ := hM
  replace h1 := Nat.le_of_ble_eq_true h1
  replace h2 := Nat.le_of_ble_eq_true h2
  replace h4 := Nat.eq_of_beq_eq_true h4
  obtain ⟨⟨w1, w2, w3, w4, w5⟩, w6⟩ := okW_at ha
  rcases w6 with ⟨w6, -⟩ | ⟨w6, w7, w8⟩
  · rw [hst] at w6; cases w6
  have hE := EV0 b0 adK adT
  have hag : agk a (.inr (.inr (t, k, i)) :: ar) = true := by
    have e1 : cats (.inr (.inr (t, k, i)) :: ar) = n + 1 := by
      show 1 + cats ar = n + 1
      omega
    unfold agk
    rw [e1, h5, List.length_cons, har, Nat.beq_refl, Bool.or_true]
    rfl
  have hav : ∀ w ∈ (.inr (.inr (t, k, i)) :: ar : List AV), okv (Vv VW0) w := fun w hw => (List.mem_cons.mp hw).elim (fun e => by rw [e]; exact Or.inl hV) (hok w)
  have hMt := Met_framed (sound (D := D) (dA := dA) (adV := adV) l hE ha hag hav hw)
  have hct' : cof t < 11 := by omega
  have hr := va_runV (p := p) (e := e) (R := R) (s := s) (m := m) (args := args) (below := below) (meth := meth) (c := c) (H := H) (locs := locs) (cells := cells) (slots := slots) (g := F0 m pc ls ((ar.map (conc (adr b0 adK adT))).reverse ++ .ref (adr b0 adK adT (t, k, i)) :: rest)) (C := (iY a).cls) (b := adr b0 adK adT (t, k, i)) (n := n) (As := ar.map (conc (adr b0 adK adT))) (rest := rest) ⟨hx, hb, hml, hown, hts⟩ hMt
    ⟨callB_of n hts (gw_in ha) rfl rfl rfl (hts _ w2) (hts _ (tb_at hl)) ⟨w5.1, w5.2, h3⟩ ⟨Nat.le_trans h1 hR1.1, Nat.le_trans h2 hR1.2⟩, hts _ w7, hts _ w8⟩
    ⟨PX_blind, (by rw [← w3, h4, ← hct]; exact recv hS hR hV hct'), fun U hU hW => PX_at hS hR hO hC U hU hW⟩ rfl (by rw [List.length_map]; exact har) hsz rfl (by show 2 * 0 + _ ≤ 8; omega) hdg ⟨hf.1, hf.2⟩
  intro T hT X
  obtain ⟨v, st₀, t', T', L, h0, X', hL, e1, e2, ⟨⟨r, σ', hv, hq, hR, hO, hC, hk⟩, hfr⟩, st⟩ := hr T hT X
  have hv' : v = r.map (conc (adr b0 adK adT)) := by injection hv
  subst hv'
  have hal : t'.vm.Alike s.vm := by
    rw [← e2]
    exact X'.warmed.alike.symm
  obtain ⟨t2, a1, b1⟩ := kk r σ' T'.heap L hq (by rw [e1]; exact hR) (by rw [e1]; exact hO.moved hal) hC hk (fun q c hq hn => by rw [e1]; exact hfr q c (by rw [h0]; exact hq) hn) hL T' rfl X'
  exact ⟨t2, st t2 a1, b1⟩
end XCL
section LAW
variable {D : va_G} {dA : Nat → ClassId} {b0 : Nat} {adK adV adT : Nat → Nat}
variable {p : Program} {l : Launch} {e : Env} {R : Room} {s : State} {m : MethodId} {b : Nat} {below : List Frame} {meth : Method} {c : Code} {H : Heap} {locs : List Loc} {cells slots : Nat} {Q : State → Prop}
variable {pc : Nat} {ls : Array Slot} {rest : List Value} {L : Nat} {xs : Nat → Int32}
/-- a call of the law's -/
theorem l_call {a ix h n cl t : Nat} {k i : Int} {ar : List AV} {σ : ST} {Q1 : Option AV → ST → Prop} (hF : LF p s m b meth c) (hS : VS D dA adK s) (hR : Rel D dA (adr b0 adK adT) VW0 σ H) (hO : RO b0 adK adV adT s H) (hC : Cn σ) (hV : VW0 (t, k, i)) (hct : cof t = cl) (hcl : cl < 11) (hM : lM ix a h n cl = true) (har : ar.length = n) (hcat : cats ar = n) (hok : ∀ w ∈ ar, okv (Vv VW0) w) (hw : wpM a (.inr (.inr (t, k, i)) :: ar) σ Q1)
    (hR1 : R.frames = 13 ∧ R.locals = 496) (hrest : (rest.map fun v => v.category).sum ≤ 8) (hsz : ls.size = 7) (hf : cells ≤ R.cells ∧ slots ≤ R.slots) (hlc : ∀ q ∈ locs, A0 b0 q.base) (hdg : decode code pc = .ok (.invokevirtual ix, 3))
    (kk : ∀ (r : Option AV) (σ' : ST) (H1 : Heap) (locs1 : List Loc), Q1 r σ' → Rel D dA (adr b0 adK adT) VW0 σ' H1 → RO b0 adK adV adT s H1 → Cn σ' → (∀ v, r = some v → okv (Vv VW0) v) → (∀ (q : Nat) (c : Cell), H[q]? = some c → ¬ A0 b0 q → H1[q]? = some c) → (∀ q ∈ locs1, A0 b0 q.base) → W p l e R s m #[Value.ref b] below meth c H1 locs1 cells slots Q (F0 m (pc + 3) ls ((r.map (conc (adr b0 adK adT))).toList ++ rest))) :
    W p l e R s m #[Value.ref b] below meth c H locs cells slots Q (F0 m pc ls ((ar.map (conc (adr b0 adK adT))).reverse ++ .ref (adr b0 adK adT (t, k, i)) :: rest)) := by
  obtain ⟨hx, hb, hml, hown, hts⟩ := hF
  exact x_call hx hb hml hown hts hS hR hO hC hV hct hcl hM har hcat hok hw ⟨by omega, by omega⟩ hrest hsz hf hdg fun r σ' H1 L q1 q2 q3 q4 q5 q6 q7 => kk r σ' H1 _ q1 q2 q3 q4 q5 q6 fun q hq => (List.mem_append.mp hq).elim (hlc q) (q7 q)
/-- the script's ints are laid on the stack -/
theorem l_args {hx : p.tables.exec = Jvm.exec} {hb : c.code = code} {i : Nat} {ad : HD → Nat} (hX : va_X b L xs s H) (hL : L ≤ 3072) (h0 : ls[0]? = some (.val (.ref b))) (h4 : ls[4]? = some (.val (.int (Int32.ofInt (i : Int))))) : ∀ (n k pc : Nat) (st : List Value), i + k + n ≤ L + 0 → lAs pc k n = true →
    W p l e R s m #[Value.ref b] below meth c H locs cells slots Q (F0 m (pc + 6 * n) ls (((argA xs i k n).map (conc ad)).reverse ++ st)) → W p l e R s m #[Value.ref b] below meth c H locs cells slots Q (F0 m pc ls st) := by
  intro n
  induction n with
  | zero =>
    intro k pc st _ _ kk
    have e : ((argA xs i k 0).map (conc ad)).reverse ++ st = st := rfl
    rw [e, Nat.mul_zero, Nat.add_zero] at kk
    exact kk
  | succ n ih =>
    intro k pc st hin hck kk
    simp only [lAs, lA, Bool.and_eq_true] at hck
    obtain ⟨⟨d1, d2, d3, d4, d5⟩, hck⟩ := hck
    obtain ⟨scr, c1, c2, c3, c5, c6⟩ := hX
    have hlt : i + k < L := by omega
    have e1 : Int32.ofInt (i : Int) + Int32.ofInt (k : Int) = Int32.ofInt ((i + k : Nat) : Int) := by
      rw [← Int32.ofInt_add]
      rfl
    have h32 : in32 ((i + k : Nat) : Int) := ⟨by omega, by omega⟩
    have hcl := n_clamp (j := ((i + k : Nat) : Int)) (by omega) h32
    refine lv_aload_n hx hb (lD_of d1) rfl h0 (lv_iload hx hb (lD_of d2) h4 (lv_iconst hx hb (lD_of d3) rfl (lv_iadd hx hb (lD_of d4) ?_)))
    rw [e1]
    refine W.iald (v := .int (xs (i + k))) hx hb c1 c2 c3 (by rw [c5]; exact n_in (by omega) h32 (by omega)) (by rw [hcl, Int.toNat_natCast]; exact c6 _ hlt) rfl rfl (lD_of d5) ?_
    refine ih (k + 1) (pc + 6) (.int (xs (i + k)) :: st) (by omega) hck ?_
    have e2 : (((argA xs i k (n + 1)).map (conc ad)).reverse ++ st) = ((argA xs i (k + 1) n).map (conc ad)).reverse ++ .int (xs (i + k)) :: st := by
      show (((.int (Int32.ofInt (xs (i + k)).toInt)) :: (argA xs i (k + 1) n).map (conc ad)).reverse ++ st) = _
      rw [Int32.ofInt_toInt, List.reverse_cons, List.append_assoc]
      rfl
    rw [e2] at kk
    rwa [show pc + 6 * (n + 1) = pc + 6 + 6 * n by omega] at kk
/-- what holds between two calls of the law's -/
def LI (D : va_G) (dA : Nat → ClassId) (b0 : Nat) (adK adV adT : Nat → Nat) (b L : Nat) (xs : Nat → Int32) (dL : ClassId) (s : State) (σ : ST) (n : Int) (H : Heap) : Prop :=
  Rel D dA (adr b0 adK adT) VW0 σ H ∧ RO b0 adK adV adT s H ∧ Cn σ ∧ INV σ n ∧ va_X b L xs s H ∧ (∃ f, H[b0 + 2761]? = some (arrV dL 1 f)) ∧ ∀ (q : Nat) (c : Cell), s.heap[q]? = some c → H[q]? = some c
theorem old_kept {H1 : Heap} (h : ∀ (q : Nat) (c : Cell), s.heap[q]? = some c → H[q]? = some c) (hb0 : s.heap.size = b0) (hfr : ∀ (q : Nat) (c : Cell), H[q]? = some c → ¬ A0 b0 q → H1[q]? = some c) : ∀ (q : Nat) (c : Cell), s.heap[q]? = some c → H1[q]? = some c := fun q c hq => hfr q c (h q c hq) (fun z => by have z1 := z.1; have h1 := (Array.getElem?_eq_some_iff.mp hq).1; omega)
theorem X_kept {H1 : Heap} (hX : va_X b L xs s H) (hbl : b < b0) (hfr : ∀ (q : Nat) (c : Cell), H[q]? = some c → ¬ A0 b0 q → H1[q]? = some c) : va_X b L xs s H1 := by
  obtain ⟨scr, c1, c2⟩ := hX
  exact ⟨scr, hfr _ _ c1 (fun h => absurd h.1 (by omega)), c2⟩
theorem out_kept {H1 : Heap} {x : Cell} (h : H[b0 + 2761]? = some x) (hfr : ∀ (q : Nat) (c : Cell), H[q]? = some c → ¬ A0 b0 q → H1[q]? = some c) : H1[b0 + 2761]? = some x := hfr _ _ h (fun h => absurd h.2 (by omega))
theorem vw_X : VW0 (0, 0, 0) := ⟨by decide, by decide⟩
theorem vw_Z : VW0 (40, 0, 0) := ⟨by decide, by decide⟩
theorem ad_X : adr b0 adK adT (0, 0, 0) = b0 := (adr_V vw_X).trans (Nat.add_zero _)
theorem ad_Z : adr b0 adK adT (40, 0, 0) = b0 + 2749 := adr_V vw_Z
def lCk (q : Nat × Nat × Nat × Nat × Nat × Nat × Nat × Nat) : Bool := match q with
  | (pc, n, ixX, mX, hX, ixZ, mZ, hZ) => lBl 1 pc n ixX && (lBl 2 (pc + 4 + 6 * n) n ixZ && (lD (pc + 8 + 12 * n) (.if_icmp .eq (2056 - ((pc + 8 + 12 * n : Nat) : Int))) 3 && (lM ixX mX hX n 0 && (lM ixZ mZ hZ n 10 && Nat.ble n 5))))
def LLs (b b0 : Nat) (ls : Array Slot) (i : Nat) : Prop := LH adI 7 ls (LL b b0 (i : Int))
theorem LLs.g {i : Nat} (h : LLs b b0 ls i) : ls.size = 7 ∧ ls[0]? = some (.val (.ref b)) ∧ ls[1]? = some (.val (.ref b0)) ∧ ls[2]? = some (.val (.ref (b0 + 2749))) ∧ ls[3]? = some (.val (.ref (b0 + 2761))) ∧ ls[4]? = some (.val (.int (Int32.ofInt (i : Int)))) :=
  ⟨h.1, (h.2.2 0 (ra b) rfl).2, (h.2.2 1 (ra b0) rfl).2, (h.2.2 2 (ra (b0 + 2749)) rfl).2, (h.2.2 3 (ra (b0 + 2761)) rfl).2, (h.2.2 4 (.inl (i : Int)) rfl).2⟩
/-- one case: the same call on both, and the answers are one -/
theorem l_case {pc n ixX mX hX ixZ mZ hZ i : Nat} {nn : Int} {σ : ST} {dL : ClassId} (hck : lCk (pc, n, ixX, mX, hX, ixZ, mZ, hZ) = true) (hpr : PRf mX mZ (argA xs i 1 n)) (hF : LF p s m b meth c) (hS : VS D dA adK s) (hI : LI D dA b0 adK adV adT b L xs dL s σ nn H) (hn : nn + 20 ≤ 100000) (hb0 : s.heap.size = b0) (hbl : b < b0) (hL : L ≤ 3072) (hi : i + 6 ≤ L) (hls : LLs b b0 ls i)
    (hR1 : R.frames = 13 ∧ R.locals = 496) (hf : cells ≤ R.cells ∧ slots ≤ R.slots)
    (kk : ∀ (σ' : ST) (H1 : Heap), LI D dA b0 adK adV adT b L xs dL s σ' (nn + 20) H1 → W p l e R s m #[Value.ref b] below meth c H1 [] cells slots Q (F0 m 2056 ls [])) :
    W p l e R s m #[Value.ref b] below meth c H [] cells slots Q (F0 m pc ls []) := by
  obtain ⟨hR, hO, hC, hV, hX1, ⟨f, hout⟩, hold⟩ := hI
  obtain ⟨g0, g1, g2, g3, g4, g5⟩ := hls.g
  simp only [lCk, lBl, Bool.and_eq_true] at hck
  obtain ⟨⟨a1, a2, a3⟩, ⟨z1, z2, z3⟩, j1, mx, mz, n5⟩ := hck
  replace n5 := Nat.le_of_ble_eq_true n5
  obtain ⟨hx, hb, hml, hown, hts⟩ := id hF
  refine lv_aload_n hx hb (lD_of a1) rfl g2 (l_args (hx := hx) (hb := hb) (ad := adr b0 adK adT) hX1 hL g1 g5 n 1 (pc + 1) _ (by omega) a2 ?_)
  rw [show (Value.ref b0 :: [] : List Value) = Value.ref (adr b0 adK adT (0, 0, 0)) :: [] by rw [ad_X]]
  refine l_call (l := l) (adV := adV) hF hS hR hO hC vw_X rfl (by decide) mx (argA_len xs i n 1) (argA_cats xs i n 1) (argA_ok xs i n 1) (hpr σ nn hV hn (fun r r' s => r = r' ∧ INV s (nn + 20)) (fun r s h => ⟨rfl, h⟩)) hR1 (by decide) g0 hf (fun q h => by cases h) (lD_of a3) fun r σ1 H1 locs1 hq hR' hO' hC' ho hfr hl1 => ?_
  rcases r with _ | v | v | v <;> first | exact hq.elim | skip
  replace hq : wpM mZ (zz :: argA xs i 1 n) σ1 (asI fun r' s' => v = r' ∧ INV s' (nn + 20)) := hq
  have hX2 := X_kept hX1 hbl hfr
  have hv32 : in32 v := ho _ rfl
  refine va_forget (fun q h => by rw [hb0]; exact (hl1 q h).1) ?_
  rw [show pc + 1 + 6 * n + 3 = pc + 4 + 6 * n by omega]
  refine lv_aload_n hx hb (lD_of z1) rfl g3 (l_args (hx := hx) (hb := hb) (ad := adr b0 adK adT) hX2 hL g1 g5 n 1 (pc + 4 + 6 * n + 1) _ (by omega) z2 ?_)
  rw [show (Value.ref (b0 + 2749) :: ((Option.map (conc (adr b0 adK adT)) (some (.inl v : AV))).toList ++ []) : List Value) = Value.ref (adr b0 adK adT (40, 0, 0)) :: [.int (Int32.ofInt v)] by rw [ad_Z]; rfl]
  refine l_call (l := l) (adV := adV) hF hS hR' hO' hC' vw_Z rfl (by decide) mz (argA_len xs i n 1) (argA_cats xs i n 1) (argA_ok xs i n 1) hq hR1 (by show 1 ≤ 8; decide) g0 hf (fun q h => by cases h) (lD_of z3) fun r2 σ2 H2 locs2 hq2 hR2 hO2 hC2 ho2 hfr2 hl2 => ?_
  rcases r2 with _ | v2 | v2 | v2 <;> first | exact hq2.elim | skip
  obtain ⟨rfl, hV2⟩ := (hq2 : v = v2 ∧ INV σ2 (nn + 20))
  refine va_forget (fun q h => by rw [hb0]; exact (hl2 q h).1) ?_
  rw [show pc + 4 + 6 * n + 1 + 6 * n + 3 = pc + 8 + 12 * n by omega]
  refine lv_icmp_eq (tgt := 2056) hx hb (lD_of j1) (by omega) (fun _ => ?_) (fun q => absurd rfl q)
  exact kk σ2 H2 ⟨hR2, hO2, hC2, hV2, X_kept hX2 hbl hfr2, ⟨f, out_kept (out_kept hout hfr) hfr2⟩, old_kept (old_kept hold hb0 hfr) hb0 hfr2⟩
end LAW
