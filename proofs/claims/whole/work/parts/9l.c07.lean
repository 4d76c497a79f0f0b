/-! the law's own method of room, which catches; the law's case of it -/
def yL_room : MethodName := ⟨"ClosedRoomsLaw", "room", "(LClosedRooms;II[J)I"⟩
def hhL : List (Nat × Nat × Nat × Nat) := [(0, 10, 13, 13)]
def OU (b0 : Nat) (dL : ClassId) (H : Heap) : Prop := ∃ f, H[b0 + 2761]? = some (arrV dL 1 f)
def PLR (D : va_G) (dA : Nat → ClassId) (DB : va_G) (dB : ClassId) (b0 : Nat) (adK adV adT : Nat → Nat) (adD z : Nat) (σ : ST) (dL : ClassId) (av : List Value) : Array Value → State → Prop := va_Pc av (fun U => VS D dA adK U ∧ KD DB dB adK U ∧ Rel D dA (adr b0 adK adT) VW0 σ U.heap ∧ WD b0 adK adV adT adD U U.heap ∧ Cn σ ∧ U.heap.size = z ∧ ArrOfT U dL .long ∧ OU b0 dL U.heap)
theorem PLR_blind {D : va_G} {dA : Nat → ClassId} {DB : va_G} {dB : ClassId} {b0 : Nat} {adK adV adT : Nat → Nat} {adD z : Nat} {σ : ST} {dL : ClassId} {av : List Value} : FrameBlind (PLR D dA DB dB b0 adK adV adT adD z σ dL av) := by
  intro a U g mk ⟨h1, h2, h3, h4, h5, h6, h7, h8, h9⟩
  exact ⟨h1, h2.same (s := U) (U := U.calling g mk a) rfl, h3.same (s := U) (U := U.calling g mk a) rfl, h4, h5.moved (s := U) (U := U.calling g mk a) (Vm.Alike.refl U.vm), h6, h7, arrOfT_moved (u := U) (E := U.calling g mk a) (Vm.Alike.refl U.vm) h8, h9⟩
theorem PLR_at {D : va_G} {dA : Nat → ClassId} {DB : va_G} {dB : ClassId} {b0 : Nat} {adK adV adT : Nat → Nat} {adD z : Nat} {σ : ST} {dL : ClassId} {av : List Value} {s : State} {H : Heap} (hS : VS D dA adK s) (hK : KD DB dB adK s) (hR : Rel D dA (adr b0 adK adT) VW0 σ H) (hW : WD b0 adK adV adT adD s H) (hC : Cn σ) (hz : H.size = z) (hL : ArrOfT s dL .long) (hO : OU b0 dL H) (U : State) (hU : U.heap = H) (hw : s.WarmedH U.vm) : PLR D dA DB dB b0 adK adV adT adD z σ dL av av.toArray U :=
  ⟨rfl, hS.warm hw, hK.warm hw, by rw [hU]; exact hR, by rw [hU]; exact hW.moved hw.alike, hC, by rw [hU]; exact hz, arrOfT_moved hw.alike hL, by rw [hU]; exact hO⟩
/-- old cells apart from both objects and the law's own array stay -/
def FO (b0 : Nat) (H H1 : Heap) : Prop := ∀ (q : Nat) (c : Cell), H[q]? = some c → ¬ A0 b0 q → q ≠ b0 + 2761 → H1[q]? = some c
theorem FR.FO {b0 : Nat} {H H1 : Heap} (h : FR b0 H H1) : FO b0 H H1 := fun q c hq hn _ => h q c hq hn
def QLR (D : va_G) (dA : Nat → ClassId) (b0 : Nat) (adK adT : Nat → Nat) (σ : ST) (P : MP) (g : Int → Int) (dL : ClassId) (r w : Int) : Array Value → State → Outcome → State → Prop := fun _ st o t =>
  ((o = .returned (some (.int 0)) ∧ okRm g r w ∧ ∃ f, t.heap[b0 + 2761]? = some (arrV dL 1 f) ∧ f 0 = .long (Int32.ofInt (v_room r w P g)).toInt64) ∨ (o = .returned (some (.int 1)) ∧ ¬ okRm g r w ∧ OU b0 dL t.heap)) ∧ Rel D dA (adr b0 adK adT) VW0 σ t.heap ∧ FO b0 st.heap t.heap
section LRM
variable {D : va_G} {dA : Nat → ClassId} {DB : va_G} {dB : ClassId} {b0 : Nat} {adK adV adT : Nat → Nat} {adD z : Nat} {σ : ST} {dL : ClassId}
variable {p : Program} {l : Launch} {e : Env} {R : Room} {s : State} {m : MethodId} {args : Array Value} {below : List Frame} {meth : Method} {c : Code} {H : Heap} {locs : List Loc} {cells slots : Nat} {Q : State → Prop}
variable {pc : Nat} {ls : Array Slot} {rest : List Value} {P : MP} {g : Int → Int} {r w : Int}
theorem rm_run {st0 : List Value} {a0 : Array Value} (hr : vx_Run p l e R s m args below meth c H locs cells slots 1 6 (F0 m pc ls st0) rest (QRM D dA b0 adK adT σ P g r w a0) (XRM D dA b0 adK adT σ g r w) (fun q => A0 b0 q ∨ H.size ≤ q))
    (kx : ∀ (H1 : Heap) (L1 : List Loc) (q : Nat) (ce : Cell), ¬ okRm g r w → Rel D dA (adr b0 adK adT) VW0 σ H1 → FR b0 H H1 → (∀ q ∈ L1, A0 b0 q.base ∨ H.size ≤ q.base) → H1[q]? = some ce → ce.vm = .none → s.vm.findClass nsN = some ce.cls → vx_W p l e R s m args below meth c H1 (locs ++ L1) (cells + 1) (slots + 6) Q (F0 m pc ls rest) q)
    (kk : ∀ (H1 : Heap) (L1 : List Loc), okRm g r w → Rel D dA (adr b0 adK adT) VW0 σ H1 → FR b0 H H1 → (∀ q ∈ L1, A0 b0 q.base ∨ H.size ≤ q.base) → W p l e R s m args below meth c H1 (locs ++ L1) (cells + 1) (slots + 6) Q (F0 m (pc + 3) ls (.int (Int32.ofInt (v_room r w P g)) :: rest))) : W p l e R s m args below meth c H locs cells slots Q (F0 m pc ls st0) := by
  intro T hT X
  rcases hr T hT X with ⟨v, st₀, t, T', L1, h0, X', hL, e1, e2, ⟨hv, hok, hRel, hfr⟩, st⟩ | ⟨q, st₀, t, T', L1, E, ce, h0, X', hL, e1, e2, ⟨hE, hnk, hRel, hfr⟩, hce, hcv, hcl, st⟩
  · have hv' : v = some (.int (Int32.ofInt (v_room r w P g))) := by injection hv
    subst hv'
    obtain ⟨t2, a1, b1⟩ := kk T'.heap L1 hok (by rw [e1]; exact hRel) (by rw [e1, ← h0]; exact hfr) hL T' rfl X'
    exact ⟨t2, st t2 a1, b1⟩
  · subst hE
    obtain ⟨t2, a1, b1⟩ := kx T'.heap L1 q ce hnk (by rw [e1]; exact hRel) (by rw [e1, ← h0]; exact hfr) hL (by rw [e1]; exact hce) hcv hcl T' rfl X'
    exact ⟨t2, st.trans a1, b1⟩
theorem m_L_room (l : Launch) (hlt : l.stackTraces = false) {nn : Int} (hI : IVg σ P g nn) (hr32 : in32 r) (hw32 : in32 w) (hz0 : b0 + 2762 ≤ z) : Met l yL_room (Cond.codeWith yL_room method_3_code 5 (some .int) hhL :: TB) (rmB 12 463 1 6) (PLR D dA DB dB b0 adK adV adT adD z σ dL [.ref (adr b0 adK adT (0, 0, 0)), .int (Int32.ofInt r), .int (Int32.ofInt w), .ref (b0 + 2761)]) (QLR D dA b0 adK adT σ P g dL r w) 1 6 (fun q => A0 b0 q ∨ q = b0 + 2761 ∨ z ≤ q) := by
  refine va_MetW (cc := method_3_code) (maxL := 5) (ret := (some .int)) (hh := hhL) (by decide) rfl ?_
  intro p e s m args below meth c s₁ B hml hv0
  obtain ⟨rfl, hS, hK, hR, hWD, hC, hsz, hAL, ⟨f, hout⟩⟩ := hv0
  subst hsz
  have hz2 : b0 + 2762 ≤ s.heap.size := hz0
  have hx := B.exec
  have hb := B.bytes
  have hr := B.returns
  have hts0 := atoms_spec (ws := Cond.codeWith yL_room method_3_code 5 (some .int) hhL :: TB) B.pre
  have hts : ∀ x ∈ TB, x.before [.ref (adr b0 adK adT (0, 0, 0)), .int (Int32.ofInt r), .int (Int32.ofInt w), .ref (b0 + 2761)].toArray s = true := fun x hw => hts0 x (List.mem_cons_of_mem _ hw)
  have htab := vx_table (x := yL_room) B (hts0 _ List.mem_cons_self)
  have hown : s.vm.findClass "ClosedRoomsLaw" = some m.cls := findClass_of_methodNamed B.named
  have hl := lv_entry [.ref (adr b0 adK adT (0, 0, 0)), .int (Int32.ofInt r), .int (Int32.ofInt w), .ref (b0 + 2761)] (n := 5) (Nat.le_of_ble_eq_true rfl)
  rw [lg_entry_eq]
  generalize (lg_sl [.ref (adr b0 adK adT (0, 0, 0)), .int (Int32.ofInt r), .int (Int32.ofInt w), .ref (b0 + 2761)] ++ List.replicate (5 - (lg_sl [.ref (adr b0 adK adT (0, 0, 0)), .int (Int32.ofInt r), .int (Int32.ofInt w), .ref (b0 + 2761)]).length) Slot.unset).toArray = ls at hl ⊢
  have hl : lv_has ls 5 [(0, .ref (adr b0 adK adT (0, 0, 0))), (1, .int (Int32.ofInt r)), (2, .int (Int32.ofInt w)), (3, .ref (b0 + 2761))] := hl
  show W p l e (rmB 12 463 1 6) s m [.ref (adr b0 adK adT (0, 0, 0)), .int (Int32.ofInt r), .int (Int32.ofInt w), .ref (b0 + 2761)].toArray below meth c s.heap [] 0 0 (MQ below (QLR D dA b0 adK adT σ P g dL r w) [.ref (adr b0 adK adT (0, 0, 0)), .int (Int32.ofInt r), .int (Int32.ofInt w), .ref (b0 + 2761)].toArray s 1 6 (fun q => A0 b0 q ∨ q = b0 + 2761 ∨ s.heap.size ≤ q)) (F0 m 0 ls [])
  refine lv_aload_n hx hb (by decide +kernel : decode method_3_code 0 = .ok (.aload_n 3, 1)) rfl (lv_at hl 3 rfl) ?_
  refine lv_iconst (v := 0) hx hb (by decide +kernel : decode method_3_code 1 = .ok (.iconst 0, 1)) (by decide) ?_
  refine lv_aload_n hx hb (by decide +kernel : decode method_3_code 2 = .ok (.aload_n 0, 1)) rfl (lv_at hl 0 rfl) ?_
  refine lv_iload_n hx hb (by decide +kernel : decode method_3_code 3 = .ok (.iload_n 1, 1)) rfl (lv_at hl 1 rfl) ?_
  refine lv_iload_n hx hb (by decide +kernel : decode method_3_code 4 = .ok (.iload_n 2, 1)) rfl (lv_at hl 2 rfl) ?_
  have hrun := vx_runV (p := p) (l := l) (e := e) (R := rmB 12 463 1 6) (s := s) (m := m) (args := [.ref (adr b0 adK adT (0, 0, 0)), .int (Int32.ofInt r), .int (Int32.ofInt w), .ref (b0 + 2761)].toArray) (below := below) (meth := meth) (c := c) (H := s.heap) (locs := []) (cells := 0) (slots := 0) (g := F0 m 5 ls [.int (Int32.ofInt w), .int (Int32.ofInt r), .ref (adr b0 adK adT (0, 0, 0)), .int 0, .ref (b0 + 2761)]) (own := "ClosedRoomsLaw") (C := "ClosedRooms") (index := 7) (y := yX_room) (b := adr b0 adK adT (0, 0, 0)) (n := 2) (As := [.int (Int32.ofInt r), .int (Int32.ofInt w)]) (rest := [.int 0, .ref (b0 + 2761)])
    ⟨hx, hb, hml, hown, hts⟩ (m_X_room (D := D) (dA := dA) (DB := DB) (dB := dB) (adV := adV) (adD := adD) l hlt hI hr32 hw32 hz2)
    ⟨callB_of 2 hts (gw_code (tb_at (h := 6197) (by decide +kernel))) rfl rfl rfl (hts _ (tb_at (h := 1001) (by decide +kernel))) (hts _ (tb_at (h := 6194) (by decide +kernel))) (by decide +kernel) ⟨Nat.le_of_ble_eq_true rfl, Nat.le_of_ble_eq_true rfl⟩, hts _ (tb_at (h := 6195) (by decide +kernel)), hts _ (tb_at (h := 6196) (by decide +kernel))⟩
    ⟨PR0_blind, recv hS hR vw_X (by decide), fun U hU hW' => PR0_at hS hK hR hWD hC rfl U hU hW'⟩ rfl rfl hl.1 rfl (lv_room (Nat.le_of_ble_eq_true rfl)) (by decide +kernel : decode method_3_code 5 = .ok (.invokevirtual 7, 3)) ⟨by decide, by decide⟩
  refine rm_run hrun (fun H1 L1 q ce hnk hRel1 hfr hL1 hce hcv hcl => ?_) (fun H1 L1 hok hRel1 hfr hL1 => ?_)
  · refine vx_catch (own := "ClosedRoomsLaw") (name := nsN) (E := nsN) (ce := ce) hown [] ⟨0, 10, 13, 13⟩ [] htab (fun z hz => by cases hz) rfl (by decide) (hts _ (tb_at (h := 6193) (by decide +kernel))) (va_tabs rfl rfl hK.2.2.1) hce hcv hcl ?_
    refine lv_astore hx hb (by decide +kernel : decode method_3_code 13 = .ok (.astore 4, 2)) hl (by omega) rfl fun ls hl => ?_
    refine lv_iconst (v := 1) hx hb (by decide +kernel : decode method_3_code 15 = .ok (.iconst 1, 1)) (by decide) ?_
    exact W.iret hx hb hr (fun t ht _ => ⟨Or.inr ⟨rfl, hnk, f, by rw [ht]; exact out_kept hout hfr⟩, by rw [ht]; exact hRel1, by rw [ht]; exact hfr.FO⟩) (fun q hq => (hL1 q hq).elim Or.inl (fun h => Or.inr (Or.inr h))) (by decide +kernel : decode method_3_code 16 = .ok (.ireturn, 1))
  · refine lv_i2l (v := (Int32.ofInt (v_room r w P g)).toInt64) hx hb (by decide +kernel : decode method_3_code 8 = .ok (.i2l, 1)) rfl ?_
    have hout1 := out_kept hout hfr
    refine W.last hx hb hout1 (hAL 1 f) (fun q => by cases q) (by rw [arrV_size]; decide) rfl rfl (by decide +kernel : decode method_3_code 9 = .ok (.lastore, 1)) fun H2 e1 e2 e3 => ?_
    rw [arrV_store] at e1
    refine lv_goto (tgt := 17) hx hb (by decide +kernel : decode method_3_code 10 = .ok (.goto 7, 3)) (by first | decide | rfl) ?_
    refine lv_iconst (v := 0) hx hb (by decide +kernel : decode method_3_code 17 = .ok (.iconst 0, 1)) (by decide) ?_
    refine W.iret hx hb hr (fun t ht _ => ⟨Or.inl ⟨rfl, hok, _, by rw [ht]; exact e1, rfl⟩, by rw [ht]; exact Rel_new hRel1 (fun q hq => e3 q (Nat.ne_of_lt hq)), by rw [ht]; exact fun q c hq hn h9 => (e3 q h9).trans (hfr q c hq hn)⟩) (fun q hq => ?_) (by decide +kernel : decode method_3_code 18 = .ok (.ireturn, 1))
    rcases List.mem_append.mp hq with h | h
    · exact (hL1 q h).elim Or.inl (fun h => Or.inr (Or.inr h))
    · rw [List.mem_singleton.mp h]
      exact Or.inr (Or.inl rfl)
end LRM
theorem LLs_of {b b0 : Nat} {ls : Array Slot} {i : Nat} (h0 : ls.size = 7) (hw : lv_wf ls) (e0 : ls[0]? = some (.val (.ref b))) (e1 : ls[1]? = some (.val (.ref b0))) (e2 : ls[2]? = some (.val (.ref (b0 + 2749)))) (e3 : ls[3]? = some (.val (.ref (b0 + 2761)))) (e4 : ls[4]? = some (.val (.int (Int32.ofInt (i : Int))))) : LLs b b0 ls i := by
  refine ⟨h0, hw, fun j w hj => ?_⟩
  rcases j with _ | _ | _ | _ | _ | _ | _ | j <;> cases hj
  · exact ⟨by decide, e0⟩
  · exact ⟨by decide, e1⟩
  · exact ⟨by decide, e2⟩
  · exact ⟨by decide, e3⟩
  · exact ⟨by decide, e4⟩
theorem LLs.has {b b0 : Nat} {ls : Array Slot} {i : Nat} (h : LLs b b0 ls i) : lv_has ls 7 [(0, .ref b), (1, .ref b0), (2, .ref (b0 + 2749)), (3, .ref (b0 + 2761)), (4, .int (Int32.ofInt (i : Int)))] := by
  obtain ⟨g0, g1, g2, g3, g4, g5⟩ := h.g
  refine ⟨g0, h.2.1, fun q hq => ?_⟩
  simp only [List.mem_cons, List.not_mem_nil, or_false] at hq
  rcases hq with rfl | rfl | rfl | rfl | rfl <;> assumption
theorem cmp_self (x : Int64) : lg_cmp x x = 0 := by
  unfold lg_cmp
  simp
section R7
variable {D : va_G} {dA : Nat → ClassId} {DB : va_G} {dB : ClassId} {b0 : Nat} {adK adV adT : Nat → Nat} {adD : Nat}
variable {p : Program} {l : Launch} {e : Env} {R : Room} {s : State} {m : MethodId} {b : Nat} {args : Array Value} {below : List Frame} {meth : Method} {c : Code} {H : Heap} {locs : List Loc} {cells slots : Nat} {Q : State → Prop}
variable {L : Nat} {xs : Nat → Int32} {dL : ClassId} {pc : Nat} {ls : Array Slot} {rest : List Value}
theorem lr_run {σ : ST} {P : MP} {g : Int → Int} {r w : Int} {st0 : List Value} {a0 : Array Value} (hr : va_Run p l e R s m args below meth c H locs cells slots 1 6 (F0 m pc ls st0) rest (QLR D dA b0 adK adT σ P g dL r w a0) (fun q => A0 b0 q ∨ q = b0 + 2761 ∨ H.size ≤ q))
    (kk : ∀ (H1 : Heap) (L1 : List Loc) (x : Int), ((x = 0 ∧ okRm g r w ∧ ∃ f, H1[b0 + 2761]? = some (arrV dL 1 f) ∧ f 0 = .long (Int32.ofInt (v_room r w P g)).toInt64) ∨ (x = 1 ∧ ¬ okRm g r w ∧ OU b0 dL H1)) → Rel D dA (adr b0 adK adT) VW0 σ H1 → FO b0 H H1 → (∀ q ∈ L1, A0 b0 q.base ∨ q.base = b0 + 2761 ∨ H.size ≤ q.base) → W p l e R s m args below meth c H1 (locs ++ L1) (cells + 1) (slots + 6) Q (F0 m (pc + 3) ls (.int (Int32.ofInt x) :: rest))) : W p l e R s m args below meth c H locs cells slots Q (F0 m pc ls st0) := by
  intro T hT X
  obtain ⟨v, st₀, t, T', L1, h0, X', hL, e1, e2, ⟨ho, hR1, hfr⟩, st⟩ := hr T hT X
  rcases ho with ⟨hv, hok, f, hf, hf0⟩ | ⟨hv, hok, hf⟩
  · have hv' : v = some (.int 0) := by injection hv
    subst hv'
    obtain ⟨t2, a1, b1⟩ := kk T'.heap L1 0 (Or.inl ⟨rfl, hok, f, by rw [e1]; exact hf, hf0⟩) (by rw [e1]; exact hR1) (by rw [e1, ← h0]; exact hfr) hL T' rfl X'
    exact ⟨t2, st t2 a1, b1⟩
  · have hv' : v = some (.int 1) := by injection hv
    subst hv'
    obtain ⟨t2, a1, b1⟩ := kk T'.heap L1 1 (Or.inr ⟨rfl, hok, by rw [e1]; exact hf⟩) (by rw [e1]; exact hR1) (by rw [e1, ← h0]; exact hfr) hL T' rfl X'
    exact ⟨t2, st t2 a1, b1⟩
theorem l_room7 (hlt : l.stackTraces = false) (hF : LF p s m b meth c) (hS : VS D dA adK s) (hK : KD DB dB adK s) (hW : WD b0 adK adV adT adD s s.heap) (hAL : ArrOfT s dL .long) (hb0 : s.heap.size = b0) (hbl : b < b0) (hL : L ≤ 3072) (hR1 : R.frames = 13 ∧ R.locals = 496) : LCase D dA b0 adK adV adT p l e R s m b below meth c Q L xs dL 515 := by
  intro σ nn H i ls cells slots hI hn hi hls hf kk
  obtain ⟨hR, hO, hC, hV, hX1, hou, hold⟩ := hI
  obtain ⟨P, g, hIV⟩ := hV
  obtain ⟨g0, g1, g2, g3, g4, g5⟩ := hls.g
  obtain ⟨hx, hb, hml, hown, hts⟩ := id hF
  have hsz : b0 + 2762 ≤ H.size := by
    obtain ⟨f, hout⟩ := hou
    have := (Array.getElem?_eq_some_iff.mp hout).1
    omega
  have hWH : WD b0 adK adV adT adD s H := WD_at hW hold
  obtain ⟨r, hre⟩ : ∃ r, r = (xs (i + 1)).toInt := ⟨_, rfl⟩
  obtain ⟨w, hwe⟩ : ∃ w, w = (xs (i + 2)).toInt := ⟨_, rfl⟩
  have hr32 : in32 r := by rw [hre]; exact i32_in _
  have hw32 : in32 w := by rw [hwe]; exact i32_in _
  have hargs : argA xs i 1 2 = [.inl r, .inl w] := by rw [hre, hwe]; rfl
  refine lv_aload_n hx hb (lD_of (by decide +kernel : lD 515 (.aload_n 1) 1 = true)) rfl g2 (l_args (hx := hx) (hb := hb) (ad := adr b0 adK adT) hX1 hL g1 g5 2 1 516 _ (by omega) (by decide +kernel) ?_)
  rw [hargs]
  refine lv_aload_n hx hb (lD_of (by decide +kernel : lD 528 (.aload_n 3) 1 = true)) rfl g4 ?_
  have hr1 := vx_runSW (p := p) (l := l) (e := e) (R := R) (s := s) (m := m) (args := #[Value.ref b]) (below := below) (meth := meth) (c := c) (H := H) (locs := []) (cells := cells) (slots := slots) (g := F0 m 529 ls [.ref (b0 + 2761), .int (Int32.ofInt w), .int (Int32.ofInt r), .ref b0]) (own := "ClosedRoomsLaw") (index := 50) (y := yL_room) (n := 4) (bytes := method_3_code) (maxL := 5) (ret := (some .int)) (hh := hhL) (As := [.ref (adr b0 adK adT (0, 0, 0)), .int (Int32.ofInt r), .int (Int32.ofInt w), .ref (b0 + 2761)]) (rest := [])
    ⟨hx, hb, hml, hown, hts⟩ (m_L_room (D := D) (dA := dA) (DB := DB) (dB := dB) (adV := adV) (adD := adD) (dL := dL) l hlt hIV hr32 hw32 hsz)
    ⟨⟨rfl, rfl, (by show 12 + 1 ≤ R.frames; omega), (by show 8 + (5 + 11) + 463 ≤ R.locals; omega), pay_in hts (gw_code (tb_at (h := 6192) (by decide +kernel))), List.mem_cons_self⟩, hts _ (tb_at (h := 6192) (by decide +kernel)), hts _ (tb_at (h := 1000) (by decide +kernel)), ⟨by decide, by decide⟩, fun sig h => (by
      have h2 : (parseMethodDescriptor yL_room.desc).map (fun d => d.parameters.length) = some 4 := by decide +kernel
      rw [h] at h2
      exact (Option.some.inj h2).symm), hts _ (tb_at (h := 6190) (by decide +kernel)), hts _ (tb_at (h := 6191) (by decide +kernel))⟩
    ⟨PLR_blind, fun U hU hW' => PLR_at hS hK hR hWH hC rfl hAL hou U hU hW'⟩ rfl rfl g0 (by rw [ad_X]; rfl) (by show 2 * 0 + _ ≤ 8; decide) (by decide +kernel : decode code 529 = .ok (.invokestatic 50, 3)) ⟨by omega, by omega⟩
  refine lr_run hr1 fun H1 L1 x hxx hRel1 hfr hL1 => ?_
  refine va_forget (fun q h => by rw [hb0]; rcases hL1 q h with z | z | z; exact z.1; (rw [z]; omega); omega) ?_
  have hX2 : va_X b L xs s H1 := by
    obtain ⟨scr, c1, c2⟩ := hX1
    exact ⟨scr, hfr _ _ c1 (fun h => absurd h.1 (by omega)) (by omega), c2⟩
  have hold1 : ∀ (q : Nat) (c : Cell), s.heap[q]? = some c → H1[q]? = some c := fun q c hq => hfr q c (hold q c hq) (fun z => by have z1 := z.1; have h1 := (Array.getElem?_eq_some_iff.mp hq).1; omega) (by have h1 := (Array.getElem?_eq_some_iff.mp hq).1; omega)
  have hO1 : RO b0 adK adV adT s H1 := RB_RO (WD_at hW hold1).1
  have hou1 : OU b0 dL H1 := by
    rcases hxx with ⟨-, -, f, h1, -⟩ | ⟨-, -, h1⟩
    · exact ⟨f, h1⟩
    · exact h1
  refine lv_istore hx hb (by decide +kernel : decode code 532 = .ok (.istore 5, 2)) hls.has (by omega) rfl fun ls1 hl1 => ?_
  replace hl1 : lv_has ls1 7 [(5, .int (Int32.ofInt x)), (0, .ref b), (1, .ref b0), (2, .ref (b0 + 2749)), (3, .ref (b0 + 2761)), (4, .int (Int32.ofInt (i : Int)))] := hl1
  refine lv_aload_n hx hb (lD_of (by decide +kernel : lD 534 (.aload_n 2) 1 = true)) rfl (lv_at hl1 3 rfl) (l_args (hx := hx) (hb := hb) (ad := adr b0 adK adT) hX2 hL (lv_at hl1 1 rfl) (lv_at hl1 5 rfl) 2 1 535 _ (by omega) (by decide +kernel) ?_)
  rw [hargs, show ([Value.ref (b0 + 2749)] : List Value) = [Value.ref (adr b0 adK adT (40, 0, 0))] by rw [ad_Z]]
  refine l_call (l := l) (adV := adV) (a := m_Z_room) (ix := 55) (h := 9158) (n := 2) (cl := 10) (ar := [.inl r, .inl w]) (rest := []) hF hS hRel1 hO1 hC vw_Z rfl (by decide) (by decide +kernel) rfl rfl (fun v hv => by
      rcases List.mem_cons.mp hv with rfl | hv
      · exact hr32
      · rw [List.mem_singleton.mp hv]
        exact hw32) (Z_room_ok hIV r w (fun r' s' => ∃ y : Int, r' = some (.inl y) ∧ ((x = 0 ∧ y = v_room r w P g ∧ s' = up σ 40 0 0 0 0) ∨ (x = 1 ∧ s' = up σ 40 0 0 0 1))) (fun hk => ⟨_, rfl, Or.inl ⟨hxx.elim (fun h => h.1) (fun h => absurd hk h.2.1), rfl, rfl⟩⟩) (fun hk => ⟨_, rfl, Or.inr ⟨hxx.elim (fun h => absurd h.2.1 hk) (fun h => h.1), rfl⟩⟩)) hR1 (by show 0 ≤ 8; decide) hl1.1 ⟨by omega, by omega⟩ (fun q h => by cases h) (by decide +kernel : decode code 547 = .ok (.invokevirtual 55, 3)) fun r2 σ2 H2 locs2 hq2 hR2 hO2 hC2 ho2 hfr2 hl2 => ?_
  obtain ⟨y, rfl, hq2⟩ := hq2
  refine va_forget (fun q h => by rw [hb0]; exact (hl2 q h).1) ?_
  refine lv_istore hx hb (by decide +kernel : decode code 550 = .ok (.istore 6, 2)) hl1 (by omega) rfl fun ls2 hls2 => ?_
  replace hls2 : lv_has ls2 7 [(6, .int (Int32.ofInt y)), (5, .int (Int32.ofInt x)), (0, .ref b), (1, .ref b0), (2, .ref (b0 + 2749)), (3, .ref (b0 + 2761)), (4, .int (Int32.ofInt (i : Int)))] := hls2
  refine lv_aload_n hx hb (lD_of (by decide +kernel : lD 552 (.aload_n 2) 1 = true)) rfl (lv_at hls2 4 rfl) ?_
  show W p l e R s m #[Value.ref b] below meth c H2 [] (cells + 1) (slots + 6) Q (F0 m 553 ls2 [Value.ref (b0 + 2749)])
  rw [show ([Value.ref (b0 + 2749)] : List Value) = [Value.ref (adr b0 adK adT (40, 0, 0))] by rw [ad_Z]]
  have hIV2 : ∃ t, (t = x) ∧ IVg σ2 P g nn ∧ σ2 40 0 0 0 = t := by
    rcases hq2 with ⟨h1, -, h3⟩ | ⟨h1, h3⟩
    · exact ⟨0, h1.symm, by rw [h3]; exact hIV.thr 0, by rw [h3, up_s, if_pos rfl]⟩
    · exact ⟨1, h1.symm, by rw [h3]; exact hIV.thr 1, by rw [h3, up_s, if_pos rfl]⟩
  obtain ⟨t, ht, hIV2, hthr⟩ := hIV2
  subst ht
  refine l_call (l := l) (adV := adV) (a := m_Z_thrown) (ix := 56) (h := 7107) (n := 0) (cl := 10) (ar := []) (rest := []) hF hS hR2 hO2 hC2 vw_Z rfl (by decide) (by decide +kernel) rfl rfl (fun v hv => by cases hv) (Z_thrown_ok (σ := σ2) (fun r' s' => r' = some (.inl (σ2 40 0 0 0)) ∧ s' = σ2) ⟨rfl, rfl⟩) hR1 (by show 0 ≤ 8; decide) hls2.1 ⟨by omega, by omega⟩ (fun q h => by cases h) (by decide +kernel : decode code 553 = .ok (.invokevirtual 56, 3)) fun r3 σ3 H3 locs3 hq3 hR3 hO3 hC3 ho3 hfr3 hl3 => ?_
  obtain ⟨rfl, hσ3⟩ := hq3
  obtain rfl := hσ3.symm
  refine va_forget (fun q h => by rw [hb0]; exact (hl3 q h).1) ?_
  rw [hthr]
  have hX3 := X_kept (X_kept hX2 hbl hfr2) hbl hfr3
  have hold3 := old_kept (old_kept hold1 hb0 hfr2) hb0 hfr3
  have hend : ∀ ls3 : Array Slot, ls3 = ls2 → W p l e R s m #[Value.ref b] below meth c H3 [] (cells + 1) (slots + 6) Q (F0 m 580 ls3 []) := by
    intro ls3 hls3
    subst hls3
    refine lv_goto (tgt := 2056) hx hb (by decide +kernel : decode code 580 = .ok (.goto 1476, 3)) (by first | decide | rfl) ?_
    obtain ⟨f1, h1⟩ := hou1
    exact W.widen (by omega) (by omega) (kk σ2 H3 ls3 ⟨hR3, hO3, hC3, ⟨P, g, IVg.mono hIV2 (by omega) (by omega)⟩, hX3, ⟨f1, out_kept (out_kept h1 hfr2) hfr3⟩, hold3⟩ (LLs_of hls2.1 hls2.2.1 (lv_at hls2 2 rfl) (lv_at hls2 3 rfl) (lv_at hls2 4 rfl) (lv_at hls2 5 rfl) (lv_at hls2 6 rfl)))
  refine lv_iload hx hb (by decide +kernel : decode code 556 = .ok (.iload 5, 2)) (lv_at hls2 1 rfl) ?_
  refine lv_icmp_eq (tgt := 563) hx hb (by decide +kernel : decode code 558 = .ok (.if_icmp .eq 5, 3)) (by first | decide | rfl) (fun _ => ?_) (fun q => absurd rfl q)
  refine lv_iload hx hb (by decide +kernel : decode code 563 = .ok (.iload 5, 2)) (lv_at hls2 1 rfl) ?_
  rcases hxx with ⟨hx0, hok, f, hf1, hf0⟩ | ⟨hx1, hnk, -⟩
  · subst hx0
    refine lv_if_ne (tgt := 580) hx hb (by decide +kernel : decode code 565 = .ok (.ifCond .ne 15, 3)) (by first | decide | rfl) (fun q => absurd rfl q) (fun _ => ?_)
    refine lv_aload_n hx hb (by decide +kernel : decode code 568 = .ok (.aload_n 3, 1)) rfl (lv_at hls2 5 rfl) ?_
    refine lv_iconst (v := 0) hx hb (by decide +kernel : decode code 569 = .ok (.iconst 0, 1)) (by decide) ?_
    refine W.lald (v := .long (Int32.ofInt (v_room r w P g)).toInt64) hx hb (out_kept (out_kept hf1 hfr2) hfr3) (hAL 1 f) (fun q => by cases q) (by rw [arrV_size]; decide) (by rw [arrV_read _ _ (by decide)]; exact congrArg some hf0) rfl rfl (by decide +kernel : decode code 570 = .ok (.laload, 1)) ?_
    refine lv_iload hx hb (by decide +kernel : decode code 571 = .ok (.iload 6, 2)) (lv_at hls2 0 rfl) ?_
    have hy : y = v_room r w P g := by
      rcases hq2 with ⟨-, h2, -⟩ | ⟨h1, -⟩
      · exact h2
      · exact absurd h1 (by decide)
    rw [hy]
    refine lv_i2l (v := (Int32.ofInt (v_room r w P g)).toInt64) hx hb (by decide +kernel : decode code 573 = .ok (.i2l, 1)) rfl ?_
    refine W.lcmp hx hb (by decide +kernel : decode code 574 = .ok (.lcmp, 1)) ?_
    rw [cmp_self]
    refine lv_if_eq (tgt := 580) hx hb (by decide +kernel : decode code 575 = .ok (.ifCond .eq 5, 3)) (by first | decide | rfl) (fun _ => hend _ rfl) (fun q => absurd rfl q)
  · subst hx1
    exact lv_if_ne (tgt := 580) hx hb (by decide +kernel : decode code 565 = .ok (.ifCond .ne 15, 3)) (by first | decide | rfl) (fun _ => hend _ rfl) (fun q => absurd q (by decide))
end R7
