/-! the calls; then the whole: the machine does what wp says -/
def WSx (a : Nat) : List Cond := Cond.code (iY a) (iB a) (mxl a) (iR a) :: TB
theorem okW_at {a : Nat} (ha : a < 334) : (Cond.code (iY a) (iB a) (mxl a) (iR a) ∈ TB ∧ Cond.initialized (iY a).cls ∈ TB ∧ cRn (iO a) = (iY a).cls ∧ plainFor (iY a) = true ∧ ((iY a).cls ≠ "java/lang/invoke/MethodHandle" ∧ (iY a).cls ≠ "java/lang/invoke/VarHandle")) ∧
    ((iSt a = true ∧ Cond.static (iY a) ∈ TB) ∨ (iSt a = false ∧ Cond.instanceMethod (iY a) ∈ TB ∧ Cond.selects (iY a).cls (iY a) (iY a) ∈ TB)) := by
  have hM := okM_lt a ha
  simp only [okM, Bool.and_eq_true] at hM
  have h := hM.2.2
  unfold okW at h
  unfold iY iB iR iO iSt
  generalize inf a = z at h ⊢
  obtain ⟨b, y, r, o, st, f, lo, c, i, k, s⟩ := z
  simp only [Bool.and_eq_true, decide_eq_true_eq] at h
  obtain ⟨h1, h2, h3, h4, h5, h6⟩ := h
  refine ⟨⟨tb_at h1, tb_at h2, h3, h4, h5⟩, ?_⟩
  cases st with
  | true => exact Or.inl ⟨rfl, tb_at h6⟩
  | false =>
    simp only [cond_false, Bool.and_eq_true] at h6
    exact Or.inr ⟨rfl, tb_at h6.1, tb_at h6.2⟩
theorem gw_in {a : Nat} (ha : a < 334) : GoodIn TB (WSx a) := by
  intro w hw
  rcases List.mem_cons.mp hw with rfl | hw
  · exact ⟨(okW_at ha).1.1, tb_good (okW_at ha).1.1⟩
  · exact ⟨hw, tb_good hw⟩
/-- jumps go to places; calls are of methods that stand here -/
def okJe (e : CE) : Bool := match e with
  | (pc, ins, _, a1, _, _, _) => match ins with
    | .goto off => decide (0 ≤ (pc : Int) + off)
    | .ifCond _ off => decide (0 ≤ (pc : Int) + off)
    | .if_icmp _ off => decide (0 ≤ (pc : Int) + off)
    | .tableswitch d _ _ offs => decide (0 ≤ (pc : Int) + d) && offs.toList.all (fun o => decide (0 ≤ (pc : Int) + o))
    | .invokevirtual _ => Nat.beq a1 901 || (Nat.beq a1 902 || Nat.blt a1 334)
    | .invokestatic _ => Nat.beq a1 900 || Nat.blt a1 334
    | _ => true
theorem okJ_ : (List.range 334).all (fun a => (mth a).1.all (fun l => l.all okJe)) = true := by decide +kernel
theorem okJ_at {a pc : Nat} {e : CE} (h : fnd a pc = some e) : okJe e = true := by
  obtain ⟨-, -, ha⟩ := okE_at h
  unfold fnd find at h
  have h3 := List.mem_of_find?_eq_some h
  have h4 : (mth a).1.getD (pc / 16) [] ∈ (mth a).1 := by
    rw [List.getD_eq_getElem?_getD] at h3 ⊢
    cases hg : (mth a).1[pc / 16]? with
    | none => rw [hg] at h3; cases h3
    | some l => exact List.mem_of_getElem? hg
  exact List.all_eq_true.mp (List.all_eq_true.mp (List.all_eq_true.mp okJ_ a (List.mem_range.mpr ha)) _ h4) _ h3
theorem cats_sum (ad : HD → Nat) : ∀ st : List AV, ((st.map (conc ad)).map fun v => v.category).sum = cats st
  | [] => rfl
  | v :: r => by
    show (conc ad v).category + ((r.map (conc ad)).map fun v => v.category).sum = cat v + cats r
    rw [conc_cat, cats_sum ad r]
theorem asK_w {ad : HD → Nat} {V : HD → Prop} {rk T : Nat} {k : List AV → ST → Prop} {r : Option AV} {σ : ST} (h : asK rk T k r σ) (ho : ∀ v, r = some v → okv V v) : ∃ w, k w σ ∧ (r.map (conc ad)).toList = w.map (conc ad) ∧ ∀ v ∈ w, okv V v := by
  unfold asK at h
  split at h <;> split at h <;> first
    | exact h.elim
    | exact ⟨_, h, rfl, fun v hv => by rw [List.mem_singleton.mp hv]; exact ho _ rfl⟩
    | exact ⟨_, h, rfl, fun v hv => by cases hv⟩
    | exact ⟨_, h.2, by rw [h.1]; rfl, fun v hv => by rw [List.mem_singleton.mp hv, ← h.1]; exact ho _ rfl⟩
section CAL
variable {D : va_G} {dA : Nat → ClassId} {ad : HD → Nat} {VW : HD → Prop} {b0 : Nat} {adK adV adT : Nat → Nat}
variable {p : Program} {l : Launch} {e : Env} {s : State} {m : MethodId} {args : Array Value} {below : List Frame} {meth : Method} {c : Code}
variable {a pc len a1 b c1 : Nat} {v : Int} {L : LV} {st : List AV} {σ : ST} {Q : Option AV → ST → Prop} {K : NX → Prop} {C : Nat → List AV → ST → (Option AV → ST → Prop) → Prop}
/-- how a method begins -/
def PX (D : va_G) (dA : Nat → ClassId) (ad : HD → Nat) (VW : HD → Prop) (b0 : Nat) (adK adV adT : Nat → Nat) (av : List AV) (σ : ST) : Array Value → State → Prop := va_Pc (av.map (conc ad)) (fun U => VS D dA adK U ∧ Rel D dA ad VW σ U.heap ∧ RO b0 adK adV adT U U.heap ∧ Cn σ)
/-- a method's contract -/
def MX (D : va_G) (dA : Nat → ClassId) (ad : HD → Nat) (VW : HD → Prop) (b0 : Nat) (adK adV adT : Nat → Nat) (l : Launch) (a : Nat) (av : List AV) (σ : ST) (Q : Option AV → ST → Prop) : Prop :=
  Met l (iY a) (WSx a) (RMx a) (PX D dA ad VW b0 adK adV adT av σ) (SQ D dA ad VW b0 adK adV adT Q) 0 0 (A0 b0)
theorem PX_blind {av : List AV} {σ : ST} : FrameBlind (PX D dA ad VW b0 adK adV adT av σ) := by
  intro a U g mk ⟨h1, h2, h3, h4, h5⟩
  exact ⟨h1, h2.same (s := U) (U := U.calling g mk a) rfl, h3, h4.moved (s := U) (U := U.calling g mk a) (Vm.Alike.refl U.vm), h5⟩
theorem PX_at {av : List AV} {σ : ST} {H : Heap} (hS : VS D dA adK s) (hR : Rel D dA ad VW σ H) (hO : RO b0 adK adV adT s H) (hC : Cn σ) (U : State) (hU : U.heap = H) (hW : s.WarmedH U.vm) : PX D dA ad VW b0 adK adV adT av σ (av.map (conc ad)).toArray U :=
  ⟨rfl, hS.warm hW, by rw [hU]; exact hR, by rw [hU]; exact hO.moved hW.alike, hC⟩
theorem recv {σ : ST} {H : Heap} {t : Nat} {k i : Int} (hS : VS D dA adK s) (hR : Rel D dA ad VW σ H) (hV : VW (t, k, i)) (hc : cof t < 11) : ∃ cellB : Cell, H[ad (t, k, i)]? = some cellB ∧ cellB.vm.isStatics = false ∧ s.vm.findClass (cRn (cof t)) = some cellB.cls := by
  obtain ⟨r, h1, cell, q1, q2, q3, q4⟩ := (hR t k i hV).1 hc
  refine ⟨cell, q1, by rw [q3]; rfl, ?_⟩
  rw [q2]
  exact (hS.1 (cof t) _ (crC_at hc)).2.1
theorem mem_take {n : Nat} {st : List AV} {w : AV} (h : w ∈ (st.take n).reverse) : w ∈ st := List.mem_of_mem_take (List.mem_reverse.mp h)
theorem iO_lt {a : Nat} (ha : a < 334) (hs : iSt a = false) : iO a < 11 := by
  have h : (List.range 334).all (fun a => iSt a || Nat.blt (iO a) 11) = true := by decide +kernel
  have h1 := List.all_eq_true.mp h a (List.mem_range.mpr ha)
  rw [hs] at h1
  simpa only [Bool.false_or, Nat.blt_eq] using h1
theorem s_callV {ix t : Nat} {k i : Int} {ar : List AV} (hE : EV ad VW b0 adK adT) (hK : ∀ pc' L' st' σ', K (pc', L', st', σ') → WG D dA ad VW b0 adK adV adT p l e s m args below meth c a Q pc' L' st' σ') (hF : FX a p s m args meth c) (hS : VS D dA adK s)
    (hC : ∀ m' av σ' Q1, C m' av σ' Q1 → m' < 334 → (∀ w ∈ av, okv (Vv VW) w) → MX D dA ad VW b0 adK adV adT l m' av σ' Q1) (ha1 : a1 < 334)
    (hk : okI a (pc, .invokevirtual ix, len, a1, b, c1, v) = true) (hdg : decode (iB a) pc = .ok (.invokevirtual ix, len)) (hb1 : b ≤ st.length) (hc8 : cats (st.drop b) ≤ 8) (htk : (st.take b).reverse = .inr (.inr (t, k, i)) :: ar) (hct : cof t = c1)
    (hw : C a1 (.inr (.inr (t, k, i)) :: ar) σ (asK (rkm a1) v.toNat (fun w σ' => K (pc + len, L, w ++ st.drop b, σ')))) : WG D dA ad VW b0 adK adV adT p l e s m args below meth c a Q pc L st σ := by
  obtain ⟨hx, hb, hml, hown, hts, hr, hlk⟩ := id hF
  simp only [okI, Bool.and_eq_true] at hk
  obtain rfl : len = 3 := Nat.eq_of_beq_eq_true hk.1
  obtain ⟨⟨z1, z2, z3, z4, z5⟩, hz, hz2⟩ := List.any_eq_true.mp hk.2
  simp only [Bool.and_eq_true] at hz2
  obtain ⟨g1, g2, g3, g4, g5⟩ := hz2
  replace g1 := Nat.eq_of_beq_eq_true g1
  replace g2 := Nat.eq_of_beq_eq_true g2
  replace g3 := Nat.eq_of_beq_eq_true g3
  replace g4 := Nat.eq_of_beq_eq_true g4
  subst g1
  subst g2
  subst g3
  subst g4
  have h900 : Nat.ble 900 z3 = false := by
    cases hq : Nat.ble 900 z3 with
    | false => rfl
    | true => have := Nat.le_of_ble_eq_true hq; omega
  rw [h900] at g5
  simp only [cond_false, Bool.and_eq_true, decide_eq_true_eq, Nat.blt_eq] at g5
  obtain ⟨g6, g7, g8, g9, g10⟩ := g5
  have g9 := Nat.le_of_ble_eq_true g9
  have g10 := Nat.le_of_ble_eq_true g10
  obtain ⟨⟨w1, w2, w3, w4, w5⟩, w6⟩ := okW_at ha1
  rcases w6 with ⟨w6, -⟩ | ⟨w6, w7, w8⟩
  · rw [w6] at g6; cases g6
  rw [w6] at g6
  have g6 : _ = c1 := Nat.eq_of_beq_eq_true g6
  have hlw := List.all_eq_true.mp okCS_ _ hz
  have hl := hts _ (tb_at hlw)
  have hxy : xY z3 = iY z3 := by
    unfold xY
    have e1 : Nat.beq z3 900 = false := by
      cases hq : Nat.beq z3 900 with
      | false => rfl
      | true => have := Nat.eq_of_beq_eq_true hq; omega
    have e2 : Nat.beq z3 901 = false := by
      cases hq : Nat.beq z3 901 with
      | false => rfl
      | true => have := Nat.eq_of_beq_eq_true hq; omega
    have e3 : Nat.beq z3 902 = false := by
      cases hq : Nat.beq z3 902 with
      | false => rfl
      | true => have := Nat.eq_of_beq_eq_true hq; omega
    rw [e1, e2, e3]
    rfl
  rw [hxy] at hl
  intro H locs ls hI
  obtain ⟨hR, hO, hCn, hLH, hN, hOL, hOs, hlc⟩ := id hI
  have hav : ∀ w ∈ (.inr (.inr (t, k, i)) :: ar : List AV), okv (Vv VW) w := fun w hw' => hOs w (mem_take (n := b) (by rw [htk]; exact hw'))
  have hM := hC _ _ _ _ hw ha1 hav
  have hct' : cof t < 11 := by rw [hct, ← g6]; exact iO_lt ha1 w6
  have hV := V_obj (okhead hav) hct'
  have hlen : ar.length = b - 1 := by
    have h1 := congrArg List.length htk
    simp only [List.length_reverse, List.length_take, List.length_cons] at h1
    omega
  have hst : st.map (conc ad) = (ar.map (conc ad)).reverse ++ .ref (ad (t, k, i)) :: (st.drop b).map (conc ad) := by
    have h1 : st.take b = ar.reverse ++ [.inr (.inr (t, k, i))] := by
      have := congrArg List.reverse htk
      rw [List.reverse_reverse, List.reverse_cons] at this
      exact this
    have h2 : st = (ar.reverse ++ [.inr (.inr (t, k, i))]) ++ st.drop b := by rw [← h1, List.take_append_drop]
    conv => lhs; rw [h2]
    simp only [List.map_append, List.map_reverse, List.map_cons, List.map_nil, List.append_assoc, List.cons_append, List.nil_append]
    rfl
  rw [hst]
  have hG := gw_in ha1
  refine r_call (Q1 := asK (rkm z3) v.toNat (fun w σ' => K (pc + 3, L, w ++ st.drop b, σ'))) (va_runV (C := (iY z3).cls) (As := ar.map (conc ad)) (rest := (st.drop b).map (conc ad)) (Pc := PX D dA ad VW b0 adK adV adT (.inr (.inr (t, k, i)) :: ar) σ) ⟨hx, hb, hml, hown, hts⟩ hM
    ⟨callB_of (b - 1) hts hG rfl rfl rfl (hts _ w2) hl ⟨w5.1, w5.2, g7⟩ ⟨g9, g10⟩, hts _ w7, hts _ w8⟩
    ⟨PX_blind, (by rw [← w3, g6, ← hct]; exact recv hS hR hV hct'), fun U hU hW => PX_at hS hR hO hCn U hU hW⟩ rfl (by rw [List.length_map]; exact hlen) hLH.1 rfl (lv_room (by rw [cats_sum]; exact hc8)) hdg ⟨Nat.le_refl _, Nat.le_refl _⟩) hlc fun r σ' H1 locs1 hq hR1 hO1 hC1 ho hl1 => ?_
  obtain ⟨w, hkw, hrw, how⟩ := asK_w (ad := ad) hq ho
  rw [hrw, ← List.map_append]
  exact hK _ _ _ _ hkw H1 locs1 ls ⟨hR1, hO1, hC1, hLH, hN, hOL, fun x hx' => (List.mem_append.mp hx').elim (how x) (fun hd => hOs x (List.mem_of_mem_drop hd)), hl1⟩
theorem s_callS {ix : Nat} (hE : EV ad VW b0 adK adT) (hK : ∀ pc' L' st' σ', K (pc', L', st', σ') → WG D dA ad VW b0 adK adV adT p l e s m args below meth c a Q pc' L' st' σ') (hF : FX a p s m args meth c) (hS : VS D dA adK s)
    (hC : ∀ m' av σ' Q1, C m' av σ' Q1 → m' < 334 → (∀ w ∈ av, okv (Vv VW) w) → MX D dA ad VW b0 adK adV adT l m' av σ' Q1) (ha1 : a1 < 334)
    (hk : okI a (pc, .invokestatic ix, len, a1, b, c1, v) = true) (hdg : decode (iB a) pc = .ok (.invokestatic ix, len)) (hb1 : b ≤ st.length) (hc8 : cats (st.drop b) ≤ 8)
    (hw : C a1 (st.take b).reverse σ (asK (rkm a1) v.toNat (fun w σ' => K (pc + len, L, w ++ st.drop b, σ')))) : WG D dA ad VW b0 adK adV adT p l e s m args below meth c a Q pc L st σ := by
  obtain ⟨hx, hb, hml, hown, hts, hr, hlk⟩ := id hF
  simp only [okI, Bool.and_eq_true] at hk
  obtain rfl : len = 3 := Nat.eq_of_beq_eq_true hk.1
  obtain ⟨⟨z1, z2, z3, z4, z5⟩, hz, hz2⟩ := List.any_eq_true.mp hk.2
  simp only [Bool.and_eq_true] at hz2
  obtain ⟨g1, g2, g3, g5⟩ := hz2
  replace g1 := Nat.eq_of_beq_eq_true g1
  replace g2 := Nat.eq_of_beq_eq_true g2
  replace g3 := Nat.eq_of_beq_eq_true g3
  subst g1
  subst g2
  subst g3
  have h900 : Nat.ble 900 z3 = false := by
    cases hq : Nat.ble 900 z3 with
    | false => rfl
    | true => have := Nat.le_of_ble_eq_true hq; omega
  rw [h900] at g5
  simp only [cond_false, Bool.and_eq_true, decide_eq_true_eq] at g5
  obtain ⟨g6, g7, g9, g10⟩ := g5
  have g9 := Nat.le_of_ble_eq_true g9
  have g10 := Nat.le_of_ble_eq_true g10
  obtain ⟨⟨w1, w2, w3, w4, w5⟩, w6⟩ := okW_at ha1
  replace w6 : iSt z3 = true ∧ Cond.static (iY z3) ∈ TB := by
    rcases w6 with h | ⟨h, -⟩
    · exact h
    · rw [h] at g6; cases g6
  obtain ⟨w6, w7⟩ := w6
  have hlw := List.all_eq_true.mp okCS_ _ hz
  have hnest := hS.2.2.2.2.2.2 _ hz
  dsimp only at hnest
  have hxy : xY z3 = iY z3 := by
    unfold xY
    have e1 : Nat.beq z3 900 = false := by
      cases hq : Nat.beq z3 900 with
      | false => rfl
      | true => have := Nat.eq_of_beq_eq_true hq; omega
    have e2 : Nat.beq z3 901 = false := by
      cases hq : Nat.beq z3 901 with
      | false => rfl
      | true => have := Nat.eq_of_beq_eq_true hq; omega
    have e3 : Nat.beq z3 902 = false := by
      cases hq : Nat.beq z3 902 with
      | false => rfl
      | true => have := Nat.eq_of_beq_eq_true hq; omega
    rw [e1, e2, e3]
    rfl
  rw [hxy] at hnest
  intro H locs ls hI
  obtain ⟨hR, hO, hCn, hLH, hN, hOL, hOs, hlc⟩ := id hI
  have hav : ∀ w ∈ (st.take b).reverse, okv (Vv VW) w := fun w hw' => hOs w (mem_take hw')
  have hM := hC _ _ _ _ hw ha1 hav
  have hst : st.map (conc ad) = (((st.take b).reverse).map (conc ad)).reverse ++ (st.drop b).map (conc ad) := by
    rw [List.map_reverse, List.reverse_reverse, ← List.map_append, List.take_append_drop]
  have hlen : (((st.take b).reverse).map (conc ad)).length = b := by
    simp only [List.length_map, List.length_reverse, List.length_take]
    omega
  rw [hst]
  have hG := gw_in ha1
  have go : va_Run p l e (RMx a) s m args below meth c H locs 0 0 0 0 (F0 m pc ls ((((st.take b).reverse).map (conc ad)).reverse ++ (st.drop b).map (conc ad))) ((st.drop b).map (conc ad)) (SQ D dA ad VW b0 adK adV adT (asK (rkm z3) v.toNat (fun w σ' => K (pc + 3, L, w ++ st.drop b, σ'))) (((st.take b).reverse).map (conc ad)).toArray) (A0 b0) := by
    rcases z4 with _ | z4
    · have hl := hts _ (tb_at hlw)
      rw [hxy] at hl
      exact va_runS (As := ((st.take b).reverse).map (conc ad)) (rest := (st.drop b).map (conc ad)) (Pc := PX D dA ad VW b0 adK adV adT (st.take b).reverse σ) ⟨hx, hb, hml, hown, hts⟩ hM
        ⟨callB_of b hts hG rfl rfl rfl (hts _ w2) hl ⟨w5.1, w5.2, g7⟩ ⟨g9, g10⟩, hts _ w7⟩ ⟨PX_blind, fun U hU hW => PX_at hS hR hO hCn U hU hW⟩ rfl hlen hLH.1 rfl (lv_room (by rw [cats_sum]; exact hc8)) hdg ⟨Nat.le_refl _, Nat.le_refl _⟩
    · have hl := hnest (by omega)
      exact va_runSN (As := ((st.take b).reverse).map (conc ad)) (rest := (st.drop b).map (conc ad)) (Pc := PX D dA ad VW b0 adK adV adT (st.take b).reverse σ) ⟨hx, hb, hml, hown, hts⟩ hM
        ⟨va_cnB b hts hG rfl rfl rfl hl (hts _ w2) ⟨w5.1, w5.2, g7⟩ ⟨g9, g10⟩, hts _ w7, trivial⟩ ⟨PX_blind, fun U hU hW => PX_at hS hR hO hCn U hU hW⟩ rfl hlen hLH.1 rfl (lv_room (by rw [cats_sum]; exact hc8)) hdg ⟨Nat.le_refl _, Nat.le_refl _⟩
  refine r_call go hlc fun r σ' H1 locs1 hq hR1 hO1 hC1 ho hl1 => ?_
  obtain ⟨w, hkw, hrw, how⟩ := asK_w (ad := ad) hq ho
  rw [hrw, ← List.map_append]
  exact hK _ _ _ _ hkw H1 locs1 ls ⟨hR1, hO1, hC1, hLH, hN, hOL, fun x hx' => (List.mem_append.mp hx').elim (how x) (fun hd => hOs x (List.mem_of_mem_drop hd)), hl1⟩
end CAL
