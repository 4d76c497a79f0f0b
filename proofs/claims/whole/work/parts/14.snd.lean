/-! the JDK's calls; then the whole: the machine does what wp says -/
theorem xY_len : xY 901 = yS_len := by decide +kernel
theorem xY_chr : xY 902 = yS_chr := by decide +kernel
theorem xY_cpy : xY 900 = arraycopyName := by decide +kernel
theorem jdk_link {a pc ix len b c1 a1 : Nat} {v : Int} (h9 : Nat.ble 900 a1 = true) (hk : okI a (pc, .invokevirtual ix, len, a1, b, c1, v) = true) : len = 3 ∧ 4 ≤ iF a ∧ 120 ≤ iL a ∧ Cond.methodLink (cRn (iO a)) ix (xY a1) ∈ TB := by
  simp only [okI, Bool.and_eq_true] at hk
  obtain ⟨⟨z1, z2, z3, z4, z5⟩, hz, hz2⟩ := List.any_eq_true.mp hk.2
  simp only [Bool.and_eq_true] at hz2
  obtain ⟨g1, g2, g3, g4, g5⟩ := hz2
  replace g1 := Nat.eq_of_beq_eq_true g1
  replace g2 := Nat.eq_of_beq_eq_true g2
  replace g3 := Nat.eq_of_beq_eq_true g3
  replace g4 := Nat.eq_of_beq_eq_true g4
  rw [h9] at g5
  simp only [cond_true, Bool.and_eq_true] at g5
  have hlw := List.all_eq_true.mp okCS_ _ hz
  rw [← g1, ← g2, ← g3]
  refine ⟨Nat.eq_of_beq_eq_true hk.1, ?_, ?_, ?_⟩
  · exact Nat.le_of_ble_eq_true g5.1
  · exact Nat.le_of_ble_eq_true g5.2
  · rw [g4] at hlw
    exact tb_at hlw
theorem jdk_linkS {a pc ix len b c1 a1 : Nat} {v : Int} (h9 : Nat.ble 900 a1 = true) (hk : okI a (pc, .invokestatic ix, len, a1, b, c1, v) = true) : len = 3 ∧ 1 ≤ iF a ∧ 60 ≤ iL a ∧ Cond.methodLink (cRn (iO a)) ix (xY a1) ∈ TB := by
  simp only [okI, Bool.and_eq_true] at hk
  obtain ⟨⟨z1, z2, z3, z4, z5⟩, hz, hz2⟩ := List.any_eq_true.mp hk.2
  simp only [Bool.and_eq_true] at hz2
  obtain ⟨g1, g2, g3, g5⟩ := hz2
  replace g1 := Nat.eq_of_beq_eq_true g1
  replace g2 := Nat.eq_of_beq_eq_true g2
  replace g3 := Nat.eq_of_beq_eq_true g3
  rw [h9] at g5
  simp only [cond_true, Bool.and_eq_true] at g5
  have g4 := Nat.eq_of_beq_eq_true g5.1
  have hlw := List.all_eq_true.mp okCS_ _ hz
  rw [← g1, ← g2, ← g3]
  refine ⟨Nat.eq_of_beq_eq_true hk.1, ?_, ?_, ?_⟩
  · exact Nat.le_of_ble_eq_true g5.2.1
  · exact Nat.le_of_ble_eq_true g5.2.2
  · rw [g4] at hlw
    exact tb_at hlw
theorem nat_words : nativeFrameWords "java/lang/System" "arraycopy" 5 ≤ 41 := by decide +kernel
theorem cats_app : ∀ x y : List AV, cats (x ++ y) = cats x + cats y
  | [], y => by show cats y = 0 + cats y; omega
  | v :: r, y => by
    show cat v + cats (r ++ y) = cat v + cats r + cats y
    rw [cats_app r y]
    omega
theorem cats_rev : ∀ x : List AV, cats x.reverse = cats x
  | [] => rfl
  | v :: r => by
    rw [List.reverse_cons, cats_app, cats_rev r]
    show cats r + (cat v + 0) = cat v + cats r
    omega
theorem agk_rev (a : Nat) (x : List AV) : agk a x.reverse = agk a x := by
  unfold agk
  rw [cats_rev, List.length_reverse]
theorem ent_len : ∀ av : List AV, (ent av).length = cats av
  | [] => rfl
  | .inl x :: r => by
    show (ent r).length + 1 = 1 + cats r
    rw [ent_len r]
    omega
  | .inr (.inl x) :: r => by
    show (ent r).length + 1 + 1 = 2 + cats r
    rw [ent_len r]
    omega
  | .inr (.inr x) :: r => by
    show (ent r).length + 1 = 1 + cats r
    rw [ent_len r]
    omega
theorem sl_len (ad : HD → Nat) : ∀ av : List AV, (lg_sl (av.map (conc ad))).length = cats av
  | [] => rfl
  | v :: r => by
    show ((if (conc ad v).category = 2 then [Slot.val (conc ad v), .second] else [.val (conc ad v)]) ++ lg_sl (r.map (conc ad))).length = cat v + cats r
    rw [List.length_append, sl_len ad r]
    rcases v with x | x | x <;> rfl
theorem ent_get (ad : HD → Nat) : ∀ (av : List AV) (n i : Nat) (v : AV), (ent av).getD i none = some v → (n + i, conc ad v) ∈ lv_args n (av.map (conc ad)) ∧ v ∈ av
  | [], _, _, _, h => by cases h
  | .inl x :: r, n, 0, v, h => by
    have e : AV := .inl x
    obtain rfl : Sum.inl x = v := Option.some.inj h
    exact ⟨List.mem_cons_self, List.mem_cons_self⟩
  | .inl x :: r, n, i + 1, v, h => by
    obtain ⟨h1, h2⟩ := ent_get ad r (n + 1) i v h
    rw [show n + 1 + i = n + (i + 1) by omega] at h1
    exact ⟨List.mem_cons_of_mem _ h1, List.mem_cons_of_mem _ h2⟩
  | .inr (.inl x) :: r, n, 0, v, h => by
    obtain rfl : Sum.inr (Sum.inl x) = v := Option.some.inj h
    exact ⟨List.mem_cons_self, List.mem_cons_self⟩
  | .inr (.inl x) :: r, n, 1, v, h => by cases h
  | .inr (.inl x) :: r, n, i + 2, v, h => by
    obtain ⟨h1, h2⟩ := ent_get ad r (n + 2) i v h
    rw [show n + 2 + i = n + (i + 2) by omega] at h1
    exact ⟨List.mem_cons_of_mem _ h1, List.mem_cons_of_mem _ h2⟩
  | .inr (.inr x) :: r, n, 0, v, h => by
    obtain rfl : Sum.inr (Sum.inr x) = v := Option.some.inj h
    exact ⟨List.mem_cons_self, List.mem_cons_self⟩
  | .inr (.inr x) :: r, n, i + 1, v, h => by
    obtain ⟨h1, h2⟩ := ent_get ad r (n + 1) i v h
    rw [show n + 1 + i = n + (i + 1) by omega] at h1
    exact ⟨List.mem_cons_of_mem _ h1, List.mem_cons_of_mem _ h2⟩
theorem inits_get {a : Nat} {av : List AV} {i : Nat} {v : AV} (h : (inits a av).getD i none = some v) : (ent av).getD i none = some v := by
  unfold inits at h
  rw [List.getD_eq_getElem?_getD] at h ⊢
  rcases Nat.lt_or_ge i (ent av).length with q | q
  · rwa [List.getElem?_append_left q] at h
  · rw [List.getElem?_append_right q, List.getElem?_replicate] at h
    split at h <;> simp at h
theorem cats_ge : ∀ av : List AV, av.length ≤ cats av
  | [] => Nat.le_refl _
  | v :: r => by
    have h1 := cats_ge r
    have h2 : 1 ≤ cat v := by rcases v with x | x | x <;> (show 1 ≤ _; exact Nat.le_of_ble_eq_true rfl)
    show r.length + 1 ≤ cat v + cats r
    omega
theorem cats_one : ∀ av : List AV, cats av = av.length → ∀ v ∈ av, cat v = 1
  | [], _, _, h => by cases h
  | w :: r, h, v, hv => by
    have h1 := cats_ge r
    have h2 : 1 ≤ cat w := by rcases w with x | x | x <;> (show 1 ≤ _; exact Nat.le_of_ble_eq_true rfl)
    have h3 : cat w + cats r = r.length + 1 := h
    rcases List.mem_cons.mp hv with rfl | hv
    · omega
    · exact cats_one r (by omega) v hv
section SOUND
variable {D : va_G} {dA : Nat → ClassId} {ad : HD → Nat} {VW : HD → Prop} {b0 : Nat} {adK adV adT : Nat → Nat}
variable {p : Program} {l : Launch} {e : Env} {s : State} {m : MethodId} {args : Array Value} {below : List Frame} {meth : Method} {c : Code}
variable {a pc len a1 b c1 : Nat} {v : Int} {L : LV} {st : List AV} {σ : ST} {Q : Option AV → ST → Prop} {K : NX → Prop} {C : Nat → List AV → ST → (Option AV → ST → Prop) → Prop}
theorem s_slen {ix : Nat} {k i : Int} {r : List AV} (hE : EV ad VW b0 adK adT) (hK : ∀ pc' L' st' σ', K (pc', L', st', σ') → WG D dA ad VW b0 adK adV adT p l e s m args below meth c a Q pc' L' st' σ') (hF : FX a p s m args meth c)
    (hk : okI a (pc, .invokevirtual ix, len, 901, b, c1, v) = true) (hdg : decode (iB a) pc = .ok (.invokevirtual ix, len)) (hc8 : cats r ≤ 8) (hg : 0 ≤ k ∧ k < (strs.length : Int)) (hw : K (pc + len, L, .inl ((strs.getD k.toNat []).length : Int) :: r, σ)) : WG D dA ad VW b0 adK adV adT p l e s m args below meth c a Q pc L (.inr (.inr (70, k, i)) :: r) σ := by
  obtain ⟨hx, hb, hml, hown, hts, hr, hlk⟩ := id hF
  obtain ⟨rfl, hf4, hl120, hlink⟩ := jdk_link rfl hk
  rw [xY_len] at hlink
  have hi : k.toNat < 26 := by
    have : strs.length = 26 := by decide +kernel
    omega
  intro H locs ls hI
  obtain ⟨hR, hO, hCn, hLH, hN, hOL, hOs, hlc⟩ := id hI
  obtain ⟨cellK, k1, k2', k3, -⟩ := (hO.1.1 k.toNat hi).1
  have had : ad (70, k, i) = adK k.toNat := hE.2.2.2.2.1 k i
  have hst : ((.inr (.inr (70, k, i)) :: r : List AV)).map (conc ad) = .ref (adK k.toNat) :: r.map (conc ad) := by rw [← had]; rfl
  rw [hst]
  refine r_callRQ (va_runV (own := cRn (iO a)) (C := "java/lang/String") (index := ix) (y := yS_len) (As := []) (rest := r.map (conc ad)) ⟨hx, hb, hml, hown, hts⟩ (m_len l hi)
    ⟨callB_of 0 hts (gw_code tb_len) rfl rfl rfl (hts _ tb_s12) (hts _ hlink) (by decide +kernel) ⟨by show 1 + 1 ≤ iF a; omega, by show 8 + (1 + 11) + 20 ≤ iL a; omega⟩, hts _ (tb_at (h := 3023) (by decide +kernel)), hts _ (tb_at (h := 3024) (by decide +kernel))⟩ ⟨PS_blind, ⟨cellK, k1, k2', k3⟩, fun U hU hW => PS_at hO U hU hW⟩ rfl rfl hLH.1 rfl (lv_room (by rw [cats_sum]; exact hc8)) hdg ⟨Nat.le_refl _, Nat.le_refl _⟩) ?_
  obtain ⟨hle, hlt⟩ := str_len hi
  exact hK _ _ _ _ hw H locs ls ⟨hR, hO, hCn, hLH, hN, hOL, okcons (by show in32 _; constructor <;> omega) (oktail hOs), hlc⟩
theorem s_schr {ix : Nat} {k i j : Int} {r : List AV} (hE : EV ad VW b0 adK adT) (hK : ∀ pc' L' st' σ', K (pc', L', st', σ') → WG D dA ad VW b0 adK adV adT p l e s m args below meth c a Q pc' L' st' σ') (hF : FX a p s m args meth c)
    (hk : okI a (pc, .invokevirtual ix, len, 902, b, c1, v) = true) (hdg : decode (iB a) pc = .ok (.invokevirtual ix, len)) (hc8 : cats r ≤ 8) (hg : (0 ≤ k ∧ k < (strs.length : Int)) ∧ 0 ≤ j ∧ j < ((strs.getD k.toNat []).length : Int)) (hw : K (pc + len, L, .inl ((strs.getD k.toNat []).getD j.toNat 0) :: r, σ)) : WG D dA ad VW b0 adK adV adT p l e s m args below meth c a Q pc L (.inl j :: .inr (.inr (70, k, i)) :: r) σ := by
  obtain ⟨hx, hb, hml, hown, hts, hr, hlk⟩ := id hF
  obtain ⟨rfl, hf4, hl120, hlink⟩ := jdk_link rfl hk
  rw [xY_chr] at hlink
  have hi : k.toNat < 26 := by
    have : strs.length = 26 := by decide +kernel
    omega
  obtain ⟨jn, rfl⟩ := Int.eq_ofNat_of_zero_le hg.2.1
  have hj : jn < (strs.getD k.toNat []).length := by omega
  rw [Int.toNat_natCast] at hw
  intro H locs ls hI
  obtain ⟨hR, hO, hCn, hLH, hN, hOL, hOs, hlc⟩ := id hI
  obtain ⟨cellK, k1, k2', k3, -⟩ := (hO.1.1 k.toNat hi).1
  have had : ad (70, k, i) = adK k.toNat := hE.2.2.2.2.1 k i
  have hst : ((.inl (jn : Int) :: .inr (.inr (70, k, i)) :: r : List AV)).map (conc ad) = .int (Int32.ofNat jn) :: .ref (adK k.toNat) :: r.map (conc ad) := by
    rw [← had, ← Int32.ofInt_eq_ofNat]
    rfl
  rw [hst]
  refine r_callRQ (va_runV (own := cRn (iO a)) (C := "java/lang/String") (index := ix) (y := yS_chr) (As := [.int (Int32.ofNat jn)]) (rest := r.map (conc ad)) ⟨hx, hb, hml, hown, hts⟩ (m_chr l hi hj)
    ⟨callB_of 1 hts (gw_code tb_chr) rfl rfl rfl (hts _ tb_s12) (hts _ hlink) (by decide +kernel) ⟨by show 3 + 1 ≤ iF a; omega, by show 8 + (2 + 11) + 64 ≤ iL a; omega⟩, hts _ (tb_at (h := 3033) (by decide +kernel)), hts _ (tb_at (h := 3034) (by decide +kernel))⟩ ⟨PS_blind, ⟨cellK, k1, k2', k3⟩, fun U hU hW => PS_at hO U hU hW⟩ rfl rfl hLH.1 rfl (lv_room (by rw [cats_sum]; exact hc8)) hdg ⟨Nat.le_refl _, Nat.le_refl _⟩) ?_
  obtain ⟨hby, hnr, hin⟩ := str_byt hi hj
  exact hK _ _ _ _ hw H locs ls ⟨hR, hO, hCn, hLH, hN, hOL, okcons hin (oktail (oktail hOs)), hlc⟩
theorem s_copy {ix t t1 : Nat} {k i k1 i1 sp dp n : Int} {r : List AV} (hE : EV ad VW b0 adK adT) (hK : ∀ pc' L' st' σ', K (pc', L', st', σ') → WG D dA ad VW b0 adK adV adT p l e s m args below meth c a Q pc' L' st' σ') (hF : FX a p s m args meth c) (hS : VS D dA adK s)
    (hk : okI a (pc, .invokestatic ix, len, 900, b, c1, v) = true) (hdg : decode (iB a) pc = .ok (.invokestatic ix, len)) (hc8 : cats r ≤ 8) (he : ek t = 0) (he1 : ek t1 = 0) (hg : 0 ≤ sp ∧ 0 ≤ dp ∧ 0 ≤ n ∧ sp + n ≤ al t ∧ dp + n ≤ al t1)
    (hw : K (pc + len, L, r, cpy σ t k i sp t1 k1 i1 dp n)) : WG D dA ad VW b0 adK adV adT p l e s m args below meth c a Q pc L (.inl n :: .inl dp :: .inr (.inr (t1, k1, i1)) :: .inl sp :: .inr (.inr (t, k, i)) :: r) σ := by
  obtain ⟨hx, hb, hml, hown, hts, hr, hlk⟩ := id hF
  obtain ⟨rfl, hf1, hl60, hlink⟩ := jdk_linkS rfl hk
  rw [xY_cpy] at hlink
  intro H locs ls hI
  obtain ⟨hR, hO, hCn, hLH, hN, hOL, hOs, hlc⟩ := id hI
  have hV1 := V_arr (okhead (oktail (oktail hOs))) (by rw [he1]; decide)
  have hV := V_arr (okhead (oktail (oktail (oktail (oktail hOs))))) (by rw [he]; decide)
  have hnw := nat_words
  refine r_copy hx hb (hml.trans hLH.1.symm) hown hts (hts _ hlink) hE hS hR hO hCn hV hV1 he he1 hg.1 hg.2.1 hg.2.2.1 hg.2.2.2.1 hg.2.2.2.2 (by show 1 ≤ iF a; exact hf1) (by rw [cats_sum]; show _ ≤ iL a; omega) hdg hlc ?_
  intro H1 locs1 hl1 hR1 hO1
  exact hK _ _ _ _ hw H1 locs1 ls ⟨hR1, hO1, Cn_cpy hCn he he1, hLH, hN, hOL, oktail (oktail (oktail (oktail (oktail hOs)))), hl1⟩
theorem jmp {off : Int} (h : decide (0 ≤ (pc : Int) + off) = true) : (pc : Int) + off = (tgt pc off : Int) := (Int.toNat_of_nonneg (of_decide_eq_true h)).symm
/-- one instruction, whichever -/
theorem s_any {ins : Instr} (hE : EV ad VW b0 adK adT) (hK : ∀ pc' L' st' σ', K (pc', L', st', σ') → WG D dA ad VW b0 adK adV adT p l e s m args below meth c a Q pc' L' st' σ') (hF : FX a p s m args meth c) (hS : VS D dA adK s)
    (hC : ∀ m' av σ' Q1, agk m' av = true ∧ C m' av σ' Q1 → m' < 334 → (∀ w ∈ av, okv (Vv VW) w) → MX D dA ad VW b0 adK adV adT l m' av σ' Q1) (ha : a < 334)
    (hj : okJe (pc, ins, len, a1, b, c1, v) = true) (hk : okI a (pc, ins, len, a1, b, c1, v) = true) (hdg : decode (iB a) pc = .ok (ins, len)) (hw : run1 K C Q (stepI (hlm a) (rkm a) rkm (pc, ins, len, a1, b, c1, v) pc L st σ)) : WG D dA ad VW b0 adK adV adT p l e s m args below meth c a Q pc L st σ := by
  cases ins with
  | iconst n => exact s_iconst hK hF hS hk hdg hw
  | bipush n => exact s_bipush hK hF hS hk hdg hw
  | sipush n => exact s_sipush hK hF hS hk hdg hw
  | lconst n => exact s_lconst hK hF hS hk hdg hw
  | ldc ix => exact s_ldc hK hF hS hE hk hdg hw
  | ldc_w ix => exact s_ldc_w hK hF hS hE hk hdg hw
  | ldc2_w ix => exact s_ldc2_w hK hF hS hk hdg hw
  | iload i => exact s_iload hK hF hS hk hdg hw
  | iload_n i => exact s_iload_n hK hF hS hk hdg hw
  | lload_n i => exact s_lload_n hK hF hS hk hdg hw
  | aload i => exact s_aload hK hF hS hk hdg hw
  | aload_n i => exact s_aload_n hK hF hS hk hdg hw
  | istore i => exact s_istore hK hF hS hk hdg hw
  | istore_n i => exact s_istore_n hK hF hS hk hdg hw
  | astore i => exact s_astore hK hF hS hk hdg hw
  | astore_n i => exact s_astore_n hK hF hS hk hdg hw
  | lstore_n i => exact s_lstore_n hK hF hS hk hdg hw
  | iinc i n => exact s_iinc hK hF hS hk hdg hw
  | iadd => exact s_iadd hK hF hS hk hdg hw
  | isub => exact s_isub hK hF hS hk hdg hw
  | imul => exact s_imul hK hF hS hk hdg hw
  | iand => exact s_iand hK hF hS hk hdg hw
  | ior => exact s_ior hK hF hS hk hdg hw
  | ixor => exact s_ixor hK hF hS hk hdg hw
  | ishl => exact s_ishl hK hF hS hk hdg hw
  | ishr => exact s_ishr hK hF hS hk hdg hw
  | iushr => exact s_iushr hK hF hS hk hdg hw
  | irem => exact s_irem hK hF hS hk hdg hw
  | ladd => exact s_ladd hK hF hS hk hdg hw
  | lsub => exact s_lsub hK hF hS hk hdg hw
  | lmul => exact s_lmul hK hF hS hk hdg hw
  | lcmp => exact s_lcmp hK hF hS hk hdg hw
  | i2l => exact s_i2l hK hF hS hk hdg hw
  | dup => exact s_dup hK hF hS hk hdg hw
  | dup2 => exact s_dup2 hK hF hS hk hdg hw
  | dup_x1 => exact s_dup_x1 hK hF hS hk hdg hw
  | pop => exact s_pop hK hF hS hk hdg hw
  | goto off => exact s_goto hK hF hS (jmp hj) hk hdg hw
  | ifCond o off => exact s_ifCond hK hF hS (jmp hj) hk hdg hw
  | if_icmp o off => exact s_if_icmp hK hF hS (jmp hj) hk hdg hw
  | tableswitch d lo hi offs => exact s_tableswitch hK hF hS (fun z hz => jmp (by simp only [okJe, Bool.and_eq_true] at hj; rcases hz with rfl | hz; exact hj.1; exact List.all_eq_true.mp hj.2 z (Array.mem_toList_iff.mpr hz))) hk hdg hw
  | getstatic ix => exact s_getstatic hK hF hS hE hk hdg hw
  | getfield ix => exact s_getfield hK hF hS hE hk hdg hw
  | putfield ix => exact s_putfield hK hF hS hE hk hdg hw
  | iaload => exact s_iaload hK hF hS hE hk hdg hw
  | baload => exact s_baload hK hF hS hE hk hdg hw
  | aaload => exact s_aaload hK hF hS hE hk hdg hw
  | iastore => exact s_iastore hK hF hS hE hk hdg hw
  | bastore => exact s_bastore hK hF hS hE hk hdg hw
  | ireturn => exact s_ireturn hK hF hS ha hk hdg hw
  | lreturn => exact s_lreturn hK hF hS ha hk hdg hw
  | areturn => exact s_areturn hK hF hS ha hk hdg hw
  | return_ => exact s_return_ hK hF hS ha hk hdg hw
  | invokevirtual ix =>
    replace hw : run1 K C Q (bif Nat.beq a1 901 then _ else bif Nat.beq a1 902 then _ else bif Nat.ble b st.length && Nat.ble (cats (st.drop b)) 8 && agk a1 (st.take b) then (match (st.take b).reverse with
      | .inr (.inr (t, k, i)) :: ar => bif Nat.beq (cof t) c1 then some (none, .inr (.inr (.inr (.inl (a1, .inr (.inr (t, k, i)) :: ar, rkm a1, v.toNat, pc + len, L, st.drop b, σ))))) else none
      | _ => none) else none) := hw
    cases h1 : Nat.beq a1 901 with
    | true =>
      rw [h1] at hw
      simp only [cond_true] at hw
      obtain rfl := Nat.eq_of_beq_eq_true h1
      split at hw
      · rename_i k i r
        cases h8 : Nat.ble (cats r) 8 with
        | false => rw [h8] at hw; exact hw.elim
        | true =>
          rw [h8] at hw
          have hw2 : (0 ≤ k ∧ k < (strs.length : Int)) ∧ K (pc + len, L, .inl ((strs.getD k.toNat []).length : Int) :: r, σ) := hw
          exact s_slen hE hK hF hk hdg (Nat.le_of_ble_eq_true h8) hw2.1 hw2.2
      · exact hw.elim
    | false =>
      rw [h1] at hw
      simp only [cond_false] at hw
      cases h2 : Nat.beq a1 902 with
      | true =>
        rw [h2] at hw
        simp only [cond_true] at hw
        obtain rfl := Nat.eq_of_beq_eq_true h2
        split at hw
        · rename_i j k i r
          cases h8 : Nat.ble (cats r) 8 with
          | false => rw [h8] at hw; exact hw.elim
          | true =>
            rw [h8] at hw
            have hw2 : ((0 ≤ k ∧ k < (strs.length : Int)) ∧ 0 ≤ j ∧ j < ((strs.getD k.toNat []).length : Int)) ∧ K (pc + len, L, .inl ((strs.getD k.toNat []).getD j.toNat 0) :: r, σ) := hw
            exact s_schr hE hK hF hk hdg (Nat.le_of_ble_eq_true h8) hw2.1 hw2.2
        · exact hw.elim
      | false =>
        rw [h2] at hw
        simp only [cond_false] at hw
        have ha1 : a1 < 334 := by
          have hj2 : (Nat.beq a1 901 || (Nat.beq a1 902 || Nat.blt a1 334)) = true := hj
          rw [h1, h2] at hj2
          exact Nat.blt_eq.mp hj2
        cases h3 : (Nat.ble b st.length && Nat.ble (cats (st.drop b)) 8 && agk a1 (st.take b)) with
        | false => rw [h3] at hw; exact hw.elim
        | true =>
          rw [h3] at hw
          simp only [cond_true] at hw
          simp only [Bool.and_eq_true] at h3
          rcases htk : (st.take b).reverse with _ | ⟨x | x | ⟨t, k, i⟩, ar⟩ <;> rw [htk] at hw <;> first | exact hw.elim | skip
          have hag : agk a1 (.inr (.inr (t, k, i)) :: ar) = true := by rw [← htk, agk_rev]; exact h3.2
          cases hct : Nat.beq (cof t) c1 with
          | false =>
            replace hw : run1 K C Q (bif Nat.beq (cof t) c1 then _ else none) := hw
            rw [hct] at hw
            exact hw.elim
          | true =>
            replace hw : run1 K C Q (bif Nat.beq (cof t) c1 then some (none, .inr (.inr (.inr (.inl (a1, .inr (.inr (t, k, i)) :: ar, rkm a1, v.toNat, pc + len, L, st.drop b, σ))))) else none) := hw
            rw [hct] at hw
            exact s_callV (C := fun m' av σ' Q1 => agk m' av = true ∧ C m' av σ' Q1) hE hK hF hS hC ha1 hk hdg (Nat.le_of_ble_eq_true h3.1.1) (Nat.le_of_ble_eq_true h3.1.2) htk (Nat.eq_of_beq_eq_true hct) ⟨hag, hw⟩
  | invokestatic ix =>
    replace hw : run1 K C Q (bif Nat.beq a1 900 then _ else bif Nat.ble b st.length && Nat.ble (cats (st.drop b)) 8 && agk a1 (st.take b) then some (none, .inr (.inr (.inr (.inl (a1, (st.take b).reverse, rkm a1, v.toNat, pc + len, L, st.drop b, σ))))) else none) := hw
    cases h1 : Nat.beq a1 900 with
    | true =>
      rw [h1] at hw
      simp only [cond_true] at hw
      obtain rfl := Nat.eq_of_beq_eq_true h1
      split at hw
      · rename_i n dp t1 k1 i1 sp t k i r
        split at hw
        · rename_i he he1
          cases h8 : Nat.ble (cats r) 8 with
          | false => rw [h8] at hw; exact hw.elim
          | true =>
            rw [h8] at hw
            have hw2 : (0 ≤ sp ∧ 0 ≤ dp ∧ 0 ≤ n ∧ sp + n ≤ al t ∧ dp + n ≤ al t1) ∧ K (pc + len, L, r, cpy σ t k i sp t1 k1 i1 dp n) := hw
            exact s_copy hE hK hF hS hk hdg (Nat.le_of_ble_eq_true h8) he he1 hw2.1 hw2.2
        · exact hw.elim
      · exact hw.elim
    | false =>
      rw [h1] at hw
      simp only [cond_false] at hw
      have ha1 : a1 < 334 := by
        have hj2 : (Nat.beq a1 900 || Nat.blt a1 334) = true := hj
        rw [h1] at hj2
        exact Nat.blt_eq.mp hj2
      cases h3 : (Nat.ble b st.length && Nat.ble (cats (st.drop b)) 8 && agk a1 (st.take b)) with
      | false => rw [h3] at hw; exact hw.elim
      | true =>
        rw [h3] at hw
        simp only [Bool.and_eq_true] at h3
        exact s_callS (C := fun m' av σ' Q1 => agk m' av = true ∧ C m' av σ' Q1) hE hK hF hS hC ha1 hk hdg (Nat.le_of_ble_eq_true h3.1.1) (Nat.le_of_ble_eq_true h3.1.2) ⟨by rw [agk_rev]; exact h3.2, hw⟩
  | _ => exact False.elim hw
/-- a method's contract, from its start -/
theorem mx_of (ha : a < 334) {av : List AV} (hag : agk a av = true) (hok : ∀ w ∈ av, okv (Vv VW) w)
    (h : ∀ (p : Program) (e : Env) (s : State) (m : MethodId) (args : Array Value) (below : List Frame) (meth : Method) (c : Code), FX a p s m args meth c → VS D dA adK s → WG D dA ad VW b0 adK adV adT p l e s m args below meth c a Q 0 (inits a av) [] σ) : MX D dA ad VW b0 adK adV adT l a av σ Q := by
  obtain ⟨⟨w1, w2, w3, w4, w5⟩, w6⟩ := okW_at ha
  refine va_MetF (cc := iB a) (maxL := mxl a) (ret := iR a) w4 rfl ?_
  intro p e s m args below meth c s₁ B hml hv0
  obtain ⟨rfl, hS, hR, hO, hCn⟩ := hv0
  have hts0 := atoms_spec (ws := WSx a) B.pre
  have hts : ∀ w ∈ TB, w.before (av.map (conc ad)).toArray s = true := fun w hw => hts0 w (List.mem_cons_of_mem _ hw)
  have hown : s.vm.findClass (cRn (iO a)) = some m.cls := by rw [w3]; exact findClass_of_methodNamed B.named
  simp only [agk, Bool.and_eq_true] at hag
  have hle := Nat.le_of_ble_eq_true hag.1
  have hl := lv_entry (av.map (conc ad)) (n := mxl a) (by rw [sl_len]; exact hle)
  rw [lg_entry_eq]
  refine h p e s m _ below meth c ⟨B.exec, B.bytes, hml, hown, hts, B.returns, B.notSynchronized⟩ hS s.heap [] _ ⟨hR, hO, hCn, ⟨hl.1, hl.2.1, fun i v hi => ?_⟩, fun hn i v hi => ?_, fun i v hi => ?_, (fun v hv => by cases hv), (fun q hq => by cases hq)⟩
  · have h1 := (ent_get ad av 0 i v (inits_get hi)).1
    rw [Nat.zero_add] at h1
    have h2 := hl.2.2 _ h1
    refine ⟨?_, h2⟩
    have h3 := (Array.getElem?_eq_some_iff.mp h2).1
    rw [hl.1] at h3
    exact h3
  · have h1 := (ent_get ad av 0 i v (inits_get hi)).2
    have h2 := hag.2
    rw [show Nat.beq a m_Z_spelled = false from hn] at h2
    exact cats_one av (Nat.eq_of_beq_eq_true h2) v h1
  · exact hok v (ent_get ad av 0 i v (inits_get hi)).2
theorem sound_F (l : Launch) (hE : EV ad VW b0 adK adT) : ∀ (n a : Nat) (x : NX) (Q : Option AV → ST → Prop), wpF n a x Q →
    ∀ (p : Program) (e : Env) (s : State) (m : MethodId) (args : Array Value) (below : List Frame) (meth : Method) (c : Code), FX a p s m args meth c → VS D dA adK s → WG D dA ad VW b0 adK adV adT p l e s m args below meth c a Q x.1 x.2.1 x.2.2.1 x.2.2.2
  | 0, _, _, _, h => fun _ _ _ _ _ _ _ _ _ _ => h.elim
  | n + 1, a, (pc, L, st, σ), Q, h => by
    intro p e s m args below meth c hF hS
    replace h : run1 (fun y => wpF n a y Q) (fun m' args σ Q' => wpF n m' (0, inits m' args, [], σ) Q') Q (ste a (pc, L, st, σ)) := h
    cases hf : fnd a pc with
    | none =>
      exfalso
      have e1 : ste a (pc, L, st, σ) = none := by
        show step (hlm a) (mth a).1 (rkm a) rkm pc L st σ = none
        unfold step
        rw [show find (mth a).1 pc = none from hf]
      rw [e1] at h
      exact h
    | some ce =>
      rw [ste_eq hf] at h
      obtain ⟨hk, he, ha⟩ := okE_at hf
      have hj := okJ_at hf
      obtain ⟨pc0, ins, len, a1, b, c1, v⟩ := ce
      obtain rfl : pc0 = pc := he
      simp only [okE, Bool.and_eq_true, decide_eq_true_eq] at hk
      exact s_any hE (fun pc' L' st' σ' hy => sound_F l hE n a (pc', L', st', σ') Q hy p e s m args below meth c hF hS) hF hS (fun m' av σ' Q1 hc hm hok => mx_of hm hc.1 hok (sound_F l hE n m' (0, inits m' av, [], σ') Q1 hc.2)) ha hj hk.2 hk.1 h
/-- THE soundness: what wp says of a method is its contract -/
theorem sound (l : Launch) (hE : EV ad VW b0 adK adT) (ha : a < 334) {av : List AV} (hag : agk a av = true) (hok : ∀ w ∈ av, okv (Vv VW) w) (h : wpM a av σ Q) : MX D dA ad VW b0 adK adV adT l a av σ Q := by
  obtain ⟨n, h⟩ := h
  exact mx_of ha hag hok (sound_F l hE n a _ Q h)
end SOUND
